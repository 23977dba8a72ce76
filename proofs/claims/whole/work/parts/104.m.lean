theorem d_CA_thingReads_0 : decode b_CA_thingReads 0 = .ok (.iload_n 2, 1) := by decide +kernel
theorem d_CA_thingReads_1 : decode b_CA_thingReads 1 = .ok (.iconst (-1), 1) := by decide +kernel
theorem d_CA_thingReads_2 : decode b_CA_thingReads 2 = .ok (.if_icmp .ne 10, 3) := by decide +kernel
theorem d_CA_thingReads_5 : decode b_CA_thingReads 5 = .ok (.iload_n 1, 1) := by decide +kernel
theorem d_CA_thingReads_6 : decode b_CA_thingReads 6 = .ok (.invokestatic 108, 3) := by decide +kernel
theorem d_CA_thingReads_9 : decode b_CA_thingReads 9 = .ok (.goto 9, 3) := by decide +kernel
theorem d_CA_thingReads_12 : decode b_CA_thingReads 12 = .ok (.aload_n 0, 1) := by decide +kernel
theorem d_CA_thingReads_13 : decode b_CA_thingReads 13 = .ok (.getfield 24, 3) := by decide +kernel
theorem d_CA_thingReads_16 : decode b_CA_thingReads 16 = .ok (.iload_n 2, 1) := by decide +kernel
theorem d_CA_thingReads_17 : decode b_CA_thingReads 17 = .ok (.iaload, 1) := by decide +kernel
theorem d_CA_thingReads_18 : decode b_CA_thingReads 18 = .ok (.ireturn, 1) := by decide +kernel
def f_CA_thingReads (x1 x2 : Int32) (σ : SS) : Option (Int32 × SS) :=
  (if x2 = (-1 : Int32) then (f_FL_setOf x1 σ).bind fun q4 => some (q4.1, q4.2) else (ld (σ 14) 40 x2).bind fun v2 => some (v2, σ))
set_option maxHeartbeats 4000000 in
set_option maxRecDepth 100000 in
theorem e_CA_thingReads {p : Program} {l : Launch} {e : Env} {s : State} {m : MethodId} {args : Array Value} {below : List Frame} {meth : Method} {c : Code} {D : va_G} {a t : Nat → Nat} {cI cZ : ClassId} (ha : aCC a) (F : CallFix p m c b_CA_thingReads 3 s args gt R_CA) (hr : meth.sig.returnType = some .int) (hlk : meth.locks = false) (hK : va_K D vwCl [(cI, .int), (cZ, .boolean)] s) (hT : stC t (aC a) s s.heap) :
    ∀ (x1 x2 : Int32) (σ : SS) (q : Int32 × SS), f_CA_thingReads x1 x2 σ = some q → ∀ (H : Heap) (locs : List Loc), va_P D vwCl ((wC a cI cZ) σ) H → va_S (aC a) s.heap H locs → ∀ (ls : Array Slot), lv_has ls 3 [(0, .ref (a 3)), (1, .int x1), (2, .int x2)] → W p l e { frames := 1, cells := 0, slots := 0, locals := 20 } s m args below meth c H locs 0 0 (MQ below (va_Qi (fun r u => r = q.1 ∧ u = q.2) (pW D (wC a cI cZ) [(cI, .int), (cZ, .boolean)] (stC t) (aC a)) (aC a)) args s 0 0 (aC a)) (F0 m 0 ls []) := by
  obtain ⟨hx, hb, hml, hown, hg⟩ := id F
  intro x1 x2 σ q hf H locs hP hS ls hl
  unfold f_CA_thingReads at hf
  refine lv_iload_n hx hb d_CA_thingReads_0 rfl (lv_at hl 2 rfl) ?_
  refine lv_iconst (v := (-1 : Int32)) hx hb d_CA_thingReads_1 (by decide) ?_
  refine lv_icmp_ne (tgt := 12) hx hb d_CA_thingReads_2 (by decide) (fun c1 => ?_) (fun c1 => ?_)
  · replace hf := (if_neg c1).symm.trans hf
    refine lv_aload_n hx hb d_CA_thingReads_12 rfl (lv_at hl 0 rfl) ?_
    refine va_get (D := D) (ci := 3) (v := .ref (a 20)) (C := R_CA) (T := T_CA) (N := 9) hx hb hg in_CA hown hK hP 3 rfl rfl 7 (by decide) (hg _ gw_82) (fun _ h9 => h9) rfl d_CA_thingReads_13 ?_
    refine lv_iload_n hx hb d_CA_thingReads_16 rfl (lv_at hl 2 rfl) ?_
    refine bdK hf (fun v2 h3 hf => ?_)
    refine r_iald hx hb hK hP 20 0 rfl rfl h3 d_CA_thingReads_17 ?_
    exact rr_i hx hb hr hlk (stC_g t) hK hT hP hS hf d_CA_thingReads_18
  · replace hf := (if_pos c1).symm.trans hf
    refine lv_iload_n hx hb d_CA_thingReads_5 rfl (lv_at hl 1 rfl) ?_
    refine bdK hf (fun q4 h5 hf => ?_)
    refine rc_Si (As := [.int x1]) (rest := []) (stC_g t) F (c_FL_setOf l ha x1 σ q4 h5) (va_cwS 1 hg gc_CA_108 rfl rfl rfl ht_FL_setOf ⟨Nat.le_of_ble_eq_true rfl, Nat.le_of_ble_eq_true rfl⟩) hK hT hP hS rfl hl.1 rfl (Nat.le_of_ble_eq_true rfl) d_CA_thingReads_6 ⟨Nat.zero_le _, Nat.zero_le _⟩ (fun H locs hP hS => ?_)
    refine lv_goto (tgt := 18) hx hb d_CA_thingReads_9 (by decide) ?_
    exact rr_i hx hb hr hlk (stC_g t) hK hT hP hS hf d_CA_thingReads_18
set_option maxHeartbeats 4000000 in
set_option maxRecDepth 100000 in
theorem c_CA_thingReads (l : Launch) {D : va_G} {a t : Nat → Nat} {cI cZ : ClassId} (ha : aCC a) (x1 x2 : Int32) (σ : SS) (q : Int32 × SS) (hf : f_CA_thingReads x1 x2 σ = some q) : Met l y_CA_thingReads ws_CA_thingReads { frames := 1, cells := 0, slots := 0, locals := 20 } (va_Pc [.ref (a 3), .int x1, .int x2] (pW D (wC a cI cZ) [(cI, .int), (cZ, .boolean)] (stC t) (aC a) σ)) (va_Qi (fun r u => r = q.1 ∧ u = q.2) (pW D (wC a cI cZ) [(cI, .int), (cZ, .boolean)] (stC t) (aC a)) (aC a)) 0 0 (aC a) := by
  refine Met.ofW (cc := b_CA_thingReads) (maxL := 3) (ret := some .int) (by decide) rfl ?_
  intro p e s m args below meth c s₁ B hml hv
  obtain ⟨rfl, hP, hK, hT⟩ := hv
  have hl := lv_entry ([.ref (a 3), .int x1, .int x2]) (n := 3) (Nat.le_of_ble_eq_true rfl)
  rw [lg_entry_eq]
  generalize (lg_sl ([.ref (a 3), .int x1, .int x2]) ++ List.replicate (3 - (lg_sl ([.ref (a 3), .int x1, .int x2])).length) Slot.unset).toArray = ls at hl ⊢
  exact e_CA_thingReads ha ⟨B.exec, B.bytes, hml, findClass_of_methodNamed B.named, fun w h => atoms_spec (ws := ws_CA_thingReads) B.pre w (List.mem_cons_of_mem _ h)⟩ B.returns B.notSynchronized hK hT x1 x2 σ q hf s.heap [] hP va_S.rf ls hl
theorem d_CA_thingLoads_0 : decode b_CA_thingLoads 0 = .ok (.iload_n 1, 1) := by decide +kernel
theorem d_CA_thingLoads_1 : decode b_CA_thingLoads 1 = .ok (.iconst (-1), 1) := by decide +kernel
theorem d_CA_thingLoads_2 : decode b_CA_thingLoads 2 = .ok (.if_icmp .eq 16, 3) := by decide +kernel
theorem d_CA_thingLoads_5 : decode b_CA_thingLoads 5 = .ok (.aload_n 0, 1) := by decide +kernel
theorem d_CA_thingLoads_6 : decode b_CA_thingLoads 6 = .ok (.getfield 27, 3) := by decide +kernel
theorem d_CA_thingLoads_9 : decode b_CA_thingLoads 9 = .ok (.iload_n 1, 1) := by decide +kernel
theorem d_CA_thingLoads_10 : decode b_CA_thingLoads 10 = .ok (.baload, 1) := by decide +kernel
theorem d_CA_thingLoads_11 : decode b_CA_thingLoads 11 = .ok (.ifCond .eq 7, 3) := by decide +kernel
theorem d_CA_thingLoads_14 : decode b_CA_thingLoads 14 = .ok (.iconst 1, 1) := by decide +kernel
theorem d_CA_thingLoads_15 : decode b_CA_thingLoads 15 = .ok (.goto 4, 3) := by decide +kernel
theorem d_CA_thingLoads_18 : decode b_CA_thingLoads 18 = .ok (.iconst 0, 1) := by decide +kernel
theorem d_CA_thingLoads_19 : decode b_CA_thingLoads 19 = .ok (.ireturn, 1) := by decide +kernel
def f_CA_thingLoads (x1 : Int32) (σ : SS) : Option (Int32 × SS) :=
  (if x1 = (-1 : Int32) then some ((0 : Int32), σ) else (ld (σ 15) 40 x1).bind fun v2 => (if v2 = 0 then some ((0 : Int32), σ) else some ((1 : Int32), σ)))
set_option maxHeartbeats 4000000 in
set_option maxRecDepth 100000 in
theorem e_CA_thingLoads {p : Program} {l : Launch} {e : Env} {s : State} {m : MethodId} {args : Array Value} {below : List Frame} {meth : Method} {c : Code} {D : va_G} {a t : Nat → Nat} {cI cZ : ClassId} (ha : aCC a) (F : CallFix p m c b_CA_thingLoads 2 s args gt R_CA) (hr : meth.sig.returnType = some .boolean) (hlk : meth.locks = false) (hK : va_K D vwCl [(cI, .int), (cZ, .boolean)] s) (hT : stC t (aC a) s s.heap) :
    ∀ (x1 : Int32) (σ : SS) (q : Int32 × SS), f_CA_thingLoads x1 σ = some q → ∀ (H : Heap) (locs : List Loc), va_P D vwCl ((wC a cI cZ) σ) H → va_S (aC a) s.heap H locs → ∀ (ls : Array Slot), lv_has ls 2 [(0, .ref (a 3)), (1, .int x1)] → W p l e { frames := 0, cells := 0, slots := 0, locals := 0 } s m args below meth c H locs 0 0 (MQ below (va_Qi (fun r u => r = q.1 ∧ u = q.2) (pW D (wC a cI cZ) [(cI, .int), (cZ, .boolean)] (stC t) (aC a)) (aC a)) args s 0 0 (aC a)) (F0 m 0 ls []) := by
  obtain ⟨hx, hb, hml, hown, hg⟩ := id F
  intro x1 σ q hf H locs hP hS ls hl
  unfold f_CA_thingLoads at hf
  refine lv_iload_n hx hb d_CA_thingLoads_0 rfl (lv_at hl 1 rfl) ?_
  refine lv_iconst (v := (-1 : Int32)) hx hb d_CA_thingLoads_1 (by decide) ?_
  refine lv_icmp_eq (tgt := 18) hx hb d_CA_thingLoads_2 (by decide) (fun c1 => ?_) (fun c1 => ?_)
  · replace hf := (if_pos c1).symm.trans hf
    refine lv_iconst (v := (0 : Int32)) hx hb d_CA_thingLoads_18 (by decide) ?_
    exact rr_z hx hb hr hlk (stC_g t) hK hT hP hS (Or.inl rfl) hf d_CA_thingLoads_19
  · replace hf := (if_neg c1).symm.trans hf
    refine lv_aload_n hx hb d_CA_thingLoads_5 rfl (lv_at hl 0 rfl) ?_
    refine va_get (D := D) (ci := 3) (v := .ref (a 21)) (C := R_CA) (T := T_CA) (N := 9) hx hb hg in_CA hown hK hP 3 rfl rfl 8 (by decide) (hg _ gw_83) (fun _ h9 => h9) rfl d_CA_thingLoads_6 ?_
    refine lv_iload_n hx hb d_CA_thingLoads_9 rfl (lv_at hl 1 rfl) ?_
    refine bdK hf (fun v2 h3 hf => ?_)
    refine r_zald hx hb hK hP 21 1 rfl rfl h3 d_CA_thingLoads_10 ?_
    refine lv_if_eq (tgt := 18) hx hb d_CA_thingLoads_11 (by decide) (fun c4 => ?_) (fun c4 => ?_)
    · replace hf := (if_pos c4).symm.trans hf
      refine lv_iconst (v := (0 : Int32)) hx hb d_CA_thingLoads_18 (by decide) ?_
      exact rr_z hx hb hr hlk (stC_g t) hK hT hP hS (Or.inl rfl) hf d_CA_thingLoads_19
    · replace hf := (if_neg c4).symm.trans hf
      refine lv_iconst (v := (1 : Int32)) hx hb d_CA_thingLoads_14 (by decide) ?_
      refine lv_goto (tgt := 19) hx hb d_CA_thingLoads_15 (by decide) ?_
      exact rr_z hx hb hr hlk (stC_g t) hK hT hP hS (Or.inr rfl) hf d_CA_thingLoads_19
set_option maxHeartbeats 4000000 in
set_option maxRecDepth 100000 in
theorem c_CA_thingLoads (l : Launch) {D : va_G} {a t : Nat → Nat} {cI cZ : ClassId} (ha : aCC a) (x1 : Int32) (σ : SS) (q : Int32 × SS) (hf : f_CA_thingLoads x1 σ = some q) : Met l y_CA_thingLoads ws_CA_thingLoads { frames := 0, cells := 0, slots := 0, locals := 0 } (va_Pc [.ref (a 3), .int x1] (pW D (wC a cI cZ) [(cI, .int), (cZ, .boolean)] (stC t) (aC a) σ)) (va_Qi (fun r u => r = q.1 ∧ u = q.2) (pW D (wC a cI cZ) [(cI, .int), (cZ, .boolean)] (stC t) (aC a)) (aC a)) 0 0 (aC a) := by
  refine Met.ofW (cc := b_CA_thingLoads) (maxL := 2) (ret := some .boolean) (by decide) rfl ?_
  intro p e s m args below meth c s₁ B hml hv
  obtain ⟨rfl, hP, hK, hT⟩ := hv
  have hl := lv_entry ([.ref (a 3), .int x1]) (n := 2) (Nat.le_of_ble_eq_true rfl)
  rw [lg_entry_eq]
  generalize (lg_sl ([.ref (a 3), .int x1]) ++ List.replicate (2 - (lg_sl ([.ref (a 3), .int x1])).length) Slot.unset).toArray = ls at hl ⊢
  exact e_CA_thingLoads ha ⟨B.exec, B.bytes, hml, findClass_of_methodNamed B.named, fun w h => atoms_spec (ws := ws_CA_thingLoads) B.pre w (List.mem_cons_of_mem _ h)⟩ B.returns B.notSynchronized hK hT x1 σ q hf s.heap [] hP va_S.rf ls hl
theorem d_CA_noteTree_0 : decode b_CA_noteTree 0 = .ok (.aload_n 0, 1) := by decide +kernel
theorem d_CA_noteTree_1 : decode b_CA_noteTree 1 = .ok (.getfield 15, 3) := by decide +kernel
theorem d_CA_noteTree_4 : decode b_CA_noteTree 4 = .ok (.iload_n 1, 1) := by decide +kernel
theorem d_CA_noteTree_5 : decode b_CA_noteTree 5 = .ok (.iaload, 1) := by decide +kernel
theorem d_CA_noteTree_6 : decode b_CA_noteTree 6 = .ok (.istore_n 2, 1) := by decide +kernel
theorem d_CA_noteTree_7 : decode b_CA_noteTree 7 = .ok (.aload_n 0, 1) := by decide +kernel
theorem d_CA_noteTree_8 : decode b_CA_noteTree 8 = .ok (.getfield 18, 3) := by decide +kernel
theorem d_CA_noteTree_11 : decode b_CA_noteTree 11 = .ok (.iload_n 1, 1) := by decide +kernel
theorem d_CA_noteTree_12 : decode b_CA_noteTree 12 = .ok (.iaload, 1) := by decide +kernel
theorem d_CA_noteTree_13 : decode b_CA_noteTree 13 = .ok (.istore_n 3, 1) := by decide +kernel
theorem d_CA_noteTree_14 : decode b_CA_noteTree 14 = .ok (.aload_n 0, 1) := by decide +kernel
theorem d_CA_noteTree_15 : decode b_CA_noteTree 15 = .ok (.getfield 21, 3) := by decide +kernel
theorem d_CA_noteTree_18 : decode b_CA_noteTree 18 = .ok (.iload_n 1, 1) := by decide +kernel
theorem d_CA_noteTree_19 : decode b_CA_noteTree 19 = .ok (.aload_n 0, 1) := by decide +kernel
theorem d_CA_noteTree_20 : decode b_CA_noteTree 20 = .ok (.iload_n 1, 1) := by decide +kernel
theorem d_CA_noteTree_21 : decode b_CA_noteTree 21 = .ok (.iload_n 2, 1) := by decide +kernel
theorem d_CA_noteTree_22 : decode b_CA_noteTree 22 = .ok (.iload_n 3, 1) := by decide +kernel
theorem d_CA_noteTree_23 : decode b_CA_noteTree 23 = .ok (.invokevirtual 64, 3) := by decide +kernel
theorem d_CA_noteTree_26 : decode b_CA_noteTree 26 = .ok (.iastore, 1) := by decide +kernel
theorem d_CA_noteTree_27 : decode b_CA_noteTree 27 = .ok (.aload_n 0, 1) := by decide +kernel
theorem d_CA_noteTree_28 : decode b_CA_noteTree 28 = .ok (.getfield 24, 3) := by decide +kernel
theorem d_CA_noteTree_31 : decode b_CA_noteTree 31 = .ok (.iload_n 1, 1) := by decide +kernel
theorem d_CA_noteTree_32 : decode b_CA_noteTree 32 = .ok (.aload_n 0, 1) := by decide +kernel
theorem d_CA_noteTree_33 : decode b_CA_noteTree 33 = .ok (.aload_n 0, 1) := by decide +kernel
theorem d_CA_noteTree_34 : decode b_CA_noteTree 34 = .ok (.getfield 31, 3) := by decide +kernel
theorem d_CA_noteTree_37 : decode b_CA_noteTree 37 = .ok (.iload_n 1, 1) := by decide +kernel
theorem d_CA_noteTree_38 : decode b_CA_noteTree 38 = .ok (.invokevirtual 56, 3) := by decide +kernel
theorem d_CA_noteTree_41 : decode b_CA_noteTree 41 = .ok (.iload_n 2, 1) := by decide +kernel
theorem d_CA_noteTree_42 : decode b_CA_noteTree 42 = .ok (.invokevirtual 71, 3) := by decide +kernel
theorem d_CA_noteTree_45 : decode b_CA_noteTree 45 = .ok (.aload_n 0, 1) := by decide +kernel
theorem d_CA_noteTree_46 : decode b_CA_noteTree 46 = .ok (.aload_n 0, 1) := by decide +kernel
theorem d_CA_noteTree_47 : decode b_CA_noteTree 47 = .ok (.getfield 31, 3) := by decide +kernel
theorem d_CA_noteTree_50 : decode b_CA_noteTree 50 = .ok (.iload_n 1, 1) := by decide +kernel
theorem d_CA_noteTree_51 : decode b_CA_noteTree 51 = .ok (.invokevirtual 68, 3) := by decide +kernel
theorem d_CA_noteTree_54 : decode b_CA_noteTree 54 = .ok (.iload_n 3, 1) := by decide +kernel
theorem d_CA_noteTree_55 : decode b_CA_noteTree 55 = .ok (.invokevirtual 71, 3) := by decide +kernel
theorem d_CA_noteTree_58 : decode b_CA_noteTree 58 = .ok (.ior, 1) := by decide +kernel
theorem d_CA_noteTree_59 : decode b_CA_noteTree 59 = .ok (.iastore, 1) := by decide +kernel
theorem d_CA_noteTree_60 : decode b_CA_noteTree 60 = .ok (.aload_n 0, 1) := by decide +kernel
theorem d_CA_noteTree_61 : decode b_CA_noteTree 61 = .ok (.getfield 27, 3) := by decide +kernel
theorem d_CA_noteTree_64 : decode b_CA_noteTree 64 = .ok (.iload_n 1, 1) := by decide +kernel
theorem d_CA_noteTree_65 : decode b_CA_noteTree 65 = .ok (.aload_n 0, 1) := by decide +kernel
theorem d_CA_noteTree_66 : decode b_CA_noteTree 66 = .ok (.getfield 31, 3) := by decide +kernel
theorem d_CA_noteTree_69 : decode b_CA_noteTree 69 = .ok (.iload_n 1, 1) := by decide +kernel
theorem d_CA_noteTree_70 : decode b_CA_noteTree 70 = .ok (.invokevirtual 74, 3) := by decide +kernel
theorem d_CA_noteTree_73 : decode b_CA_noteTree 73 = .ok (.bipush 6, 2) := by decide +kernel
theorem d_CA_noteTree_75 : decode b_CA_noteTree 75 = .ok (.if_icmp .eq 19, 3) := by decide +kernel
theorem d_CA_noteTree_78 : decode b_CA_noteTree 78 = .ok (.aload_n 0, 1) := by decide +kernel
theorem d_CA_noteTree_79 : decode b_CA_noteTree 79 = .ok (.iload_n 2, 1) := by decide +kernel
theorem d_CA_noteTree_80 : decode b_CA_noteTree 80 = .ok (.invokevirtual 77, 3) := by decide +kernel
theorem d_CA_noteTree_83 : decode b_CA_noteTree 83 = .ok (.ifCond .ne 11, 3) := by decide +kernel
theorem d_CA_noteTree_86 : decode b_CA_noteTree 86 = .ok (.aload_n 0, 1) := by decide +kernel
theorem d_CA_noteTree_87 : decode b_CA_noteTree 87 = .ok (.iload_n 3, 1) := by decide +kernel
theorem d_CA_noteTree_88 : decode b_CA_noteTree 88 = .ok (.invokevirtual 77, 3) := by decide +kernel
theorem d_CA_noteTree_91 : decode b_CA_noteTree 91 = .ok (.ifCond .eq 7, 3) := by decide +kernel
theorem d_CA_noteTree_94 : decode b_CA_noteTree 94 = .ok (.iconst 1, 1) := by decide +kernel
theorem d_CA_noteTree_95 : decode b_CA_noteTree 95 = .ok (.goto 4, 3) := by decide +kernel
theorem d_CA_noteTree_98 : decode b_CA_noteTree 98 = .ok (.iconst 0, 1) := by decide +kernel
theorem d_CA_noteTree_99 : decode b_CA_noteTree 99 = .ok (.bastore, 1) := by decide +kernel
theorem d_CA_noteTree_100 : decode b_CA_noteTree 100 = .ok (.return_, 1) := by decide +kernel
theorem gc_CA_71 : GoodIn gt (wsV R_CA 71 R_CA y_CA_thingReads ws_CA_thingReads) := gd_V gw_350 gw_352 gs_13 gw_4 gw_353
theorem gc_CA_77 : GoodIn gt (wsV R_CA 77 R_CA y_CA_thingLoads ws_CA_thingLoads) := gd_V gw_354 gw_356 gs_14 gw_4 gw_357
def f_CA_noteTree (x1 : Int32) (σ : SS) : Option (SS) :=
  (ld (σ 11) 40 x1).bind fun v1 => (ld (σ 12) 40 x1).bind fun v3 => (f_CA_needWith x1 v1 v3 σ).bind fun q5 => (sto q5.2 13 40 x1 q5.1).bind fun σ7 => (f_RC_readAsA x1 σ7).bind fun q9 => (f_CA_thingReads q9.1 v1 q9.2).bind fun q11 => (f_RC_readAsB x1 q11.2).bind fun q13 => (f_CA_thingReads q13.1 v3 q13.2).bind fun q15 => (sto q15.2 14 40 x1 (q11.1 ||| q15.1)).bind fun σ17 => (f_RC_operationOf x1 σ17).bind fun q19 => (if q19.1 = (6 : Int32) then (sto q19.2 15 40 x1 (vp_nar .boolean (1 : Int32))).bind fun σ22 => some σ22 else (f_CA_thingLoads v1 q19.2).bind fun q24 => (if q24.1 = 0 then (f_CA_thingLoads v3 q24.2).bind fun q29 => (if q29.1 = 0 then (sto q29.2 15 40 x1 (vp_nar .boolean (0 : Int32))).bind fun σ32 => some σ32 else (sto q29.2 15 40 x1 (vp_nar .boolean (1 : Int32))).bind fun σ34 => some σ34) else (sto q24.2 15 40 x1 (vp_nar .boolean (1 : Int32))).bind fun σ27 => some σ27))
set_option maxHeartbeats 4000000 in
set_option maxRecDepth 100000 in
theorem e_CA_noteTree {p : Program} {l : Launch} {e : Env} {s : State} {m : MethodId} {args : Array Value} {below : List Frame} {meth : Method} {c : Code} {D : va_G} {a t : Nat → Nat} {cI cZ : ClassId} (ha : aCC a) (F : CallFix p m c b_CA_noteTree 4 s args gt R_CA) (hr : meth.sig.returnType = none) (hlk : meth.locks = false) (hK : va_K D vwCl [(cI, .int), (cZ, .boolean)] s) (hT : stC t (aC a) s s.heap) :
    ∀ (x1 : Int32) (σ : SS) (q : SS), f_CA_noteTree x1 σ = some q → ∀ (H : Heap) (locs : List Loc), va_P D vwCl ((wC a cI cZ) σ) H → va_S (aC a) s.heap H locs → ∀ (ls : Array Slot), lv_has ls 4 [(0, .ref (a 3)), (1, .int x1)] → W p l e { frames := 2, cells := 0, slots := 0, locals := 46 } s m args below meth c H locs 0 0 (MQ below (va_Qv (fun u => u = q) (pW D (wC a cI cZ) [(cI, .int), (cZ, .boolean)] (stC t) (aC a)) (aC a)) args s 0 0 (aC a)) (F0 m 0 ls []) := by
  obtain ⟨hx, hb, hml, hown, hg⟩ := id F
  intro x1 σ q hf H locs hP hS ls hl
  unfold f_CA_noteTree at hf
  refine lv_aload_n hx hb d_CA_noteTree_0 rfl (lv_at hl 0 rfl) ?_
  refine va_get (D := D) (ci := 3) (v := .ref (a 17)) (C := R_CA) (T := T_CA) (N := 9) hx hb hg in_CA hown hK hP 3 rfl rfl 4 (by decide) (hg _ gw_79) (fun _ h9 => h9) rfl d_CA_noteTree_1 ?_
  refine lv_iload_n hx hb d_CA_noteTree_4 rfl (lv_at hl 1 rfl) ?_
  refine bdK hf (fun v1 h2 hf => ?_)
  refine r_iald hx hb hK hP 17 0 rfl rfl h2 d_CA_noteTree_5 ?_
  refine lv_istore_n (lv' := [(2, .int v1), (0, .ref (a 3)), (1, .int x1)]) hx hb d_CA_noteTree_6 rfl hl (by decide) rfl (fun ls hl => ?_)
  refine lv_aload_n hx hb d_CA_noteTree_7 rfl (lv_at hl 1 rfl) ?_
  refine va_get (D := D) (ci := 3) (v := .ref (a 18)) (C := R_CA) (T := T_CA) (N := 9) hx hb hg in_CA hown hK hP 3 rfl rfl 5 (by decide) (hg _ gw_80) (fun _ h9 => h9) rfl d_CA_noteTree_8 ?_
  refine lv_iload_n hx hb d_CA_noteTree_11 rfl (lv_at hl 2 rfl) ?_
  refine bdK hf (fun v3 h4 hf => ?_)
  refine r_iald hx hb hK hP 18 0 rfl rfl h4 d_CA_noteTree_12 ?_
  refine lv_istore_n (lv' := [(3, .int v3), (2, .int v1), (0, .ref (a 3)), (1, .int x1)]) hx hb d_CA_noteTree_13 rfl hl (by decide) rfl (fun ls hl => ?_)
  refine lv_aload_n hx hb d_CA_noteTree_14 rfl (lv_at hl 2 rfl) ?_
  refine va_get (D := D) (ci := 3) (v := .ref (a 19)) (C := R_CA) (T := T_CA) (N := 9) hx hb hg in_CA hown hK hP 3 rfl rfl 6 (by decide) (hg _ gw_81) (fun _ h9 => h9) rfl d_CA_noteTree_15 ?_
  refine lv_iload_n hx hb d_CA_noteTree_18 rfl (lv_at hl 3 rfl) ?_
  refine lv_aload_n hx hb d_CA_noteTree_19 rfl (lv_at hl 2 rfl) ?_
  refine lv_iload_n hx hb d_CA_noteTree_20 rfl (lv_at hl 3 rfl) ?_
  refine lv_iload_n hx hb d_CA_noteTree_21 rfl (lv_at hl 1 rfl) ?_
  refine lv_iload_n hx hb d_CA_noteTree_22 rfl (lv_at hl 0 rfl) ?_
  refine bdK hf (fun q5 h6 hf => ?_)
  refine rc_Vi (As := [.int x1, .int v1, .int v3]) (rest := [.int x1, .ref (a 19)]) (b := a 3) (stC_g t) F (c_CA_needWith l ha x1 v1 v3 σ q5 h6) (cwV 3 hg gc_CA_64 rfl rfl rfl hs_CA_needWith ⟨Nat.le_of_ble_eq_true rfl, Nat.le_of_ble_eq_true rfl⟩) hK hT hP hS (va_recv hK hP (ci := 3) (q0 := 3) rfl rfl) rfl hl.1 rfl (Nat.le_of_ble_eq_true rfl) d_CA_noteTree_23 ⟨Nat.zero_le _, Nat.zero_le _⟩ (fun H locs hP hS => ?_)
  refine bdK hf (fun σ7 h8 hf => ?_)
  refine r_iast (wf := (wC a cI cZ)) hx hb hK hP (dC ha q5.2) hS 19 0 rfl rfl (fun _ _ => rfl) h8 d_CA_noteTree_26 (fun H locs hP hS => ?_)
  refine lv_aload_n hx hb d_CA_noteTree_27 rfl (lv_at hl 2 rfl) ?_
  refine va_get (D := D) (ci := 3) (v := .ref (a 20)) (C := R_CA) (T := T_CA) (N := 9) hx hb hg in_CA hown hK hP 3 rfl rfl 7 (by decide) (hg _ gw_82) (fun _ h9 => h9) rfl d_CA_noteTree_28 ?_
  refine lv_iload_n hx hb d_CA_noteTree_31 rfl (lv_at hl 3 rfl) ?_
  refine lv_aload_n hx hb d_CA_noteTree_32 rfl (lv_at hl 2 rfl) ?_
  refine lv_aload_n hx hb d_CA_noteTree_33 rfl (lv_at hl 2 rfl) ?_
  refine va_get (D := D) (ci := 3) (v := .ref (a 1)) (C := R_CA) (T := T_CA) (N := 9) hx hb hg in_CA hown hK hP 3 rfl rfl 0 (by decide) (hg _ gw_75) (fun _ h9 => h9) rfl d_CA_noteTree_34 ?_
  refine lv_iload_n hx hb d_CA_noteTree_37 rfl (lv_at hl 3 rfl) ?_
  refine bdK hf (fun q9 h10 hf => ?_)
  refine rc_Vi (As := [.int x1]) (rest := [.ref (a 3), .int x1, .ref (a 20)]) (b := a 1) (stC_g t) F (c_RC_readAsA l ha x1 σ7 q9 h10) (cwV 1 hg gc_CA_56 rfl rfl rfl hs_RC_readAsA ⟨Nat.le_of_ble_eq_true rfl, Nat.le_of_ble_eq_true rfl⟩) hK hT hP hS (va_recv hK hP (ci := 1) (q0 := 1) rfl rfl) rfl hl.1 rfl (Nat.le_of_ble_eq_true rfl) d_CA_noteTree_38 ⟨Nat.zero_le _, Nat.zero_le _⟩ (fun H locs hP hS => ?_)
  refine lv_iload_n hx hb d_CA_noteTree_41 rfl (lv_at hl 1 rfl) ?_
  refine bdK hf (fun q11 h12 hf => ?_)
  refine rc_Vi (As := [.int q9.1, .int v1]) (rest := [.int x1, .ref (a 20)]) (b := a 3) (stC_g t) F (c_CA_thingReads l ha q9.1 v1 q9.2 q11 h12) (cwV 2 hg gc_CA_71 rfl rfl rfl hs_CA_thingReads ⟨Nat.le_of_ble_eq_true rfl, Nat.le_of_ble_eq_true rfl⟩) hK hT hP hS (va_recv hK hP (ci := 3) (q0 := 3) rfl rfl) rfl hl.1 rfl (Nat.le_of_ble_eq_true rfl) d_CA_noteTree_42 ⟨Nat.zero_le _, Nat.zero_le _⟩ (fun H locs hP hS => ?_)
  refine lv_aload_n hx hb d_CA_noteTree_45 rfl (lv_at hl 2 rfl) ?_
  refine lv_aload_n hx hb d_CA_noteTree_46 rfl (lv_at hl 2 rfl) ?_
  refine va_get (D := D) (ci := 3) (v := .ref (a 1)) (C := R_CA) (T := T_CA) (N := 9) hx hb hg in_CA hown hK hP 3 rfl rfl 0 (by decide) (hg _ gw_75) (fun _ h9 => h9) rfl d_CA_noteTree_47 ?_
  refine lv_iload_n hx hb d_CA_noteTree_50 rfl (lv_at hl 3 rfl) ?_
  refine bdK hf (fun q13 h14 hf => ?_)
  refine rc_Vi (As := [.int x1]) (rest := [.ref (a 3), .int q11.1, .int x1, .ref (a 20)]) (b := a 1) (stC_g t) F (c_RC_readAsB l ha x1 q11.2 q13 h14) (cwV 1 hg gc_CA_68 rfl rfl rfl hs_RC_readAsB ⟨Nat.le_of_ble_eq_true rfl, Nat.le_of_ble_eq_true rfl⟩) hK hT hP hS (va_recv hK hP (ci := 1) (q0 := 1) rfl rfl) rfl hl.1 rfl (Nat.le_of_ble_eq_true rfl) d_CA_noteTree_51 ⟨Nat.zero_le _, Nat.zero_le _⟩ (fun H locs hP hS => ?_)
  refine lv_iload_n hx hb d_CA_noteTree_54 rfl (lv_at hl 0 rfl) ?_
  refine bdK hf (fun q15 h16 hf => ?_)
  refine rc_Vi (As := [.int q13.1, .int v3]) (rest := [.int q11.1, .int x1, .ref (a 20)]) (b := a 3) (stC_g t) F (c_CA_thingReads l ha q13.1 v3 q13.2 q15 h16) (cwV 2 hg gc_CA_71 rfl rfl rfl hs_CA_thingReads ⟨Nat.le_of_ble_eq_true rfl, Nat.le_of_ble_eq_true rfl⟩) hK hT hP hS (va_recv hK hP (ci := 3) (q0 := 3) rfl rfl) rfl hl.1 rfl (Nat.le_of_ble_eq_true rfl) d_CA_noteTree_55 ⟨Nat.zero_le _, Nat.zero_le _⟩ (fun H locs hP hS => ?_)
  refine lv_ior hx hb d_CA_noteTree_58 ?_
  refine bdK hf (fun σ17 h18 hf => ?_)
  refine r_iast (wf := (wC a cI cZ)) hx hb hK hP (dC ha q15.2) hS 20 0 rfl rfl (fun _ _ => rfl) h18 d_CA_noteTree_59 (fun H locs hP hS => ?_)
  refine lv_aload_n hx hb d_CA_noteTree_60 rfl (lv_at hl 2 rfl) ?_
  refine va_get (D := D) (ci := 3) (v := .ref (a 21)) (C := R_CA) (T := T_CA) (N := 9) hx hb hg in_CA hown hK hP 3 rfl rfl 8 (by decide) (hg _ gw_83) (fun _ h9 => h9) rfl d_CA_noteTree_61 ?_
  refine lv_iload_n hx hb d_CA_noteTree_64 rfl (lv_at hl 3 rfl) ?_
  refine lv_aload_n hx hb d_CA_noteTree_65 rfl (lv_at hl 2 rfl) ?_
  refine va_get (D := D) (ci := 3) (v := .ref (a 1)) (C := R_CA) (T := T_CA) (N := 9) hx hb hg in_CA hown hK hP 3 rfl rfl 0 (by decide) (hg _ gw_75) (fun _ h9 => h9) rfl d_CA_noteTree_66 ?_
  refine lv_iload_n hx hb d_CA_noteTree_69 rfl (lv_at hl 3 rfl) ?_
  refine bdK hf (fun q19 h20 hf => ?_)
  refine rc_Vi (As := [.int x1]) (rest := [.int x1, .ref (a 21)]) (b := a 1) (stC_g t) F (c_RC_operationOf l ha x1 σ17 q19 h20) (cwV 1 hg gc_CA_74 rfl rfl rfl hs_RC_operationOf ⟨Nat.le_of_ble_eq_true rfl, Nat.le_of_ble_eq_true rfl⟩) hK hT hP hS (va_recv hK hP (ci := 1) (q0 := 1) rfl rfl) rfl hl.1 rfl (Nat.le_of_ble_eq_true rfl) d_CA_noteTree_70 ⟨Nat.zero_le _, Nat.zero_le _⟩ (fun H locs hP hS => ?_)
  refine lv_bipush (v := (6 : Int32)) hx hb d_CA_noteTree_73 (by decide) ?_
  refine lv_icmp_eq (tgt := 94) hx hb d_CA_noteTree_75 (by decide) (fun c21 => ?_) (fun c21 => ?_)
  · replace hf := (if_pos c21).symm.trans hf
    refine lv_iconst (v := (1 : Int32)) hx hb d_CA_noteTree_94 (by decide) ?_
    refine lv_goto (tgt := 99) hx hb d_CA_noteTree_95 (by decide) ?_
    refine bdK hf (fun σ22 h23 hf => ?_)
    refine r_zast (wf := (wC a cI cZ)) hx hb hK hP (dC ha q19.2) hS 21 1 rfl rfl (fun _ _ => rfl) h23 d_CA_noteTree_99 (fun H locs hP hS => ?_)
    exact rr_v hx hb hr hlk (stC_g t) hK hT hP hS hf d_CA_noteTree_100
  · replace hf := (if_neg c21).symm.trans hf
    refine lv_aload_n hx hb d_CA_noteTree_78 rfl (lv_at hl 2 rfl) ?_
    refine lv_iload_n hx hb d_CA_noteTree_79 rfl (lv_at hl 1 rfl) ?_
    refine bdK hf (fun q24 h25 hf => ?_)
    refine rc_Vi (As := [.int v1]) (rest := [.int x1, .ref (a 21)]) (b := a 3) (stC_g t) F (c_CA_thingLoads l ha v1 q19.2 q24 h25) (cwV 1 hg gc_CA_77 rfl rfl rfl hs_CA_thingLoads ⟨Nat.le_of_ble_eq_true rfl, Nat.le_of_ble_eq_true rfl⟩) hK hT hP hS (va_recv hK hP (ci := 3) (q0 := 3) rfl rfl) rfl hl.1 rfl (Nat.le_of_ble_eq_true rfl) d_CA_noteTree_80 ⟨Nat.zero_le _, Nat.zero_le _⟩ (fun H locs hP hS => ?_)
    refine lv_if_ne (tgt := 94) hx hb d_CA_noteTree_83 (by decide) (fun c26 => ?_) (fun c26 => ?_)
    · replace hf := (if_neg c26).symm.trans hf
      refine lv_iconst (v := (1 : Int32)) hx hb d_CA_noteTree_94 (by decide) ?_
      refine lv_goto (tgt := 99) hx hb d_CA_noteTree_95 (by decide) ?_
      refine bdK hf (fun σ27 h28 hf => ?_)
      refine r_zast (wf := (wC a cI cZ)) hx hb hK hP (dC ha q24.2) hS 21 1 rfl rfl (fun _ _ => rfl) h28 d_CA_noteTree_99 (fun H locs hP hS => ?_)
      exact rr_v hx hb hr hlk (stC_g t) hK hT hP hS hf d_CA_noteTree_100
    · replace hf := (if_pos c26).symm.trans hf
      refine lv_aload_n hx hb d_CA_noteTree_86 rfl (lv_at hl 2 rfl) ?_
      refine lv_iload_n hx hb d_CA_noteTree_87 rfl (lv_at hl 0 rfl) ?_
      refine bdK hf (fun q29 h30 hf => ?_)
      refine rc_Vi (As := [.int v3]) (rest := [.int x1, .ref (a 21)]) (b := a 3) (stC_g t) F (c_CA_thingLoads l ha v3 q24.2 q29 h30) (cwV 1 hg gc_CA_77 rfl rfl rfl hs_CA_thingLoads ⟨Nat.le_of_ble_eq_true rfl, Nat.le_of_ble_eq_true rfl⟩) hK hT hP hS (va_recv hK hP (ci := 3) (q0 := 3) rfl rfl) rfl hl.1 rfl (Nat.le_of_ble_eq_true rfl) d_CA_noteTree_88 ⟨Nat.zero_le _, Nat.zero_le _⟩ (fun H locs hP hS => ?_)
      refine lv_if_eq (tgt := 98) hx hb d_CA_noteTree_91 (by decide) (fun c31 => ?_) (fun c31 => ?_)
      · replace hf := (if_pos c31).symm.trans hf
        refine lv_iconst (v := (0 : Int32)) hx hb d_CA_noteTree_98 (by decide) ?_
        refine bdK hf (fun σ32 h33 hf => ?_)
        refine r_zast (wf := (wC a cI cZ)) hx hb hK hP (dC ha q29.2) hS 21 1 rfl rfl (fun _ _ => rfl) h33 d_CA_noteTree_99 (fun H locs hP hS => ?_)
        exact rr_v hx hb hr hlk (stC_g t) hK hT hP hS hf d_CA_noteTree_100
      · replace hf := (if_neg c31).symm.trans hf
        refine lv_iconst (v := (1 : Int32)) hx hb d_CA_noteTree_94 (by decide) ?_
        refine lv_goto (tgt := 99) hx hb d_CA_noteTree_95 (by decide) ?_
        refine bdK hf (fun σ34 h35 hf => ?_)
        refine r_zast (wf := (wC a cI cZ)) hx hb hK hP (dC ha q29.2) hS 21 1 rfl rfl (fun _ _ => rfl) h35 d_CA_noteTree_99 (fun H locs hP hS => ?_)
        exact rr_v hx hb hr hlk (stC_g t) hK hT hP hS hf d_CA_noteTree_100
set_option maxHeartbeats 4000000 in
set_option maxRecDepth 100000 in
theorem c_CA_noteTree (l : Launch) {D : va_G} {a t : Nat → Nat} {cI cZ : ClassId} (ha : aCC a) (x1 : Int32) (σ : SS) (q : SS) (hf : f_CA_noteTree x1 σ = some q) : Met l y_CA_noteTree ws_CA_noteTree { frames := 2, cells := 0, slots := 0, locals := 46 } (va_Pc [.ref (a 3), .int x1] (pW D (wC a cI cZ) [(cI, .int), (cZ, .boolean)] (stC t) (aC a) σ)) (va_Qv (fun u => u = q) (pW D (wC a cI cZ) [(cI, .int), (cZ, .boolean)] (stC t) (aC a)) (aC a)) 0 0 (aC a) := by
  refine Met.ofW (cc := b_CA_noteTree) (maxL := 4) (ret := none) (by decide) rfl ?_
  intro p e s m args below meth c s₁ B hml hv
  obtain ⟨rfl, hP, hK, hT⟩ := hv
  have hl := lv_entry ([.ref (a 3), .int x1]) (n := 4) (Nat.le_of_ble_eq_true rfl)
  rw [lg_entry_eq]
  generalize (lg_sl ([.ref (a 3), .int x1]) ++ List.replicate (4 - (lg_sl ([.ref (a 3), .int x1])).length) Slot.unset).toArray = ls at hl ⊢
  exact e_CA_noteTree ha ⟨B.exec, B.bytes, hml, findClass_of_methodNamed B.named, fun w h => atoms_spec (ws := ws_CA_noteTree) B.pre w (List.mem_cons_of_mem _ h)⟩ B.returns B.notSynchronized hK hT x1 σ q hf s.heap [] hP va_S.rf ls hl
theorem d_CA_settle_0 : decode b_CA_settle 0 = .ok (.iconst 0, 1) := by decide +kernel
theorem d_CA_settle_1 : decode b_CA_settle 1 = .ok (.istore_n 1, 1) := by decide +kernel
theorem d_CA_settle_2 : decode b_CA_settle 2 = .ok (.iload_n 1, 1) := by decide +kernel
theorem d_CA_settle_3 : decode b_CA_settle 3 = .ok (.aload_n 0, 1) := by decide +kernel
theorem d_CA_settle_4 : decode b_CA_settle 4 = .ok (.getfield 31, 3) := by decide +kernel
theorem d_CA_settle_7 : decode b_CA_settle 7 = .ok (.invokevirtual 43, 3) := by decide +kernel
theorem d_CA_settle_10 : decode b_CA_settle 10 = .ok (.if_icmp .ge 30, 3) := by decide +kernel
theorem d_CA_settle_13 : decode b_CA_settle 13 = .ok (.aload_n 0, 1) := by decide +kernel
theorem d_CA_settle_14 : decode b_CA_settle 14 = .ok (.getfield 9, 3) := by decide +kernel
theorem d_CA_settle_17 : decode b_CA_settle 17 = .ok (.iload_n 1, 1) := by decide +kernel
theorem d_CA_settle_18 : decode b_CA_settle 18 = .ok (.iconst (-1), 1) := by decide +kernel
theorem d_CA_settle_19 : decode b_CA_settle 19 = .ok (.iastore, 1) := by decide +kernel
theorem d_CA_settle_20 : decode b_CA_settle 20 = .ok (.aload_n 0, 1) := by decide +kernel
theorem d_CA_settle_21 : decode b_CA_settle 21 = .ok (.getfield 15, 3) := by decide +kernel
theorem d_CA_settle_24 : decode b_CA_settle 24 = .ok (.iload_n 1, 1) := by decide +kernel
theorem d_CA_settle_25 : decode b_CA_settle 25 = .ok (.iconst (-1), 1) := by decide +kernel
theorem d_CA_settle_26 : decode b_CA_settle 26 = .ok (.iastore, 1) := by decide +kernel
theorem d_CA_settle_27 : decode b_CA_settle 27 = .ok (.aload_n 0, 1) := by decide +kernel
theorem d_CA_settle_28 : decode b_CA_settle 28 = .ok (.getfield 18, 3) := by decide +kernel
theorem d_CA_settle_31 : decode b_CA_settle 31 = .ok (.iload_n 1, 1) := by decide +kernel
theorem d_CA_settle_32 : decode b_CA_settle 32 = .ok (.iconst (-1), 1) := by decide +kernel
theorem d_CA_settle_33 : decode b_CA_settle 33 = .ok (.iastore, 1) := by decide +kernel
theorem d_CA_settle_34 : decode b_CA_settle 34 = .ok (.iinc 1 1, 3) := by decide +kernel
theorem d_CA_settle_37 : decode b_CA_settle 37 = .ok (.goto (-35), 3) := by decide +kernel
theorem d_CA_settle_40 : decode b_CA_settle 40 = .ok (.iconst 0, 1) := by decide +kernel
theorem d_CA_settle_41 : decode b_CA_settle 41 = .ok (.istore_n 1, 1) := by decide +kernel
theorem d_CA_settle_42 : decode b_CA_settle 42 = .ok (.iload_n 1, 1) := by decide +kernel
theorem d_CA_settle_43 : decode b_CA_settle 43 = .ok (.aload_n 0, 1) := by decide +kernel
theorem d_CA_settle_44 : decode b_CA_settle 44 = .ok (.getfield 31, 3) := by decide +kernel
theorem d_CA_settle_47 : decode b_CA_settle 47 = .ok (.invokevirtual 43, 3) := by decide +kernel
theorem d_CA_settle_50 : decode b_CA_settle 50 = .ok (.if_icmp .ge 19, 3) := by decide +kernel
theorem d_CA_settle_53 : decode b_CA_settle 53 = .ok (.aload_n 0, 1) := by decide +kernel
theorem d_CA_settle_54 : decode b_CA_settle 54 = .ok (.iload_n 1, 1) := by decide +kernel
theorem d_CA_settle_55 : decode b_CA_settle 55 = .ok (.invokevirtual 49, 3) := by decide +kernel
theorem d_CA_settle_58 : decode b_CA_settle 58 = .ok (.aload_n 0, 1) := by decide +kernel
theorem d_CA_settle_59 : decode b_CA_settle 59 = .ok (.iload_n 1, 1) := by decide +kernel
theorem d_CA_settle_60 : decode b_CA_settle 60 = .ok (.invokevirtual 53, 3) := by decide +kernel
theorem d_CA_settle_63 : decode b_CA_settle 63 = .ok (.iinc 1 1, 3) := by decide +kernel
theorem d_CA_settle_66 : decode b_CA_settle 66 = .ok (.goto (-24), 3) := by decide +kernel
theorem d_CA_settle_69 : decode b_CA_settle 69 = .ok (.return_, 1) := by decide +kernel
theorem gc_CA_49 : GoodIn gt (wsV R_CA 49 R_CA y_CA_carryInto ws_CA_carryInto) := gd_V gw_294 gw_296 gs_5 gw_4 gw_297
theorem gc_CA_53 : GoodIn gt (wsV R_CA 53 R_CA y_CA_noteTree ws_CA_noteTree) := gd_V gw_346 gw_348 gs_12 gw_4 gw_349
def b_CA_settle_42 : Nat → Int32 → SS → Option (SS)
  | 0, _, _ => none
  | n + 1, x1, σ =>
    (f_RC_count σ).bind fun q1 => (if q1.1 ≤ x1 then some q1.2 else (f_CA_carryInto x1 q1.2).bind fun σ4 => (f_CA_noteTree x1 σ4).bind fun σ6 => b_CA_settle_42 n (x1 + (1 : Int32)) σ6)
set_option maxHeartbeats 4000000 in
set_option maxRecDepth 100000 in
theorem k_CA_settle_42 {p : Program} {l : Launch} {e : Env} {s : State} {m : MethodId} {args : Array Value} {below : List Frame} {meth : Method} {c : Code} {D : va_G} {a t : Nat → Nat} {cI cZ : ClassId} (ha : aCC a) (F : CallFix p m c b_CA_settle 2 s args gt R_CA) (hr : meth.sig.returnType = none) (hlk : meth.locks = false) (hK : va_K D vwCl [(cI, .int), (cZ, .boolean)] s) (hT : stC t (aC a) s s.heap) :
    ∀ (n : Nat) (x1 : Int32) (σ : SS) (q : SS), b_CA_settle_42 n x1 σ = some q → ∀ (H : Heap) (locs : List Loc), va_P D vwCl ((wC a cI cZ) σ) H → va_S (aC a) s.heap H locs → ∀ (ls : Array Slot), lv_has ls 2 [(0, .ref (a 3)), (1, .int x1)] → W p l e { frames := 4, cells := 0, slots := 0, locals := 94 } s m args below meth c H locs 0 0 (MQ below (va_Qv (fun u => u = q) (pW D (wC a cI cZ) [(cI, .int), (cZ, .boolean)] (stC t) (aC a)) (aC a)) args s 0 0 (aC a)) (F0 m 42 ls []) := by
  obtain ⟨hx, hb, hml, hown, hg⟩ := id F
  intro n
  induction n with
  | zero =>
    intro x1 σ q hf
    rw [b_CA_settle_42] at hf
    cases hf
  | succ n ih =>
    intro x1 σ q hf H locs hP hS ls hl
    rw [b_CA_settle_42] at hf
    refine lv_iload_n hx hb d_CA_settle_42 rfl (lv_at hl 1 rfl) ?_
    refine lv_aload_n hx hb d_CA_settle_43 rfl (lv_at hl 0 rfl) ?_
    refine va_get (D := D) (ci := 3) (v := .ref (a 1)) (C := R_CA) (T := T_CA) (N := 9) hx hb hg in_CA hown hK hP 3 rfl rfl 0 (by decide) (hg _ gw_75) (fun _ h9 => h9) rfl d_CA_settle_44 ?_
    refine bdK hf (fun q1 h2 hf => ?_)
    refine rc_Vi (As := []) (rest := [.int x1]) (b := a 1) (stC_g t) F (c_RC_count l ha σ q1 h2) (cwV 0 hg gc_CA_43 rfl rfl rfl hs_RC_count ⟨Nat.le_of_ble_eq_true rfl, Nat.le_of_ble_eq_true rfl⟩) hK hT hP hS (va_recv hK hP (ci := 1) (q0 := 1) rfl rfl) rfl hl.1 rfl (Nat.le_of_ble_eq_true rfl) d_CA_settle_47 ⟨Nat.zero_le _, Nat.zero_le _⟩ (fun H locs hP hS => ?_)
    refine lv_icmp_ge (tgt := 69) hx hb d_CA_settle_50 (by decide) (fun c3 => ?_) (fun c3 => ?_)
    · replace hf := (if_pos c3).symm.trans hf
      exact rr_v hx hb hr hlk (stC_g t) hK hT hP hS hf d_CA_settle_69
    · replace hf := (if_neg c3).symm.trans hf
      refine lv_aload_n hx hb d_CA_settle_53 rfl (lv_at hl 0 rfl) ?_
      refine lv_iload_n hx hb d_CA_settle_54 rfl (lv_at hl 1 rfl) ?_
      refine bdK hf (fun σ4 h5 hf => ?_)
      refine rc_Vv (As := [.int x1]) (rest := []) (b := a 3) (stC_g t) F (c_CA_carryInto l ha x1 q1.2 σ4 h5) (cwV 1 hg gc_CA_49 rfl rfl rfl hs_CA_carryInto ⟨Nat.le_of_ble_eq_true rfl, Nat.le_of_ble_eq_true rfl⟩) hK hT hP hS (va_recv hK hP (ci := 3) (q0 := 3) rfl rfl) rfl hl.1 rfl (Nat.le_of_ble_eq_true rfl) d_CA_settle_55 ⟨Nat.zero_le _, Nat.zero_le _⟩ (fun H locs hP hS => ?_)
      refine lv_aload_n hx hb d_CA_settle_58 rfl (lv_at hl 0 rfl) ?_
      refine lv_iload_n hx hb d_CA_settle_59 rfl (lv_at hl 1 rfl) ?_
      refine bdK hf (fun σ6 h7 hf => ?_)
      refine rc_Vv (As := [.int x1]) (rest := []) (b := a 3) (stC_g t) F (c_CA_noteTree l ha x1 σ4 σ6 h7) (cwV 1 hg gc_CA_53 rfl rfl rfl hs_CA_noteTree ⟨Nat.le_of_ble_eq_true rfl, Nat.le_of_ble_eq_true rfl⟩) hK hT hP hS (va_recv hK hP (ci := 3) (q0 := 3) rfl rfl) rfl hl.1 rfl (Nat.le_of_ble_eq_true rfl) d_CA_settle_60 ⟨Nat.zero_le _, Nat.zero_le _⟩ (fun H locs hP hS => ?_)
      refine lv_iinc (v := (x1 + (1 : Int32))) (lv' := [(1, .int (x1 + (1 : Int32))), (0, .ref (a 3))]) hx hb d_CA_settle_63 hl (k := 1) rfl (by rfl) (by decide) rfl (fun ls hl => ?_)
      refine lv_goto (tgt := 42) hx hb d_CA_settle_66 (by decide) ?_
      exact ih (x1 + (1 : Int32)) σ6 q hf _ _ hP hS ls (lv_sub hl [1, 0] rfl)
def b_CA_settle_2 : Nat → Int32 → SS → Option (SS)
  | 0, _, _ => none
  | n + 1, x1, σ =>
    (f_RC_count σ).bind fun q1 => (if q1.1 ≤ x1 then b_CA_settle_42 FU (0 : Int32) q1.2 else (sto q1.2 10 40 x1 (-1 : Int32)).bind fun σ4 => (sto σ4 11 40 x1 (-1 : Int32)).bind fun σ6 => (sto σ6 12 40 x1 (-1 : Int32)).bind fun σ8 => b_CA_settle_2 n (x1 + (1 : Int32)) σ8)
set_option maxHeartbeats 4000000 in
set_option maxRecDepth 100000 in
theorem k_CA_settle_2 {p : Program} {l : Launch} {e : Env} {s : State} {m : MethodId} {args : Array Value} {below : List Frame} {meth : Method} {c : Code} {D : va_G} {a t : Nat → Nat} {cI cZ : ClassId} (ha : aCC a) (F : CallFix p m c b_CA_settle 2 s args gt R_CA) (hr : meth.sig.returnType = none) (hlk : meth.locks = false) (hK : va_K D vwCl [(cI, .int), (cZ, .boolean)] s) (hT : stC t (aC a) s s.heap) :
    ∀ (n : Nat) (x1 : Int32) (σ : SS) (q : SS), b_CA_settle_2 n x1 σ = some q → ∀ (H : Heap) (locs : List Loc), va_P D vwCl ((wC a cI cZ) σ) H → va_S (aC a) s.heap H locs → ∀ (ls : Array Slot), lv_has ls 2 [(0, .ref (a 3)), (1, .int x1)] → W p l e { frames := 4, cells := 0, slots := 0, locals := 94 } s m args below meth c H locs 0 0 (MQ below (va_Qv (fun u => u = q) (pW D (wC a cI cZ) [(cI, .int), (cZ, .boolean)] (stC t) (aC a)) (aC a)) args s 0 0 (aC a)) (F0 m 2 ls []) := by
  obtain ⟨hx, hb, hml, hown, hg⟩ := id F
  intro n
  induction n with
  | zero =>
    intro x1 σ q hf
    rw [b_CA_settle_2] at hf
    cases hf
  | succ n ih =>
    intro x1 σ q hf H locs hP hS ls hl
    rw [b_CA_settle_2] at hf
    refine lv_iload_n hx hb d_CA_settle_2 rfl (lv_at hl 1 rfl) ?_
    refine lv_aload_n hx hb d_CA_settle_3 rfl (lv_at hl 0 rfl) ?_
    refine va_get (D := D) (ci := 3) (v := .ref (a 1)) (C := R_CA) (T := T_CA) (N := 9) hx hb hg in_CA hown hK hP 3 rfl rfl 0 (by decide) (hg _ gw_75) (fun _ h9 => h9) rfl d_CA_settle_4 ?_
    refine bdK hf (fun q1 h2 hf => ?_)
    refine rc_Vi (As := []) (rest := [.int x1]) (b := a 1) (stC_g t) F (c_RC_count l ha σ q1 h2) (cwV 0 hg gc_CA_43 rfl rfl rfl hs_RC_count ⟨Nat.le_of_ble_eq_true rfl, Nat.le_of_ble_eq_true rfl⟩) hK hT hP hS (va_recv hK hP (ci := 1) (q0 := 1) rfl rfl) rfl hl.1 rfl (Nat.le_of_ble_eq_true rfl) d_CA_settle_7 ⟨Nat.zero_le _, Nat.zero_le _⟩ (fun H locs hP hS => ?_)
    refine lv_icmp_ge (tgt := 40) hx hb d_CA_settle_10 (by decide) (fun c3 => ?_) (fun c3 => ?_)
    · replace hf := (if_pos c3).symm.trans hf
      refine lv_iconst (v := (0 : Int32)) hx hb d_CA_settle_40 (by decide) ?_
      refine lv_istore_n (lv' := [(1, .int (0 : Int32)), (0, .ref (a 3))]) hx hb d_CA_settle_41 rfl hl (by decide) rfl (fun ls hl => ?_)
      exact k_CA_settle_42 ha F hr hlk hK hT FU (0 : Int32) q1.2 q hf _ _ hP hS ls (lv_sub hl [1, 0] rfl)
    · replace hf := (if_neg c3).symm.trans hf
      refine lv_aload_n hx hb d_CA_settle_13 rfl (lv_at hl 0 rfl) ?_
      refine va_get (D := D) (ci := 3) (v := .ref (a 16)) (C := R_CA) (T := T_CA) (N := 9) hx hb hg in_CA hown hK hP 3 rfl rfl 3 (by decide) (hg _ gw_78) (fun _ h9 => h9) rfl d_CA_settle_14 ?_
      refine lv_iload_n hx hb d_CA_settle_17 rfl (lv_at hl 1 rfl) ?_
      refine lv_iconst (v := (-1 : Int32)) hx hb d_CA_settle_18 (by decide) ?_
      refine bdK hf (fun σ4 h5 hf => ?_)
      refine r_iast (wf := (wC a cI cZ)) hx hb hK hP (dC ha q1.2) hS 16 0 rfl rfl (fun _ _ => rfl) h5 d_CA_settle_19 (fun H locs hP hS => ?_)
      refine lv_aload_n hx hb d_CA_settle_20 rfl (lv_at hl 0 rfl) ?_
      refine va_get (D := D) (ci := 3) (v := .ref (a 17)) (C := R_CA) (T := T_CA) (N := 9) hx hb hg in_CA hown hK hP 3 rfl rfl 4 (by decide) (hg _ gw_79) (fun _ h9 => h9) rfl d_CA_settle_21 ?_
      refine lv_iload_n hx hb d_CA_settle_24 rfl (lv_at hl 1 rfl) ?_
      refine lv_iconst (v := (-1 : Int32)) hx hb d_CA_settle_25 (by decide) ?_
      refine bdK hf (fun σ6 h7 hf => ?_)
      refine r_iast (wf := (wC a cI cZ)) hx hb hK hP (dC ha σ4) hS 17 0 rfl rfl (fun _ _ => rfl) h7 d_CA_settle_26 (fun H locs hP hS => ?_)
      refine lv_aload_n hx hb d_CA_settle_27 rfl (lv_at hl 0 rfl) ?_
      refine va_get (D := D) (ci := 3) (v := .ref (a 18)) (C := R_CA) (T := T_CA) (N := 9) hx hb hg in_CA hown hK hP 3 rfl rfl 5 (by decide) (hg _ gw_80) (fun _ h9 => h9) rfl d_CA_settle_28 ?_
      refine lv_iload_n hx hb d_CA_settle_31 rfl (lv_at hl 1 rfl) ?_
      refine lv_iconst (v := (-1 : Int32)) hx hb d_CA_settle_32 (by decide) ?_
      refine bdK hf (fun σ8 h9 hf => ?_)
      refine r_iast (wf := (wC a cI cZ)) hx hb hK hP (dC ha σ6) hS 18 0 rfl rfl (fun _ _ => rfl) h9 d_CA_settle_33 (fun H locs hP hS => ?_)
      refine lv_iinc (v := (x1 + (1 : Int32))) (lv' := [(1, .int (x1 + (1 : Int32))), (0, .ref (a 3))]) hx hb d_CA_settle_34 hl (k := 1) rfl (by rfl) (by decide) rfl (fun ls hl => ?_)
      refine lv_goto (tgt := 2) hx hb d_CA_settle_37 (by decide) ?_
      exact ih (x1 + (1 : Int32)) σ8 q hf _ _ hP hS ls (lv_sub hl [1, 0] rfl)
def f_CA_settle (σ : SS) : Option (SS) :=
  b_CA_settle_2 FU (0 : Int32) σ
set_option maxHeartbeats 4000000 in
set_option maxRecDepth 100000 in
theorem e_CA_settle {p : Program} {l : Launch} {e : Env} {s : State} {m : MethodId} {args : Array Value} {below : List Frame} {meth : Method} {c : Code} {D : va_G} {a t : Nat → Nat} {cI cZ : ClassId} (ha : aCC a) (F : CallFix p m c b_CA_settle 2 s args gt R_CA) (hr : meth.sig.returnType = none) (hlk : meth.locks = false) (hK : va_K D vwCl [(cI, .int), (cZ, .boolean)] s) (hT : stC t (aC a) s s.heap) :
    ∀ (σ : SS) (q : SS), f_CA_settle σ = some q → ∀ (H : Heap) (locs : List Loc), va_P D vwCl ((wC a cI cZ) σ) H → va_S (aC a) s.heap H locs → ∀ (ls : Array Slot), lv_has ls 2 [(0, .ref (a 3))] → W p l e { frames := 4, cells := 0, slots := 0, locals := 94 } s m args below meth c H locs 0 0 (MQ below (va_Qv (fun u => u = q) (pW D (wC a cI cZ) [(cI, .int), (cZ, .boolean)] (stC t) (aC a)) (aC a)) args s 0 0 (aC a)) (F0 m 0 ls []) := by
  obtain ⟨hx, hb, hml, hown, hg⟩ := id F
  intro σ q hf H locs hP hS ls hl
  unfold f_CA_settle at hf
  refine lv_iconst (v := (0 : Int32)) hx hb d_CA_settle_0 (by decide) ?_
  refine lv_istore_n (lv' := [(1, .int (0 : Int32)), (0, .ref (a 3))]) hx hb d_CA_settle_1 rfl hl (by decide) rfl (fun ls hl => ?_)
  exact k_CA_settle_2 ha F hr hlk hK hT FU (0 : Int32) σ q hf _ _ hP hS ls (lv_sub hl [1, 0] rfl)
set_option maxHeartbeats 4000000 in
set_option maxRecDepth 100000 in
theorem c_CA_settle (l : Launch) {D : va_G} {a t : Nat → Nat} {cI cZ : ClassId} (ha : aCC a) (σ : SS) (q : SS) (hf : f_CA_settle σ = some q) : Met l y_CA_settle ws_CA_settle { frames := 4, cells := 0, slots := 0, locals := 94 } (va_Pc [.ref (a 3)] (pW D (wC a cI cZ) [(cI, .int), (cZ, .boolean)] (stC t) (aC a) σ)) (va_Qv (fun u => u = q) (pW D (wC a cI cZ) [(cI, .int), (cZ, .boolean)] (stC t) (aC a)) (aC a)) 0 0 (aC a) := by
  refine Met.ofW (cc := b_CA_settle) (maxL := 2) (ret := none) (by decide) rfl ?_
  intro p e s m args below meth c s₁ B hml hv
  obtain ⟨rfl, hP, hK, hT⟩ := hv
  have hl := lv_entry ([.ref (a 3)]) (n := 2) (Nat.le_of_ble_eq_true rfl)
  rw [lg_entry_eq]
  generalize (lg_sl ([.ref (a 3)]) ++ List.replicate (2 - (lg_sl ([.ref (a 3)])).length) Slot.unset).toArray = ls at hl ⊢
  exact e_CA_settle ha ⟨B.exec, B.bytes, hml, findClass_of_methodNamed B.named, fun w h => atoms_spec (ws := ws_CA_settle) B.pre w (List.mem_cons_of_mem _ h)⟩ B.returns B.notSynchronized hK hT σ q hf s.heap [] hP va_S.rf ls hl
theorem d_CA_inForA_0 : decode b_CA_inForA 0 = .ok (.aload_n 0, 1) := by decide +kernel
theorem d_CA_inForA_1 : decode b_CA_inForA 1 = .ok (.getfield 15, 3) := by decide +kernel
theorem d_CA_inForA_4 : decode b_CA_inForA 4 = .ok (.iload_n 1, 1) := by decide +kernel
theorem d_CA_inForA_5 : decode b_CA_inForA 5 = .ok (.iaload, 1) := by decide +kernel
theorem d_CA_inForA_6 : decode b_CA_inForA 6 = .ok (.ireturn, 1) := by decide +kernel
def f_CA_inForA (x1 : Int32) (σ : SS) : Option (Int32 × SS) :=
  (ld (σ 11) 40 x1).bind fun v1 => some (v1, σ)
set_option maxHeartbeats 4000000 in
set_option maxRecDepth 100000 in
theorem e_CA_inForA {p : Program} {l : Launch} {e : Env} {s : State} {m : MethodId} {args : Array Value} {below : List Frame} {meth : Method} {c : Code} {D : va_G} {a t : Nat → Nat} {cI cZ : ClassId} (ha : aCC a) (F : CallFix p m c b_CA_inForA 2 s args gt R_CA) (hr : meth.sig.returnType = some .int) (hlk : meth.locks = false) (hK : va_K D vwCl [(cI, .int), (cZ, .boolean)] s) (hT : stC t (aC a) s s.heap) :
    ∀ (x1 : Int32) (σ : SS) (q : Int32 × SS), f_CA_inForA x1 σ = some q → ∀ (H : Heap) (locs : List Loc), va_P D vwCl ((wC a cI cZ) σ) H → va_S (aC a) s.heap H locs → ∀ (ls : Array Slot), lv_has ls 2 [(0, .ref (a 3)), (1, .int x1)] → W p l e { frames := 0, cells := 0, slots := 0, locals := 0 } s m args below meth c H locs 0 0 (MQ below (va_Qi (fun r u => r = q.1 ∧ u = q.2) (pW D (wC a cI cZ) [(cI, .int), (cZ, .boolean)] (stC t) (aC a)) (aC a)) args s 0 0 (aC a)) (F0 m 0 ls []) := by
  obtain ⟨hx, hb, hml, hown, hg⟩ := id F
  intro x1 σ q hf H locs hP hS ls hl
  unfold f_CA_inForA at hf
  refine lv_aload_n hx hb d_CA_inForA_0 rfl (lv_at hl 0 rfl) ?_
  refine va_get (D := D) (ci := 3) (v := .ref (a 17)) (C := R_CA) (T := T_CA) (N := 9) hx hb hg in_CA hown hK hP 3 rfl rfl 4 (by decide) (hg _ gw_79) (fun _ h9 => h9) rfl d_CA_inForA_1 ?_
  refine lv_iload_n hx hb d_CA_inForA_4 rfl (lv_at hl 1 rfl) ?_
  refine bdK hf (fun v1 h2 hf => ?_)
  refine r_iald hx hb hK hP 17 0 rfl rfl h2 d_CA_inForA_5 ?_
  exact rr_i hx hb hr hlk (stC_g t) hK hT hP hS hf d_CA_inForA_6
set_option maxHeartbeats 4000000 in
set_option maxRecDepth 100000 in
theorem c_CA_inForA (l : Launch) {D : va_G} {a t : Nat → Nat} {cI cZ : ClassId} (ha : aCC a) (x1 : Int32) (σ : SS) (q : Int32 × SS) (hf : f_CA_inForA x1 σ = some q) : Met l y_CA_inForA ws_CA_inForA { frames := 0, cells := 0, slots := 0, locals := 0 } (va_Pc [.ref (a 3), .int x1] (pW D (wC a cI cZ) [(cI, .int), (cZ, .boolean)] (stC t) (aC a) σ)) (va_Qi (fun r u => r = q.1 ∧ u = q.2) (pW D (wC a cI cZ) [(cI, .int), (cZ, .boolean)] (stC t) (aC a)) (aC a)) 0 0 (aC a) := by
  refine Met.ofW (cc := b_CA_inForA) (maxL := 2) (ret := some .int) (by decide) rfl ?_
  intro p e s m args below meth c s₁ B hml hv
  obtain ⟨rfl, hP, hK, hT⟩ := hv
  have hl := lv_entry ([.ref (a 3), .int x1]) (n := 2) (Nat.le_of_ble_eq_true rfl)
  rw [lg_entry_eq]
  generalize (lg_sl ([.ref (a 3), .int x1]) ++ List.replicate (2 - (lg_sl ([.ref (a 3), .int x1])).length) Slot.unset).toArray = ls at hl ⊢
  exact e_CA_inForA ha ⟨B.exec, B.bytes, hml, findClass_of_methodNamed B.named, fun w h => atoms_spec (ws := ws_CA_inForA) B.pre w (List.mem_cons_of_mem _ h)⟩ B.returns B.notSynchronized hK hT x1 σ q hf s.heap [] hP va_S.rf ls hl
theorem d_ST_thingWidth_0 : decode b_ST_thingWidth 0 = .ok (.iload_n 1, 1) := by decide +kernel
theorem d_ST_thingWidth_1 : decode b_ST_thingWidth 1 = .ok (.iconst (-1), 1) := by decide +kernel
theorem d_ST_thingWidth_2 : decode b_ST_thingWidth 2 = .ok (.if_icmp .ne 5, 3) := by decide +kernel
theorem d_ST_thingWidth_5 : decode b_ST_thingWidth 5 = .ok (.iconst 0, 1) := by decide +kernel
theorem d_ST_thingWidth_6 : decode b_ST_thingWidth 6 = .ok (.ireturn, 1) := by decide +kernel
theorem d_ST_thingWidth_7 : decode b_ST_thingWidth 7 = .ok (.iload_n 2, 1) := by decide +kernel
theorem d_ST_thingWidth_8 : decode b_ST_thingWidth 8 = .ok (.iconst (-1), 1) := by decide +kernel
theorem d_ST_thingWidth_9 : decode b_ST_thingWidth 9 = .ok (.if_icmp .ne 7, 3) := by decide +kernel
theorem d_ST_thingWidth_12 : decode b_ST_thingWidth 12 = .ok (.iconst 1, 1) := by decide +kernel
theorem d_ST_thingWidth_13 : decode b_ST_thingWidth 13 = .ok (.goto 9, 3) := by decide +kernel
theorem d_ST_thingWidth_16 : decode b_ST_thingWidth 16 = .ok (.aload_n 0, 1) := by decide +kernel
theorem d_ST_thingWidth_17 : decode b_ST_thingWidth 17 = .ok (.getfield 18, 3) := by decide +kernel
theorem d_ST_thingWidth_20 : decode b_ST_thingWidth 20 = .ok (.iload_n 2, 1) := by decide +kernel
theorem d_ST_thingWidth_21 : decode b_ST_thingWidth 21 = .ok (.iaload, 1) := by decide +kernel
theorem d_ST_thingWidth_22 : decode b_ST_thingWidth 22 = .ok (.ireturn, 1) := by decide +kernel
def f_ST_thingWidth (x1 x2 : Int32) (σ : SS) : Option (Int32 × SS) :=
  (if x1 = (-1 : Int32) then some ((0 : Int32), σ) else (if x2 = (-1 : Int32) then some ((1 : Int32), σ) else (ld (σ 18) 40 x2).bind fun v3 => some (v3, σ)))
set_option maxHeartbeats 4000000 in
set_option maxRecDepth 100000 in
theorem e_ST_thingWidth {p : Program} {l : Launch} {e : Env} {s : State} {m : MethodId} {args : Array Value} {below : List Frame} {meth : Method} {c : Code} {D : va_G} {a t : Nat → Nat} {cI cZ : ClassId} (ha : aCC a) (F : CallFix p m c b_ST_thingWidth 3 s args gt R_ST) (hr : meth.sig.returnType = some .int) (hlk : meth.locks = false) (hK : va_K D vwCl [(cI, .int), (cZ, .boolean)] s) (hT : stC t (aC a) s s.heap) :
    ∀ (x1 x2 : Int32) (σ : SS) (q : Int32 × SS), f_ST_thingWidth x1 x2 σ = some q → ∀ (H : Heap) (locs : List Loc), va_P D vwCl ((wC a cI cZ) σ) H → va_S (aC a) s.heap H locs → ∀ (ls : Array Slot), lv_has ls 3 [(0, .ref (a 4)), (1, .int x1), (2, .int x2)] → W p l e { frames := 0, cells := 0, slots := 0, locals := 0 } s m args below meth c H locs 0 0 (MQ below (va_Qi (fun r u => r = q.1 ∧ u = q.2) (pW D (wC a cI cZ) [(cI, .int), (cZ, .boolean)] (stC t) (aC a)) (aC a)) args s 0 0 (aC a)) (F0 m 0 ls []) := by
  obtain ⟨hx, hb, hml, hown, hg⟩ := id F
  intro x1 x2 σ q hf H locs hP hS ls hl
  unfold f_ST_thingWidth at hf
  refine lv_iload_n hx hb d_ST_thingWidth_0 rfl (lv_at hl 1 rfl) ?_
  refine lv_iconst (v := (-1 : Int32)) hx hb d_ST_thingWidth_1 (by decide) ?_
  refine lv_icmp_ne (tgt := 7) hx hb d_ST_thingWidth_2 (by decide) (fun c1 => ?_) (fun c1 => ?_)
  · replace hf := (if_neg c1).symm.trans hf
    refine lv_iload_n hx hb d_ST_thingWidth_7 rfl (lv_at hl 2 rfl) ?_
    refine lv_iconst (v := (-1 : Int32)) hx hb d_ST_thingWidth_8 (by decide) ?_
    refine lv_icmp_ne (tgt := 16) hx hb d_ST_thingWidth_9 (by decide) (fun c2 => ?_) (fun c2 => ?_)
    · replace hf := (if_neg c2).symm.trans hf
      refine lv_aload_n hx hb d_ST_thingWidth_16 rfl (lv_at hl 0 rfl) ?_
      refine va_get (D := D) (ci := 4) (v := .ref (a 24)) (C := R_ST) (T := T_ST) (N := 9) hx hb hg in_ST hown hK hP 4 rfl rfl 5 (by decide) (hg _ gw_114) (fun _ h9 => h9) rfl d_ST_thingWidth_17 ?_
      refine lv_iload_n hx hb d_ST_thingWidth_20 rfl (lv_at hl 2 rfl) ?_
      refine bdK hf (fun v3 h4 hf => ?_)
      refine r_iald hx hb hK hP 24 0 rfl rfl h4 d_ST_thingWidth_21 ?_
      exact rr_i hx hb hr hlk (stC_g t) hK hT hP hS hf d_ST_thingWidth_22
    · replace hf := (if_pos c2).symm.trans hf
      refine lv_iconst (v := (1 : Int32)) hx hb d_ST_thingWidth_12 (by decide) ?_
      refine lv_goto (tgt := 22) hx hb d_ST_thingWidth_13 (by decide) ?_
      exact rr_i hx hb hr hlk (stC_g t) hK hT hP hS hf d_ST_thingWidth_22
  · replace hf := (if_pos c1).symm.trans hf
    refine lv_iconst (v := (0 : Int32)) hx hb d_ST_thingWidth_5 (by decide) ?_
    exact rr_i hx hb hr hlk (stC_g t) hK hT hP hS hf d_ST_thingWidth_6
set_option maxHeartbeats 4000000 in
set_option maxRecDepth 100000 in
theorem c_ST_thingWidth (l : Launch) {D : va_G} {a t : Nat → Nat} {cI cZ : ClassId} (ha : aCC a) (x1 x2 : Int32) (σ : SS) (q : Int32 × SS) (hf : f_ST_thingWidth x1 x2 σ = some q) : Met l y_ST_thingWidth ws_ST_thingWidth { frames := 0, cells := 0, slots := 0, locals := 0 } (va_Pc [.ref (a 4), .int x1, .int x2] (pW D (wC a cI cZ) [(cI, .int), (cZ, .boolean)] (stC t) (aC a) σ)) (va_Qi (fun r u => r = q.1 ∧ u = q.2) (pW D (wC a cI cZ) [(cI, .int), (cZ, .boolean)] (stC t) (aC a)) (aC a)) 0 0 (aC a) := by
  refine Met.ofW (cc := b_ST_thingWidth) (maxL := 3) (ret := some .int) (by decide) rfl ?_
  intro p e s m args below meth c s₁ B hml hv
  obtain ⟨rfl, hP, hK, hT⟩ := hv
  have hl := lv_entry ([.ref (a 4), .int x1, .int x2]) (n := 3) (Nat.le_of_ble_eq_true rfl)
  rw [lg_entry_eq]
  generalize (lg_sl ([.ref (a 4), .int x1, .int x2]) ++ List.replicate (3 - (lg_sl ([.ref (a 4), .int x1, .int x2])).length) Slot.unset).toArray = ls at hl ⊢
  exact e_ST_thingWidth ha ⟨B.exec, B.bytes, hml, findClass_of_methodNamed B.named, fun w h => atoms_spec (ws := ws_ST_thingWidth) B.pre w (List.mem_cons_of_mem _ h)⟩ B.returns B.notSynchronized hK hT x1 x2 σ q hf s.heap [] hP va_S.rf ls hl
theorem d_CA_inForB_0 : decode b_CA_inForB 0 = .ok (.aload_n 0, 1) := by decide +kernel
theorem d_CA_inForB_1 : decode b_CA_inForB 1 = .ok (.getfield 18, 3) := by decide +kernel
theorem d_CA_inForB_4 : decode b_CA_inForB 4 = .ok (.iload_n 1, 1) := by decide +kernel
theorem d_CA_inForB_5 : decode b_CA_inForB 5 = .ok (.iaload, 1) := by decide +kernel
theorem d_CA_inForB_6 : decode b_CA_inForB 6 = .ok (.ireturn, 1) := by decide +kernel
def f_CA_inForB (x1 : Int32) (σ : SS) : Option (Int32 × SS) :=
  (ld (σ 12) 40 x1).bind fun v1 => some (v1, σ)
set_option maxHeartbeats 4000000 in
set_option maxRecDepth 100000 in
theorem e_CA_inForB {p : Program} {l : Launch} {e : Env} {s : State} {m : MethodId} {args : Array Value} {below : List Frame} {meth : Method} {c : Code} {D : va_G} {a t : Nat → Nat} {cI cZ : ClassId} (ha : aCC a) (F : CallFix p m c b_CA_inForB 2 s args gt R_CA) (hr : meth.sig.returnType = some .int) (hlk : meth.locks = false) (hK : va_K D vwCl [(cI, .int), (cZ, .boolean)] s) (hT : stC t (aC a) s s.heap) :
    ∀ (x1 : Int32) (σ : SS) (q : Int32 × SS), f_CA_inForB x1 σ = some q → ∀ (H : Heap) (locs : List Loc), va_P D vwCl ((wC a cI cZ) σ) H → va_S (aC a) s.heap H locs → ∀ (ls : Array Slot), lv_has ls 2 [(0, .ref (a 3)), (1, .int x1)] → W p l e { frames := 0, cells := 0, slots := 0, locals := 0 } s m args below meth c H locs 0 0 (MQ below (va_Qi (fun r u => r = q.1 ∧ u = q.2) (pW D (wC a cI cZ) [(cI, .int), (cZ, .boolean)] (stC t) (aC a)) (aC a)) args s 0 0 (aC a)) (F0 m 0 ls []) := by
  obtain ⟨hx, hb, hml, hown, hg⟩ := id F
  intro x1 σ q hf H locs hP hS ls hl
  unfold f_CA_inForB at hf
  refine lv_aload_n hx hb d_CA_inForB_0 rfl (lv_at hl 0 rfl) ?_
  refine va_get (D := D) (ci := 3) (v := .ref (a 18)) (C := R_CA) (T := T_CA) (N := 9) hx hb hg in_CA hown hK hP 3 rfl rfl 5 (by decide) (hg _ gw_80) (fun _ h9 => h9) rfl d_CA_inForB_1 ?_
  refine lv_iload_n hx hb d_CA_inForB_4 rfl (lv_at hl 1 rfl) ?_
  refine bdK hf (fun v1 h2 hf => ?_)
  refine r_iald hx hb hK hP 18 0 rfl rfl h2 d_CA_inForB_5 ?_
  exact rr_i hx hb hr hlk (stC_g t) hK hT hP hS hf d_CA_inForB_6
set_option maxHeartbeats 4000000 in
set_option maxRecDepth 100000 in
theorem c_CA_inForB (l : Launch) {D : va_G} {a t : Nat → Nat} {cI cZ : ClassId} (ha : aCC a) (x1 : Int32) (σ : SS) (q : Int32 × SS) (hf : f_CA_inForB x1 σ = some q) : Met l y_CA_inForB ws_CA_inForB { frames := 0, cells := 0, slots := 0, locals := 0 } (va_Pc [.ref (a 3), .int x1] (pW D (wC a cI cZ) [(cI, .int), (cZ, .boolean)] (stC t) (aC a) σ)) (va_Qi (fun r u => r = q.1 ∧ u = q.2) (pW D (wC a cI cZ) [(cI, .int), (cZ, .boolean)] (stC t) (aC a)) (aC a)) 0 0 (aC a) := by
  refine Met.ofW (cc := b_CA_inForB) (maxL := 2) (ret := some .int) (by decide) rfl ?_
  intro p e s m args below meth c s₁ B hml hv
  obtain ⟨rfl, hP, hK, hT⟩ := hv
  have hl := lv_entry ([.ref (a 3), .int x1]) (n := 2) (Nat.le_of_ble_eq_true rfl)
  rw [lg_entry_eq]
  generalize (lg_sl ([.ref (a 3), .int x1]) ++ List.replicate (2 - (lg_sl ([.ref (a 3), .int x1])).length) Slot.unset).toArray = ls at hl ⊢
  exact e_CA_inForB ha ⟨B.exec, B.bytes, hml, findClass_of_methodNamed B.named, fun w h => atoms_spec (ws := ws_CA_inForB) B.pre w (List.mem_cons_of_mem _ h)⟩ B.returns B.notSynchronized hK hT x1 σ q hf s.heap [] hP va_S.rf ls hl
theorem d_CA_takesBFirst_0 : decode b_CA_takesBFirst 0 = .ok (.aload_n 0, 1) := by decide +kernel
theorem d_CA_takesBFirst_1 : decode b_CA_takesBFirst 1 = .ok (.getfield 31, 3) := by decide +kernel
theorem d_CA_takesBFirst_4 : decode b_CA_takesBFirst 4 = .ok (.iload_n 1, 1) := by decide +kernel
theorem d_CA_takesBFirst_5 : decode b_CA_takesBFirst 5 = .ok (.invokevirtual 68, 3) := by decide +kernel
theorem d_CA_takesBFirst_8 : decode b_CA_takesBFirst 8 = .ok (.iconst (-1), 1) := by decide +kernel
theorem d_CA_takesBFirst_9 : decode b_CA_takesBFirst 9 = .ok (.if_icmp .eq 30, 3) := by decide +kernel
theorem d_CA_takesBFirst_12 : decode b_CA_takesBFirst 12 = .ok (.aload_n 0, 1) := by decide +kernel
theorem d_CA_takesBFirst_13 : decode b_CA_takesBFirst 13 = .ok (.aload_n 0, 1) := by decide +kernel
theorem d_CA_takesBFirst_14 : decode b_CA_takesBFirst 14 = .ok (.getfield 18, 3) := by decide +kernel
theorem d_CA_takesBFirst_17 : decode b_CA_takesBFirst 17 = .ok (.iload_n 1, 1) := by decide +kernel
theorem d_CA_takesBFirst_18 : decode b_CA_takesBFirst 18 = .ok (.iaload, 1) := by decide +kernel
theorem d_CA_takesBFirst_19 : decode b_CA_takesBFirst 19 = .ok (.invokevirtual 111, 3) := by decide +kernel
theorem d_CA_takesBFirst_22 : decode b_CA_takesBFirst 22 = .ok (.aload_n 0, 1) := by decide +kernel
theorem d_CA_takesBFirst_23 : decode b_CA_takesBFirst 23 = .ok (.aload_n 0, 1) := by decide +kernel
theorem d_CA_takesBFirst_24 : decode b_CA_takesBFirst 24 = .ok (.getfield 15, 3) := by decide +kernel
theorem d_CA_takesBFirst_27 : decode b_CA_takesBFirst 27 = .ok (.iload_n 1, 1) := by decide +kernel
theorem d_CA_takesBFirst_28 : decode b_CA_takesBFirst 28 = .ok (.iaload, 1) := by decide +kernel
theorem d_CA_takesBFirst_29 : decode b_CA_takesBFirst 29 = .ok (.invokevirtual 111, 3) := by decide +kernel
theorem d_CA_takesBFirst_32 : decode b_CA_takesBFirst 32 = .ok (.if_icmp .le 7, 3) := by decide +kernel
theorem d_CA_takesBFirst_35 : decode b_CA_takesBFirst 35 = .ok (.iconst 1, 1) := by decide +kernel
theorem d_CA_takesBFirst_36 : decode b_CA_takesBFirst 36 = .ok (.goto 4, 3) := by decide +kernel
theorem d_CA_takesBFirst_39 : decode b_CA_takesBFirst 39 = .ok (.iconst 0, 1) := by decide +kernel
theorem d_CA_takesBFirst_40 : decode b_CA_takesBFirst 40 = .ok (.ireturn, 1) := by decide +kernel
def f_CA_takesBFirst (x1 : Int32) (σ : SS) : Option (Int32 × SS) :=
  (f_RC_readAsB x1 σ).bind fun q1 => (if q1.1 = (-1 : Int32) then some ((0 : Int32), q1.2) else (ld (q1.2 12) 40 x1).bind fun v4 => (f_CA_thingNeed v4 q1.2).bind fun q6 => (ld (q6.2 11) 40 x1).bind fun v8 => (f_CA_thingNeed v8 q6.2).bind fun q10 => (if q6.1 ≤ q10.1 then some ((0 : Int32), q10.2) else some ((1 : Int32), q10.2)))
set_option maxHeartbeats 4000000 in
set_option maxRecDepth 100000 in
theorem e_CA_takesBFirst {p : Program} {l : Launch} {e : Env} {s : State} {m : MethodId} {args : Array Value} {below : List Frame} {meth : Method} {c : Code} {D : va_G} {a t : Nat → Nat} {cI cZ : ClassId} (ha : aCC a) (F : CallFix p m c b_CA_takesBFirst 2 s args gt R_CA) (hr : meth.sig.returnType = some .boolean) (hlk : meth.locks = false) (hK : va_K D vwCl [(cI, .int), (cZ, .boolean)] s) (hT : stC t (aC a) s s.heap) :
    ∀ (x1 : Int32) (σ : SS) (q : Int32 × SS), f_CA_takesBFirst x1 σ = some q → ∀ (H : Heap) (locs : List Loc), va_P D vwCl ((wC a cI cZ) σ) H → va_S (aC a) s.heap H locs → ∀ (ls : Array Slot), lv_has ls 2 [(0, .ref (a 3)), (1, .int x1)] → W p l e { frames := 1, cells := 0, slots := 0, locals := 21 } s m args below meth c H locs 0 0 (MQ below (va_Qi (fun r u => r = q.1 ∧ u = q.2) (pW D (wC a cI cZ) [(cI, .int), (cZ, .boolean)] (stC t) (aC a)) (aC a)) args s 0 0 (aC a)) (F0 m 0 ls []) := by
  obtain ⟨hx, hb, hml, hown, hg⟩ := id F
  intro x1 σ q hf H locs hP hS ls hl
  unfold f_CA_takesBFirst at hf
  refine lv_aload_n hx hb d_CA_takesBFirst_0 rfl (lv_at hl 0 rfl) ?_
  refine va_get (D := D) (ci := 3) (v := .ref (a 1)) (C := R_CA) (T := T_CA) (N := 9) hx hb hg in_CA hown hK hP 3 rfl rfl 0 (by decide) (hg _ gw_75) (fun _ h9 => h9) rfl d_CA_takesBFirst_1 ?_
  refine lv_iload_n hx hb d_CA_takesBFirst_4 rfl (lv_at hl 1 rfl) ?_
  refine bdK hf (fun q1 h2 hf => ?_)
  refine rc_Vi (As := [.int x1]) (rest := []) (b := a 1) (stC_g t) F (c_RC_readAsB l ha x1 σ q1 h2) (cwV 1 hg gc_CA_68 rfl rfl rfl hs_RC_readAsB ⟨Nat.le_of_ble_eq_true rfl, Nat.le_of_ble_eq_true rfl⟩) hK hT hP hS (va_recv hK hP (ci := 1) (q0 := 1) rfl rfl) rfl hl.1 rfl (Nat.le_of_ble_eq_true rfl) d_CA_takesBFirst_5 ⟨Nat.zero_le _, Nat.zero_le _⟩ (fun H locs hP hS => ?_)
  refine lv_iconst (v := (-1 : Int32)) hx hb d_CA_takesBFirst_8 (by decide) ?_
  refine lv_icmp_eq (tgt := 39) hx hb d_CA_takesBFirst_9 (by decide) (fun c3 => ?_) (fun c3 => ?_)
  · replace hf := (if_pos c3).symm.trans hf
    refine lv_iconst (v := (0 : Int32)) hx hb d_CA_takesBFirst_39 (by decide) ?_
    exact rr_z hx hb hr hlk (stC_g t) hK hT hP hS (Or.inl rfl) hf d_CA_takesBFirst_40
  · replace hf := (if_neg c3).symm.trans hf
    refine lv_aload_n hx hb d_CA_takesBFirst_12 rfl (lv_at hl 0 rfl) ?_
    refine lv_aload_n hx hb d_CA_takesBFirst_13 rfl (lv_at hl 0 rfl) ?_
    refine va_get (D := D) (ci := 3) (v := .ref (a 18)) (C := R_CA) (T := T_CA) (N := 9) hx hb hg in_CA hown hK hP 3 rfl rfl 5 (by decide) (hg _ gw_80) (fun _ h9 => h9) rfl d_CA_takesBFirst_14 ?_
    refine lv_iload_n hx hb d_CA_takesBFirst_17 rfl (lv_at hl 1 rfl) ?_
    refine bdK hf (fun v4 h5 hf => ?_)
    refine r_iald hx hb hK hP 18 0 rfl rfl h5 d_CA_takesBFirst_18 ?_
    refine bdK hf (fun q6 h7 hf => ?_)
    refine rc_Vi (As := [.int v4]) (rest := []) (b := a 3) (stC_g t) F (c_CA_thingNeed l ha v4 q1.2 q6 h7) (cwV 1 hg gc_CA_111 rfl rfl rfl hs_CA_thingNeed ⟨Nat.le_of_ble_eq_true rfl, Nat.le_of_ble_eq_true rfl⟩) hK hT hP hS (va_recv hK hP (ci := 3) (q0 := 3) rfl rfl) rfl hl.1 rfl (Nat.le_of_ble_eq_true rfl) d_CA_takesBFirst_19 ⟨Nat.zero_le _, Nat.zero_le _⟩ (fun H locs hP hS => ?_)
    refine lv_aload_n hx hb d_CA_takesBFirst_22 rfl (lv_at hl 0 rfl) ?_
    refine lv_aload_n hx hb d_CA_takesBFirst_23 rfl (lv_at hl 0 rfl) ?_
    refine va_get (D := D) (ci := 3) (v := .ref (a 17)) (C := R_CA) (T := T_CA) (N := 9) hx hb hg in_CA hown hK hP 3 rfl rfl 4 (by decide) (hg _ gw_79) (fun _ h9 => h9) rfl d_CA_takesBFirst_24 ?_
    refine lv_iload_n hx hb d_CA_takesBFirst_27 rfl (lv_at hl 1 rfl) ?_
    refine bdK hf (fun v8 h9 hf => ?_)
    refine r_iald hx hb hK hP 17 0 rfl rfl h9 d_CA_takesBFirst_28 ?_
    refine bdK hf (fun q10 h11 hf => ?_)
    refine rc_Vi (As := [.int v8]) (rest := [.int q6.1]) (b := a 3) (stC_g t) F (c_CA_thingNeed l ha v8 q6.2 q10 h11) (cwV 1 hg gc_CA_111 rfl rfl rfl hs_CA_thingNeed ⟨Nat.le_of_ble_eq_true rfl, Nat.le_of_ble_eq_true rfl⟩) hK hT hP hS (va_recv hK hP (ci := 3) (q0 := 3) rfl rfl) rfl hl.1 rfl (Nat.le_of_ble_eq_true rfl) d_CA_takesBFirst_29 ⟨Nat.zero_le _, Nat.zero_le _⟩ (fun H locs hP hS => ?_)
    refine lv_icmp_le (tgt := 39) hx hb d_CA_takesBFirst_32 (by decide) (fun c12 => ?_) (fun c12 => ?_)
    · replace hf := (if_pos c12).symm.trans hf
      refine lv_iconst (v := (0 : Int32)) hx hb d_CA_takesBFirst_39 (by decide) ?_
      exact rr_z hx hb hr hlk (stC_g t) hK hT hP hS (Or.inl rfl) hf d_CA_takesBFirst_40
    · replace hf := (if_neg c12).symm.trans hf
      refine lv_iconst (v := (1 : Int32)) hx hb d_CA_takesBFirst_35 (by decide) ?_
      refine lv_goto (tgt := 40) hx hb d_CA_takesBFirst_36 (by decide) ?_
      exact rr_z hx hb hr hlk (stC_g t) hK hT hP hS (Or.inr rfl) hf d_CA_takesBFirst_40
set_option maxHeartbeats 4000000 in
set_option maxRecDepth 100000 in
theorem c_CA_takesBFirst (l : Launch) {D : va_G} {a t : Nat → Nat} {cI cZ : ClassId} (ha : aCC a) (x1 : Int32) (σ : SS) (q : Int32 × SS) (hf : f_CA_takesBFirst x1 σ = some q) : Met l y_CA_takesBFirst ws_CA_takesBFirst { frames := 1, cells := 0, slots := 0, locals := 21 } (va_Pc [.ref (a 3), .int x1] (pW D (wC a cI cZ) [(cI, .int), (cZ, .boolean)] (stC t) (aC a) σ)) (va_Qi (fun r u => r = q.1 ∧ u = q.2) (pW D (wC a cI cZ) [(cI, .int), (cZ, .boolean)] (stC t) (aC a)) (aC a)) 0 0 (aC a) := by
  refine Met.ofW (cc := b_CA_takesBFirst) (maxL := 2) (ret := some .boolean) (by decide) rfl ?_
  intro p e s m args below meth c s₁ B hml hv
  obtain ⟨rfl, hP, hK, hT⟩ := hv
  have hl := lv_entry ([.ref (a 3), .int x1]) (n := 2) (Nat.le_of_ble_eq_true rfl)
  rw [lg_entry_eq]
  generalize (lg_sl ([.ref (a 3), .int x1]) ++ List.replicate (2 - (lg_sl ([.ref (a 3), .int x1])).length) Slot.unset).toArray = ls at hl ⊢
  exact e_CA_takesBFirst ha ⟨B.exec, B.bytes, hml, findClass_of_methodNamed B.named, fun w h => atoms_spec (ws := ws_CA_takesBFirst) B.pre w (List.mem_cons_of_mem _ h)⟩ B.returns B.notSynchronized hK hT x1 σ q hf s.heap [] hP va_S.rf ls hl
theorem d_ST_needsSwap_0 : decode b_ST_needsSwap 0 = .ok (.aload_n 0, 1) := by decide +kernel
theorem d_ST_needsSwap_1 : decode b_ST_needsSwap 1 = .ok (.getfield 24, 3) := by decide +kernel
theorem d_ST_needsSwap_4 : decode b_ST_needsSwap 4 = .ok (.iload_n 1, 1) := by decide +kernel
theorem d_ST_needsSwap_5 : decode b_ST_needsSwap 5 = .ok (.invokevirtual 89, 3) := by decide +kernel
theorem d_ST_needsSwap_8 : decode b_ST_needsSwap 8 = .ok (.istore_n 2, 1) := by decide +kernel
theorem d_ST_needsSwap_9 : decode b_ST_needsSwap 9 = .ok (.aload_n 0, 1) := by decide +kernel
theorem d_ST_needsSwap_10 : decode b_ST_needsSwap 10 = .ok (.getfield 32, 3) := by decide +kernel
theorem d_ST_needsSwap_13 : decode b_ST_needsSwap 13 = .ok (.iload_n 1, 1) := by decide +kernel
theorem d_ST_needsSwap_14 : decode b_ST_needsSwap 14 = .ok (.invokevirtual 95, 3) := by decide +kernel
theorem d_ST_needsSwap_17 : decode b_ST_needsSwap 17 = .ok (.ifCond .eq 23, 3) := by decide +kernel
theorem d_ST_needsSwap_20 : decode b_ST_needsSwap 20 = .ok (.iload_n 2, 1) := by decide +kernel
theorem d_ST_needsSwap_21 : decode b_ST_needsSwap 21 = .ok (.iconst 3, 1) := by decide +kernel
theorem d_ST_needsSwap_22 : decode b_ST_needsSwap 22 = .ok (.if_icmp .eq 14, 3) := by decide +kernel
theorem d_ST_needsSwap_25 : decode b_ST_needsSwap 25 = .ok (.iload_n 2, 1) := by decide +kernel
theorem d_ST_needsSwap_26 : decode b_ST_needsSwap 26 = .ok (.iconst 5, 1) := by decide +kernel
theorem d_ST_needsSwap_27 : decode b_ST_needsSwap 27 = .ok (.if_icmp .eq 9, 3) := by decide +kernel
theorem d_ST_needsSwap_30 : decode b_ST_needsSwap 30 = .ok (.iload_n 2, 1) := by decide +kernel
theorem d_ST_needsSwap_31 : decode b_ST_needsSwap 31 = .ok (.bipush 7, 2) := by decide +kernel
theorem d_ST_needsSwap_33 : decode b_ST_needsSwap 33 = .ok (.if_icmp .ne 7, 3) := by decide +kernel
theorem d_ST_needsSwap_36 : decode b_ST_needsSwap 36 = .ok (.iconst 1, 1) := by decide +kernel
theorem d_ST_needsSwap_37 : decode b_ST_needsSwap 37 = .ok (.goto 4, 3) := by decide +kernel
theorem d_ST_needsSwap_40 : decode b_ST_needsSwap 40 = .ok (.iconst 0, 1) := by decide +kernel
theorem d_ST_needsSwap_41 : decode b_ST_needsSwap 41 = .ok (.ireturn, 1) := by decide +kernel
theorem gc_ST_89 : GoodIn gt (wsV R_ST 89 R_RC y_RC_operationOf ws_RC_operationOf) := gd_V gw_385 gw_246 gw_247 gw_2 gw_248
theorem gc_ST_95 : GoodIn gt (wsV R_ST 95 R_CA y_CA_takesBFirst ws_CA_takesBFirst) := gd_V gw_386 gw_387 gw_388 gw_4 gw_389
def f_ST_needsSwap (x1 : Int32) (σ : SS) : Option (Int32 × SS) :=
  (f_RC_operationOf x1 σ).bind fun q1 => (f_CA_takesBFirst x1 q1.2).bind fun q3 => (if q3.1 = 0 then some ((0 : Int32), q3.2) else (if q1.1 = (3 : Int32) then some ((1 : Int32), q3.2) else (if q1.1 = (5 : Int32) then some ((1 : Int32), q3.2) else (if q1.1 = (7 : Int32) then some ((1 : Int32), q3.2) else some ((0 : Int32), q3.2)))))
set_option maxHeartbeats 4000000 in
set_option maxRecDepth 100000 in
theorem e_ST_needsSwap {p : Program} {l : Launch} {e : Env} {s : State} {m : MethodId} {args : Array Value} {below : List Frame} {meth : Method} {c : Code} {D : va_G} {a t : Nat → Nat} {cI cZ : ClassId} (ha : aCC a) (F : CallFix p m c b_ST_needsSwap 3 s args gt R_ST) (hr : meth.sig.returnType = some .boolean) (hlk : meth.locks = false) (hK : va_K D vwCl [(cI, .int), (cZ, .boolean)] s) (hT : stC t (aC a) s s.heap) :
    ∀ (x1 : Int32) (σ : SS) (q : Int32 × SS), f_ST_needsSwap x1 σ = some q → ∀ (H : Heap) (locs : List Loc), va_P D vwCl ((wC a cI cZ) σ) H → va_S (aC a) s.heap H locs → ∀ (ls : Array Slot), lv_has ls 3 [(0, .ref (a 4)), (1, .int x1)] → W p l e { frames := 2, cells := 0, slots := 0, locals := 42 } s m args below meth c H locs 0 0 (MQ below (va_Qi (fun r u => r = q.1 ∧ u = q.2) (pW D (wC a cI cZ) [(cI, .int), (cZ, .boolean)] (stC t) (aC a)) (aC a)) args s 0 0 (aC a)) (F0 m 0 ls []) := by
  obtain ⟨hx, hb, hml, hown, hg⟩ := id F
  intro x1 σ q hf H locs hP hS ls hl
  unfold f_ST_needsSwap at hf
  refine lv_aload_n hx hb d_ST_needsSwap_0 rfl (lv_at hl 0 rfl) ?_
  refine va_get (D := D) (ci := 4) (v := .ref (a 1)) (C := R_ST) (T := T_ST) (N := 9) hx hb hg in_ST hown hK hP 4 rfl rfl 0 (by decide) (hg _ gw_109) (fun _ h9 => h9) rfl d_ST_needsSwap_1 ?_
  refine lv_iload_n hx hb d_ST_needsSwap_4 rfl (lv_at hl 1 rfl) ?_
  refine bdK hf (fun q1 h2 hf => ?_)
  refine rc_Vi (As := [.int x1]) (rest := []) (b := a 1) (stC_g t) F (c_RC_operationOf l ha x1 σ q1 h2) (cwV 1 hg gc_ST_89 rfl rfl rfl hs_RC_operationOf ⟨Nat.le_of_ble_eq_true rfl, Nat.le_of_ble_eq_true rfl⟩) hK hT hP hS (va_recv hK hP (ci := 1) (q0 := 1) rfl rfl) rfl hl.1 rfl (Nat.le_of_ble_eq_true rfl) d_ST_needsSwap_5 ⟨Nat.zero_le _, Nat.zero_le _⟩ (fun H locs hP hS => ?_)
  refine lv_istore_n (lv' := [(2, .int q1.1), (0, .ref (a 4)), (1, .int x1)]) hx hb d_ST_needsSwap_8 rfl hl (by decide) rfl (fun ls hl => ?_)
  refine lv_aload_n hx hb d_ST_needsSwap_9 rfl (lv_at hl 1 rfl) ?_
  refine va_get (D := D) (ci := 4) (v := .ref (a 3)) (C := R_ST) (T := T_ST) (N := 9) hx hb hg in_ST hown hK hP 4 rfl rfl 2 (by decide) (hg _ gw_111) (fun _ h9 => h9) rfl d_ST_needsSwap_10 ?_
  refine lv_iload_n hx hb d_ST_needsSwap_13 rfl (lv_at hl 2 rfl) ?_
  refine bdK hf (fun q3 h4 hf => ?_)
  refine rc_Vi (As := [.int x1]) (rest := []) (b := a 3) (stC_g t) F (c_CA_takesBFirst l ha x1 q1.2 q3 h4) (cwV 1 hg gc_ST_95 rfl rfl rfl hs_CA_takesBFirst ⟨Nat.le_of_ble_eq_true rfl, Nat.le_of_ble_eq_true rfl⟩) hK hT hP hS (va_recv hK hP (ci := 3) (q0 := 3) rfl rfl) rfl hl.1 rfl (Nat.le_of_ble_eq_true rfl) d_ST_needsSwap_14 ⟨Nat.zero_le _, Nat.zero_le _⟩ (fun H locs hP hS => ?_)
  refine lv_if_eq (tgt := 40) hx hb d_ST_needsSwap_17 (by decide) (fun c5 => ?_) (fun c5 => ?_)
  · replace hf := (if_pos c5).symm.trans hf
    refine lv_iconst (v := (0 : Int32)) hx hb d_ST_needsSwap_40 (by decide) ?_
    exact rr_z hx hb hr hlk (stC_g t) hK hT hP hS (Or.inl rfl) hf d_ST_needsSwap_41
  · replace hf := (if_neg c5).symm.trans hf
    refine lv_iload_n hx hb d_ST_needsSwap_20 rfl (lv_at hl 0 rfl) ?_
    refine lv_iconst (v := (3 : Int32)) hx hb d_ST_needsSwap_21 (by decide) ?_
    refine lv_icmp_eq (tgt := 36) hx hb d_ST_needsSwap_22 (by decide) (fun c6 => ?_) (fun c6 => ?_)
    · replace hf := (if_pos c6).symm.trans hf
      refine lv_iconst (v := (1 : Int32)) hx hb d_ST_needsSwap_36 (by decide) ?_
      refine lv_goto (tgt := 41) hx hb d_ST_needsSwap_37 (by decide) ?_
      exact rr_z hx hb hr hlk (stC_g t) hK hT hP hS (Or.inr rfl) hf d_ST_needsSwap_41
    · replace hf := (if_neg c6).symm.trans hf
      refine lv_iload_n hx hb d_ST_needsSwap_25 rfl (lv_at hl 0 rfl) ?_
      refine lv_iconst (v := (5 : Int32)) hx hb d_ST_needsSwap_26 (by decide) ?_
      refine lv_icmp_eq (tgt := 36) hx hb d_ST_needsSwap_27 (by decide) (fun c7 => ?_) (fun c7 => ?_)
      · replace hf := (if_pos c7).symm.trans hf
        refine lv_iconst (v := (1 : Int32)) hx hb d_ST_needsSwap_36 (by decide) ?_
        refine lv_goto (tgt := 41) hx hb d_ST_needsSwap_37 (by decide) ?_
        exact rr_z hx hb hr hlk (stC_g t) hK hT hP hS (Or.inr rfl) hf d_ST_needsSwap_41
      · replace hf := (if_neg c7).symm.trans hf
        refine lv_iload_n hx hb d_ST_needsSwap_30 rfl (lv_at hl 0 rfl) ?_
        refine lv_bipush (v := (7 : Int32)) hx hb d_ST_needsSwap_31 (by decide) ?_
        refine lv_icmp_ne (tgt := 40) hx hb d_ST_needsSwap_33 (by decide) (fun c8 => ?_) (fun c8 => ?_)
        · replace hf := (if_neg c8).symm.trans hf
          refine lv_iconst (v := (0 : Int32)) hx hb d_ST_needsSwap_40 (by decide) ?_
          exact rr_z hx hb hr hlk (stC_g t) hK hT hP hS (Or.inl rfl) hf d_ST_needsSwap_41
        · replace hf := (if_pos c8).symm.trans hf
          refine lv_iconst (v := (1 : Int32)) hx hb d_ST_needsSwap_36 (by decide) ?_
          refine lv_goto (tgt := 41) hx hb d_ST_needsSwap_37 (by decide) ?_
          exact rr_z hx hb hr hlk (stC_g t) hK hT hP hS (Or.inr rfl) hf d_ST_needsSwap_41
set_option maxHeartbeats 4000000 in
set_option maxRecDepth 100000 in
theorem c_ST_needsSwap (l : Launch) {D : va_G} {a t : Nat → Nat} {cI cZ : ClassId} (ha : aCC a) (x1 : Int32) (σ : SS) (q : Int32 × SS) (hf : f_ST_needsSwap x1 σ = some q) : Met l y_ST_needsSwap ws_ST_needsSwap { frames := 2, cells := 0, slots := 0, locals := 42 } (va_Pc [.ref (a 4), .int x1] (pW D (wC a cI cZ) [(cI, .int), (cZ, .boolean)] (stC t) (aC a) σ)) (va_Qi (fun r u => r = q.1 ∧ u = q.2) (pW D (wC a cI cZ) [(cI, .int), (cZ, .boolean)] (stC t) (aC a)) (aC a)) 0 0 (aC a) := by
  refine Met.ofW (cc := b_ST_needsSwap) (maxL := 3) (ret := some .boolean) (by decide) rfl ?_
  intro p e s m args below meth c s₁ B hml hv
  obtain ⟨rfl, hP, hK, hT⟩ := hv
  have hl := lv_entry ([.ref (a 4), .int x1]) (n := 3) (Nat.le_of_ble_eq_true rfl)
  rw [lg_entry_eq]
  generalize (lg_sl ([.ref (a 4), .int x1]) ++ List.replicate (3 - (lg_sl ([.ref (a 4), .int x1])).length) Slot.unset).toArray = ls at hl ⊢
  exact e_ST_needsSwap ha ⟨B.exec, B.bytes, hml, findClass_of_methodNamed B.named, fun w h => atoms_spec (ws := ws_ST_needsSwap) B.pre w (List.mem_cons_of_mem _ h)⟩ B.returns B.notSynchronized hK hT x1 σ q hf s.heap [] hP va_S.rf ls hl
theorem d_CA_isCarried_0 : decode b_CA_isCarried 0 = .ok (.aload_n 0, 1) := by decide +kernel
theorem d_CA_isCarried_1 : decode b_CA_isCarried 1 = .ok (.getfield 9, 3) := by decide +kernel
theorem d_CA_isCarried_4 : decode b_CA_isCarried 4 = .ok (.iload_n 1, 1) := by decide +kernel
theorem d_CA_isCarried_5 : decode b_CA_isCarried 5 = .ok (.iaload, 1) := by decide +kernel
theorem d_CA_isCarried_6 : decode b_CA_isCarried 6 = .ok (.iconst (-1), 1) := by decide +kernel
theorem d_CA_isCarried_7 : decode b_CA_isCarried 7 = .ok (.if_icmp .eq 7, 3) := by decide +kernel
theorem d_CA_isCarried_10 : decode b_CA_isCarried 10 = .ok (.iconst 1, 1) := by decide +kernel
theorem d_CA_isCarried_11 : decode b_CA_isCarried 11 = .ok (.goto 4, 3) := by decide +kernel
theorem d_CA_isCarried_14 : decode b_CA_isCarried 14 = .ok (.iconst 0, 1) := by decide +kernel
theorem d_CA_isCarried_15 : decode b_CA_isCarried 15 = .ok (.ireturn, 1) := by decide +kernel
def f_CA_isCarried (x1 : Int32) (σ : SS) : Option (Int32 × SS) :=
  (ld (σ 10) 40 x1).bind fun v1 => (if v1 = (-1 : Int32) then some ((0 : Int32), σ) else some ((1 : Int32), σ))
set_option maxHeartbeats 4000000 in
set_option maxRecDepth 100000 in
theorem e_CA_isCarried {p : Program} {l : Launch} {e : Env} {s : State} {m : MethodId} {args : Array Value} {below : List Frame} {meth : Method} {c : Code} {D : va_G} {a t : Nat → Nat} {cI cZ : ClassId} (ha : aCC a) (F : CallFix p m c b_CA_isCarried 2 s args gt R_CA) (hr : meth.sig.returnType = some .boolean) (hlk : meth.locks = false) (hK : va_K D vwCl [(cI, .int), (cZ, .boolean)] s) (hT : stC t (aC a) s s.heap) :
    ∀ (x1 : Int32) (σ : SS) (q : Int32 × SS), f_CA_isCarried x1 σ = some q → ∀ (H : Heap) (locs : List Loc), va_P D vwCl ((wC a cI cZ) σ) H → va_S (aC a) s.heap H locs → ∀ (ls : Array Slot), lv_has ls 2 [(0, .ref (a 3)), (1, .int x1)] → W p l e { frames := 0, cells := 0, slots := 0, locals := 0 } s m args below meth c H locs 0 0 (MQ below (va_Qi (fun r u => r = q.1 ∧ u = q.2) (pW D (wC a cI cZ) [(cI, .int), (cZ, .boolean)] (stC t) (aC a)) (aC a)) args s 0 0 (aC a)) (F0 m 0 ls []) := by
  obtain ⟨hx, hb, hml, hown, hg⟩ := id F
  intro x1 σ q hf H locs hP hS ls hl
  unfold f_CA_isCarried at hf
  refine lv_aload_n hx hb d_CA_isCarried_0 rfl (lv_at hl 0 rfl) ?_
  refine va_get (D := D) (ci := 3) (v := .ref (a 16)) (C := R_CA) (T := T_CA) (N := 9) hx hb hg in_CA hown hK hP 3 rfl rfl 3 (by decide) (hg _ gw_78) (fun _ h9 => h9) rfl d_CA_isCarried_1 ?_
  refine lv_iload_n hx hb d_CA_isCarried_4 rfl (lv_at hl 1 rfl) ?_
  refine bdK hf (fun v1 h2 hf => ?_)
  refine r_iald hx hb hK hP 16 0 rfl rfl h2 d_CA_isCarried_5 ?_
  refine lv_iconst (v := (-1 : Int32)) hx hb d_CA_isCarried_6 (by decide) ?_
  refine lv_icmp_eq (tgt := 14) hx hb d_CA_isCarried_7 (by decide) (fun c3 => ?_) (fun c3 => ?_)
  · replace hf := (if_pos c3).symm.trans hf
    refine lv_iconst (v := (0 : Int32)) hx hb d_CA_isCarried_14 (by decide) ?_
    exact rr_z hx hb hr hlk (stC_g t) hK hT hP hS (Or.inl rfl) hf d_CA_isCarried_15
  · replace hf := (if_neg c3).symm.trans hf
    refine lv_iconst (v := (1 : Int32)) hx hb d_CA_isCarried_10 (by decide) ?_
    refine lv_goto (tgt := 15) hx hb d_CA_isCarried_11 (by decide) ?_
    exact rr_z hx hb hr hlk (stC_g t) hK hT hP hS (Or.inr rfl) hf d_CA_isCarried_15
set_option maxHeartbeats 4000000 in
set_option maxRecDepth 100000 in
theorem c_CA_isCarried (l : Launch) {D : va_G} {a t : Nat → Nat} {cI cZ : ClassId} (ha : aCC a) (x1 : Int32) (σ : SS) (q : Int32 × SS) (hf : f_CA_isCarried x1 σ = some q) : Met l y_CA_isCarried ws_CA_isCarried { frames := 0, cells := 0, slots := 0, locals := 0 } (va_Pc [.ref (a 3), .int x1] (pW D (wC a cI cZ) [(cI, .int), (cZ, .boolean)] (stC t) (aC a) σ)) (va_Qi (fun r u => r = q.1 ∧ u = q.2) (pW D (wC a cI cZ) [(cI, .int), (cZ, .boolean)] (stC t) (aC a)) (aC a)) 0 0 (aC a) := by
  refine Met.ofW (cc := b_CA_isCarried) (maxL := 2) (ret := some .boolean) (by decide) rfl ?_
  intro p e s m args below meth c s₁ B hml hv
  obtain ⟨rfl, hP, hK, hT⟩ := hv
  have hl := lv_entry ([.ref (a 3), .int x1]) (n := 2) (Nat.le_of_ble_eq_true rfl)
  rw [lg_entry_eq]
  generalize (lg_sl ([.ref (a 3), .int x1]) ++ List.replicate (2 - (lg_sl ([.ref (a 3), .int x1])).length) Slot.unset).toArray = ls at hl ⊢
  exact e_CA_isCarried ha ⟨B.exec, B.bytes, hml, findClass_of_methodNamed B.named, fun w h => atoms_spec (ws := ws_CA_isCarried) B.pre w (List.mem_cons_of_mem _ h)⟩ B.returns B.notSynchronized hK hT x1 σ q hf s.heap [] hP va_S.rf ls hl
