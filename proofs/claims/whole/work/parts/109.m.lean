theorem d_MA_runOperations_0 : decode b_MA_runOperations 0 = .ok (.aload_n 0, 1) := by decide +kernel
theorem d_MA_runOperations_1 : decode b_MA_runOperations 1 = .ok (.invokevirtual 24, 3) := by decide +kernel
theorem d_MA_runOperations_4 : decode b_MA_runOperations 4 = .ok (.iconst 0, 1) := by decide +kernel
theorem d_MA_runOperations_5 : decode b_MA_runOperations 5 = .ok (.istore_n 2, 1) := by decide +kernel
theorem d_MA_runOperations_6 : decode b_MA_runOperations 6 = .ok (.iconst 0, 1) := by decide +kernel
theorem d_MA_runOperations_7 : decode b_MA_runOperations 7 = .ok (.istore_n 3, 1) := by decide +kernel
theorem d_MA_runOperations_8 : decode b_MA_runOperations 8 = .ok (.iload_n 3, 1) := by decide +kernel
theorem d_MA_runOperations_9 : decode b_MA_runOperations 9 = .ok (.sipush 2000, 3) := by decide +kernel
theorem d_MA_runOperations_12 : decode b_MA_runOperations 12 = .ok (.if_icmp .ge 35, 3) := by decide +kernel
theorem d_MA_runOperations_15 : decode b_MA_runOperations 15 = .ok (.aload_n 1, 1) := by decide +kernel
theorem d_MA_runOperations_16 : decode b_MA_runOperations 16 = .ok (.iload_n 2, 1) := by decide +kernel
theorem d_MA_runOperations_17 : decode b_MA_runOperations 17 = .ok (.invokevirtual 44, 3) := by decide +kernel
theorem d_MA_runOperations_20 : decode b_MA_runOperations 20 = .ok (.ifCond .eq 27, 3) := by decide +kernel
theorem d_MA_runOperations_23 : decode b_MA_runOperations 23 = .ok (.aload_n 0, 1) := by decide +kernel
theorem d_MA_runOperations_24 : decode b_MA_runOperations 24 = .ok (.aload_n 1, 1) := by decide +kernel
theorem d_MA_runOperations_25 : decode b_MA_runOperations 25 = .ok (.iload_n 2, 1) := by decide +kernel
theorem d_MA_runOperations_26 : decode b_MA_runOperations 26 = .ok (.invokevirtual 47, 3) := by decide +kernel
theorem d_MA_runOperations_29 : decode b_MA_runOperations 29 = .ok (.aload_n 1, 1) := by decide +kernel
theorem d_MA_runOperations_30 : decode b_MA_runOperations 30 = .ok (.iload_n 2, 1) := by decide +kernel
theorem d_MA_runOperations_31 : decode b_MA_runOperations 31 = .ok (.invokevirtual 51, 3) := by decide +kernel
theorem d_MA_runOperations_34 : decode b_MA_runOperations 34 = .ok (.iload_n 2, 1) := by decide +kernel
theorem d_MA_runOperations_35 : decode b_MA_runOperations 35 = .ok (.iconst 1, 1) := by decide +kernel
theorem d_MA_runOperations_36 : decode b_MA_runOperations 36 = .ok (.iadd, 1) := by decide +kernel
theorem d_MA_runOperations_37 : decode b_MA_runOperations 37 = .ok (.invokevirtual 54, 3) := by decide +kernel
theorem d_MA_runOperations_40 : decode b_MA_runOperations 40 = .ok (.istore_n 2, 1) := by decide +kernel
theorem d_MA_runOperations_41 : decode b_MA_runOperations 41 = .ok (.iinc 3 1, 3) := by decide +kernel
theorem d_MA_runOperations_44 : decode b_MA_runOperations 44 = .ok (.goto (-36), 3) := by decide +kernel
theorem d_MA_runOperations_47 : decode b_MA_runOperations 47 = .ok (.aload_n 0, 1) := by decide +kernel
theorem d_MA_runOperations_48 : decode b_MA_runOperations 48 = .ok (.iload_n 3, 1) := by decide +kernel
theorem d_MA_runOperations_49 : decode b_MA_runOperations 49 = .ok (.putfield 37, 3) := by decide +kernel
theorem d_MA_runOperations_52 : decode b_MA_runOperations 52 = .ok (.aload_n 0, 1) := by decide +kernel
theorem d_MA_runOperations_53 : decode b_MA_runOperations 53 = .ok (.getfield 41, 3) := by decide +kernel
theorem d_MA_runOperations_56 : decode b_MA_runOperations 56 = .ok (.ireturn, 1) := by decide +kernel
theorem gc_MA_44 : GoodIn gt (wsV R_MA 44 R_ST y_ST_holds ws_ST_holds) := gd_V gw_525 gw_442 gw_443 gw_5 gw_444
theorem gc_MA_47 : GoodIn gt (wsV R_MA 47 R_ST y_ST_operationAt ws_ST_operationAt) := gd_V gw_526 gw_527 gw_528 gw_5 gw_529
theorem gc_MA_51 : GoodIn gt (wsV R_MA 51 R_ST y_ST_numberAt ws_ST_numberAt) := gd_V gw_530 gw_531 gw_532 gw_5 gw_533
theorem gc_MA_54 : GoodIn gt (wsV R_MA 54 R_MA y_MA_followOperation ws_MA_followOperation) := gd_V gw_534 gw_536 gs_30 gw_6 gw_537
def b_MA_runOperations_8 : Nat → Int32 → Int32 → SS → Option (Int32 × SS)
  | 0, _, _, _ => none
  | n + 1, x2, x3, σ =>
    (if (2000 : Int32) ≤ x3 then (sf σ 31 x3).bind fun σ2 => some ((σ2 30 0), σ2) else (f_ST_holds x2 σ).bind fun q4 => (if q4.1 = 0 then (sf q4.2 31 x3).bind fun σ7 => some ((σ7 30 0), σ7) else (f_ST_operationAt x2 q4.2).bind fun q9 => (f_ST_numberAt x2 q9.2).bind fun q11 => (f_MA_followOperation q9.1 q11.1 (x2 + (1 : Int32)) q11.2).bind fun q13 => b_MA_runOperations_8 n q13.1 (x3 + (1 : Int32)) q13.2))
set_option maxHeartbeats 4000000 in
set_option maxRecDepth 100000 in
theorem k_MA_runOperations_8 {p : Program} {l : Launch} {e : Env} {s : State} {m : MethodId} {args : Array Value} {below : List Frame} {meth : Method} {c : Code} {D : va_G} {a t : Nat → Nat} {cI cZ : ClassId} (ha : aCC a) (F : CallFix p m c b_MA_runOperations 4 s args gt R_MA) (hr : meth.sig.returnType = some .int) (hlk : meth.locks = false) (hK : va_K D vwCl [(cI, .int), (cZ, .boolean)] s) (hT : stC t (aC a) s s.heap) :
    ∀ (n : Nat) (x2 x3 : Int32) (σ : SS) (q : Int32 × SS), b_MA_runOperations_8 n x2 x3 σ = some q → ∀ (H : Heap) (locs : List Loc), va_P D vwCl ((wC a cI cZ) σ) H → va_S (aC a) s.heap H locs → ∀ (ls : Array Slot), lv_has ls 4 [(0, .ref (a 5)), (1, .ref (a 4)), (2, .int x2), (3, .int x3)] → W p l e { frames := 3, cells := 0, slots := 0, locals := 67 } s m args below meth c H locs 0 0 (MQ below (va_Qi (fun r u => r = q.1 ∧ u = q.2) (pW D (wC a cI cZ) [(cI, .int), (cZ, .boolean)] (stC t) (aC a)) (aC a)) args s 0 0 (aC a)) (F0 m 8 ls []) := by
  obtain ⟨hx, hb, hml, hown, hg⟩ := id F
  intro n
  induction n with
  | zero =>
    intro x2 x3 σ q hf
    rw [b_MA_runOperations_8] at hf
    cases hf
  | succ n ih =>
    intro x2 x3 σ q hf H locs hP hS ls hl
    rw [b_MA_runOperations_8] at hf
    refine lv_iload_n hx hb d_MA_runOperations_8 rfl (lv_at hl 3 rfl) ?_
    refine lv_sipush (v := (2000 : Int32)) hx hb d_MA_runOperations_9 (by decide) ?_
    refine lv_icmp_ge (tgt := 47) hx hb d_MA_runOperations_12 (by decide) (fun c1 => ?_) (fun c1 => ?_)
    · replace hf := (if_pos c1).symm.trans hf
      refine lv_aload_n hx hb d_MA_runOperations_47 rfl (lv_at hl 0 rfl) ?_
      refine lv_iload_n hx hb d_MA_runOperations_48 rfl (lv_at hl 3 rfl) ?_
      refine bdK hf (fun σ2 h3 hf => ?_)
      refine va_put (D := D) (ci := 5) (v := .int x3) (ty := .int) (C := R_MA) (T := T_MA) (N := 7) hx hb hg in_MA t_MA t_MA_ok n_MA hown hK hP (dC ha σ) hS 5 rfl rfl 6 (by decide) (hg _ gw_149) (fun _ h9 => h9) rfl (by decide +kernel) rfl rfl (Nat.le_of_ble_eq_true rfl) d_MA_runOperations_49 (fun H locs hP _ hS => ?_)
      replace hP := sf_P (wf := (wC a cI cZ)) h3 hP rfl
      refine lv_aload_n hx hb d_MA_runOperations_52 rfl (lv_at hl 0 rfl) ?_
      refine va_get (D := D) (ci := 5) (v := .int (σ2 30 0)) (C := R_MA) (T := T_MA) (N := 7) hx hb hg in_MA hown hK hP 5 rfl rfl 5 (by decide) (hg _ gw_148) (fun _ h9 => h9) rfl d_MA_runOperations_53 ?_
      exact rr_i hx hb hr hlk (stC_g t) hK hT hP hS hf d_MA_runOperations_56
    · replace hf := (if_neg c1).symm.trans hf
      refine lv_aload_n hx hb d_MA_runOperations_15 rfl (lv_at hl 1 rfl) ?_
      refine lv_iload_n hx hb d_MA_runOperations_16 rfl (lv_at hl 2 rfl) ?_
      refine bdK hf (fun q4 h5 hf => ?_)
      refine rc_Vi (As := [.int x2]) (rest := []) (b := a 4) (stC_g t) F (c_ST_holds l ha x2 σ q4 h5) (cwV 1 hg gc_MA_44 rfl rfl rfl hs_ST_holds ⟨Nat.le_of_ble_eq_true rfl, Nat.le_of_ble_eq_true rfl⟩) hK hT hP hS (va_recv hK hP (ci := 4) (q0 := 4) rfl rfl) rfl hl.1 rfl (Nat.le_of_ble_eq_true rfl) d_MA_runOperations_17 ⟨Nat.zero_le _, Nat.zero_le _⟩ (fun H locs hP hS => ?_)
      refine lv_if_eq (tgt := 47) hx hb d_MA_runOperations_20 (by decide) (fun c6 => ?_) (fun c6 => ?_)
      · replace hf := (if_pos c6).symm.trans hf
        refine lv_aload_n hx hb d_MA_runOperations_47 rfl (lv_at hl 0 rfl) ?_
        refine lv_iload_n hx hb d_MA_runOperations_48 rfl (lv_at hl 3 rfl) ?_
        refine bdK hf (fun σ7 h8 hf => ?_)
        refine va_put (D := D) (ci := 5) (v := .int x3) (ty := .int) (C := R_MA) (T := T_MA) (N := 7) hx hb hg in_MA t_MA t_MA_ok n_MA hown hK hP (dC ha q4.2) hS 5 rfl rfl 6 (by decide) (hg _ gw_149) (fun _ h9 => h9) rfl (by decide +kernel) rfl rfl (Nat.le_of_ble_eq_true rfl) d_MA_runOperations_49 (fun H locs hP _ hS => ?_)
        replace hP := sf_P (wf := (wC a cI cZ)) h8 hP rfl
        refine lv_aload_n hx hb d_MA_runOperations_52 rfl (lv_at hl 0 rfl) ?_
        refine va_get (D := D) (ci := 5) (v := .int (σ7 30 0)) (C := R_MA) (T := T_MA) (N := 7) hx hb hg in_MA hown hK hP 5 rfl rfl 5 (by decide) (hg _ gw_148) (fun _ h9 => h9) rfl d_MA_runOperations_53 ?_
        exact rr_i hx hb hr hlk (stC_g t) hK hT hP hS hf d_MA_runOperations_56
      · replace hf := (if_neg c6).symm.trans hf
        refine lv_aload_n hx hb d_MA_runOperations_23 rfl (lv_at hl 0 rfl) ?_
        refine lv_aload_n hx hb d_MA_runOperations_24 rfl (lv_at hl 1 rfl) ?_
        refine lv_iload_n hx hb d_MA_runOperations_25 rfl (lv_at hl 2 rfl) ?_
        refine bdK hf (fun q9 h10 hf => ?_)
        refine rc_Vi (As := [.int x2]) (rest := [.ref (a 5)]) (b := a 4) (stC_g t) F (c_ST_operationAt l ha x2 q4.2 q9 h10) (cwV 1 hg gc_MA_47 rfl rfl rfl hs_ST_operationAt ⟨Nat.le_of_ble_eq_true rfl, Nat.le_of_ble_eq_true rfl⟩) hK hT hP hS (va_recv hK hP (ci := 4) (q0 := 4) rfl rfl) rfl hl.1 rfl (Nat.le_of_ble_eq_true rfl) d_MA_runOperations_26 ⟨Nat.zero_le _, Nat.zero_le _⟩ (fun H locs hP hS => ?_)
        refine lv_aload_n hx hb d_MA_runOperations_29 rfl (lv_at hl 1 rfl) ?_
        refine lv_iload_n hx hb d_MA_runOperations_30 rfl (lv_at hl 2 rfl) ?_
        refine bdK hf (fun q11 h12 hf => ?_)
        refine rc_Vi (As := [.int x2]) (rest := [.int q9.1, .ref (a 5)]) (b := a 4) (stC_g t) F (c_ST_numberAt l ha x2 q9.2 q11 h12) (cwV 1 hg gc_MA_51 rfl rfl rfl hs_ST_numberAt ⟨Nat.le_of_ble_eq_true rfl, Nat.le_of_ble_eq_true rfl⟩) hK hT hP hS (va_recv hK hP (ci := 4) (q0 := 4) rfl rfl) rfl hl.1 rfl (Nat.le_of_ble_eq_true rfl) d_MA_runOperations_31 ⟨Nat.zero_le _, Nat.zero_le _⟩ (fun H locs hP hS => ?_)
        refine lv_iload_n hx hb d_MA_runOperations_34 rfl (lv_at hl 2 rfl) ?_
        refine lv_iconst (v := (1 : Int32)) hx hb d_MA_runOperations_35 (by decide) ?_
        refine lv_iadd hx hb d_MA_runOperations_36 ?_
        refine bdK hf (fun q13 h14 hf => ?_)
        refine rc_Vi (As := [.int q9.1, .int q11.1, .int (x2 + (1 : Int32))]) (rest := []) (b := a 5) (stC_g t) F (c_MA_followOperation l ha q9.1 q11.1 (x2 + (1 : Int32)) q11.2 q13 h14) (cwV 3 hg gc_MA_54 rfl rfl rfl hs_MA_followOperation ⟨Nat.le_of_ble_eq_true rfl, Nat.le_of_ble_eq_true rfl⟩) hK hT hP hS (va_recv hK hP (ci := 5) (q0 := 5) rfl rfl) rfl hl.1 rfl (Nat.le_of_ble_eq_true rfl) d_MA_runOperations_37 ⟨Nat.zero_le _, Nat.zero_le _⟩ (fun H locs hP hS => ?_)
        refine lv_istore_n (lv' := [(2, .int q13.1), (0, .ref (a 5)), (1, .ref (a 4)), (3, .int x3)]) hx hb d_MA_runOperations_40 rfl hl (by decide) rfl (fun ls hl => ?_)
        refine lv_iinc (v := (x3 + (1 : Int32))) (lv' := [(3, .int (x3 + (1 : Int32))), (2, .int q13.1), (0, .ref (a 5)), (1, .ref (a 4))]) hx hb d_MA_runOperations_41 hl (k := 3) rfl (by rfl) (by decide) rfl (fun ls hl => ?_)
        refine lv_goto (tgt := 8) hx hb d_MA_runOperations_44 (by decide) ?_
        exact ih q13.1 (x3 + (1 : Int32)) q13.2 q hf _ _ hP hS ls (lv_sub hl [2, 3, 1, 0] rfl)
def f_MA_runOperations (σ : SS) : Option (Int32 × SS) :=
  (f_MA_reset σ).bind fun σ1 => b_MA_runOperations_8 FU (0 : Int32) (0 : Int32) σ1
set_option maxHeartbeats 4000000 in
set_option maxRecDepth 100000 in
theorem e_MA_runOperations {p : Program} {l : Launch} {e : Env} {s : State} {m : MethodId} {args : Array Value} {below : List Frame} {meth : Method} {c : Code} {D : va_G} {a t : Nat → Nat} {cI cZ : ClassId} (ha : aCC a) (F : CallFix p m c b_MA_runOperations 4 s args gt R_MA) (hr : meth.sig.returnType = some .int) (hlk : meth.locks = false) (hK : va_K D vwCl [(cI, .int), (cZ, .boolean)] s) (hT : stC t (aC a) s s.heap) :
    ∀ (σ : SS) (q : Int32 × SS), f_MA_runOperations σ = some q → ∀ (H : Heap) (locs : List Loc), va_P D vwCl ((wC a cI cZ) σ) H → va_S (aC a) s.heap H locs → ∀ (ls : Array Slot), lv_has ls 4 [(0, .ref (a 5)), (1, .ref (a 4))] → W p l e { frames := 3, cells := 0, slots := 0, locals := 67 } s m args below meth c H locs 0 0 (MQ below (va_Qi (fun r u => r = q.1 ∧ u = q.2) (pW D (wC a cI cZ) [(cI, .int), (cZ, .boolean)] (stC t) (aC a)) (aC a)) args s 0 0 (aC a)) (F0 m 0 ls []) := by
  obtain ⟨hx, hb, hml, hown, hg⟩ := id F
  intro σ q hf H locs hP hS ls hl
  unfold f_MA_runOperations at hf
  refine lv_aload_n hx hb d_MA_runOperations_0 rfl (lv_at hl 0 rfl) ?_
  refine bdK hf (fun σ1 h2 hf => ?_)
  refine rc_Vv (As := []) (rest := []) (b := a 5) (stC_g t) F (c_MA_reset l ha σ σ1 h2) (cwV 0 hg gc_MA_24 rfl rfl rfl hs_MA_reset ⟨Nat.le_of_ble_eq_true rfl, Nat.le_of_ble_eq_true rfl⟩) hK hT hP hS (va_recv hK hP (ci := 5) (q0 := 5) rfl rfl) rfl hl.1 rfl (Nat.le_of_ble_eq_true rfl) d_MA_runOperations_1 ⟨Nat.zero_le _, Nat.zero_le _⟩ (fun H locs hP hS => ?_)
  refine lv_iconst (v := (0 : Int32)) hx hb d_MA_runOperations_4 (by decide) ?_
  refine lv_istore_n (lv' := [(2, .int (0 : Int32)), (0, .ref (a 5)), (1, .ref (a 4))]) hx hb d_MA_runOperations_5 rfl hl (by decide) rfl (fun ls hl => ?_)
  refine lv_iconst (v := (0 : Int32)) hx hb d_MA_runOperations_6 (by decide) ?_
  refine lv_istore_n (lv' := [(3, .int (0 : Int32)), (2, .int (0 : Int32)), (0, .ref (a 5)), (1, .ref (a 4))]) hx hb d_MA_runOperations_7 rfl hl (by decide) rfl (fun ls hl => ?_)
  exact k_MA_runOperations_8 ha F hr hlk hK hT FU (0 : Int32) (0 : Int32) σ1 q hf _ _ hP hS ls (lv_sub hl [2, 3, 1, 0] rfl)
set_option maxHeartbeats 4000000 in
set_option maxRecDepth 100000 in
theorem c_MA_runOperations (l : Launch) {D : va_G} {a t : Nat → Nat} {cI cZ : ClassId} (ha : aCC a) (σ : SS) (q : Int32 × SS) (hf : f_MA_runOperations σ = some q) : Met l y_MA_runOperations ws_MA_runOperations { frames := 3, cells := 0, slots := 0, locals := 67 } (va_Pc [.ref (a 5), .ref (a 4)] (pW D (wC a cI cZ) [(cI, .int), (cZ, .boolean)] (stC t) (aC a) σ)) (va_Qi (fun r u => r = q.1 ∧ u = q.2) (pW D (wC a cI cZ) [(cI, .int), (cZ, .boolean)] (stC t) (aC a)) (aC a)) 0 0 (aC a) := by
  refine Met.ofW (cc := b_MA_runOperations) (maxL := 4) (ret := some .int) (by decide) rfl ?_
  intro p e s m args below meth c s₁ B hml hv
  obtain ⟨rfl, hP, hK, hT⟩ := hv
  have hl := lv_entry ([.ref (a 5), .ref (a 4)]) (n := 4) (Nat.le_of_ble_eq_true rfl)
  rw [lg_entry_eq]
  generalize (lg_sl ([.ref (a 5), .ref (a 4)]) ++ List.replicate (4 - (lg_sl ([.ref (a 5), .ref (a 4)])).length) Slot.unset).toArray = ls at hl ⊢
  exact e_MA_runOperations ha ⟨B.exec, B.bytes, hml, findClass_of_methodNamed B.named, fun w h => atoms_spec (ws := ws_MA_runOperations) B.pre w (List.mem_cons_of_mem _ h)⟩ B.returns B.notSynchronized hK hT σ q hf s.heap [] hP va_S.rf ls hl
theorem d_SC_run_0 : decode b_SC_run 0 = .ok (.iload_n 1, 1) := by decide +kernel
theorem d_SC_run_1 : decode b_SC_run 1 = .ok (.ifCond .ne 15, 3) := by decide +kernel
theorem d_SC_run_4 : decode b_SC_run 4 = .ok (.aload_n 0, 1) := by decide +kernel
theorem d_SC_run_5 : decode b_SC_run 5 = .ok (.getfield 46, 3) := by decide +kernel
theorem d_SC_run_8 : decode b_SC_run 8 = .ok (.aload_n 0, 1) := by decide +kernel
theorem d_SC_run_9 : decode b_SC_run 9 = .ok (.getfield 12, 3) := by decide +kernel
theorem d_SC_run_12 : decode b_SC_run 12 = .ok (.invokevirtual 100, 3) := by decide +kernel
theorem d_SC_run_15 : decode b_SC_run 15 = .ok (.ireturn, 1) := by decide +kernel
theorem d_SC_run_16 : decode b_SC_run 16 = .ok (.iload_n 1, 1) := by decide +kernel
theorem d_SC_run_17 : decode b_SC_run 17 = .ok (.iconst 1, 1) := by decide +kernel
theorem d_SC_run_18 : decode b_SC_run 18 = .ok (.if_icmp .ne 19, 3) := by decide +kernel
theorem d_SC_run_21 : decode b_SC_run 21 = .ok (.aload_n 0, 1) := by decide +kernel
theorem d_SC_run_22 : decode b_SC_run 22 = .ok (.invokevirtual 74, 3) := by decide +kernel
theorem d_SC_run_25 : decode b_SC_run 25 = .ok (.aload_n 0, 1) := by decide +kernel
theorem d_SC_run_26 : decode b_SC_run 26 = .ok (.getfield 46, 3) := by decide +kernel
theorem d_SC_run_29 : decode b_SC_run 29 = .ok (.aload_n 0, 1) := by decide +kernel
theorem d_SC_run_30 : decode b_SC_run 30 = .ok (.getfield 39, 3) := by decide +kernel
theorem d_SC_run_33 : decode b_SC_run 33 = .ok (.invokevirtual 104, 3) := by decide +kernel
theorem d_SC_run_36 : decode b_SC_run 36 = .ok (.ireturn, 1) := by decide +kernel
theorem d_SC_run_37 : decode b_SC_run 37 = .ok (.iconst (-1), 1) := by decide +kernel
theorem d_SC_run_38 : decode b_SC_run 38 = .ok (.ireturn, 1) := by decide +kernel
theorem gc_SC_104 : GoodIn gt (wsV R_SC 104 R_MA y_MA_runOperations ws_MA_runOperations) := gd_V gw_521 gw_522 gw_523 gw_6 gw_524
theorem gc_SC_100 : GoodIn gt (wsV R_SC 100 R_MA y_MA_runInstructions ws_MA_runInstructions) := gd_V gw_490 gw_491 gw_492 gw_6 gw_493
def f_SC_run (x1 : Int32) (σ : SS) : Option (Int32 × SS) :=
  (if x1 = 0 then (f_MA_runInstructions σ).bind fun q7 => some (q7.1, q7.2) else (if x1 = (1 : Int32) then (f_SC_translate σ).bind fun σ3 => (f_MA_runOperations σ3).bind fun q5 => some (q5.1, q5.2) else some ((-1 : Int32), σ)))
set_option maxHeartbeats 4000000 in
set_option maxRecDepth 100000 in
theorem e_SC_run {p : Program} {l : Launch} {e : Env} {s : State} {m : MethodId} {args : Array Value} {below : List Frame} {meth : Method} {c : Code} {D : va_G} {a t : Nat → Nat} {cI cZ : ClassId} (ha : aCC a) (F : CallFix p m c b_SC_run 2 s args gt R_SC) (hr : meth.sig.returnType = some .int) (hlk : meth.locks = false) (hK : va_K D vwCl [(cI, .int), (cZ, .boolean)] s) (hT : stC t (aC a) s s.heap) :
    ∀ (x1 : Int32) (σ : SS) (q : Int32 × SS), f_SC_run x1 σ = some q → ∀ (H : Heap) (locs : List Loc), va_P D vwCl ((wC a cI cZ) σ) H → va_S (aC a) s.heap H locs → ∀ (ls : Array Slot), lv_has ls 2 [(0, .ref (a 0)), (1, .int x1)] → W p l e { frames := 6, cells := 0, slots := 0, locals := 136 } s m args below meth c H locs 0 0 (MQ below (va_Qi (fun r u => r = q.1 ∧ u = q.2) (pW D (wC a cI cZ) [(cI, .int), (cZ, .boolean)] (stC t) (aC a)) (aC a)) args s 0 0 (aC a)) (F0 m 0 ls []) := by
  obtain ⟨hx, hb, hml, hown, hg⟩ := id F
  intro x1 σ q hf H locs hP hS ls hl
  unfold f_SC_run at hf
  refine lv_iload_n hx hb d_SC_run_0 rfl (lv_at hl 1 rfl) ?_
  refine lv_if_ne (tgt := 16) hx hb d_SC_run_1 (by decide) (fun c1 => ?_) (fun c1 => ?_)
  · replace hf := (if_neg c1).symm.trans hf
    refine lv_iload_n hx hb d_SC_run_16 rfl (lv_at hl 1 rfl) ?_
    refine lv_iconst (v := (1 : Int32)) hx hb d_SC_run_17 (by decide) ?_
    refine lv_icmp_ne (tgt := 37) hx hb d_SC_run_18 (by decide) (fun c2 => ?_) (fun c2 => ?_)
    · replace hf := (if_neg c2).symm.trans hf
      refine lv_iconst (v := (-1 : Int32)) hx hb d_SC_run_37 (by decide) ?_
      exact rr_i hx hb hr hlk (stC_g t) hK hT hP hS hf d_SC_run_38
    · replace hf := (if_pos c2).symm.trans hf
      refine lv_aload_n hx hb d_SC_run_21 rfl (lv_at hl 0 rfl) ?_
      refine bdK hf (fun σ3 h4 hf => ?_)
      refine rc_Vv (As := []) (rest := []) (b := a 0) (stC_g t) F (c_SC_translate l ha σ σ3 h4) (cwV 0 hg gc_SC_74 rfl rfl rfl hs_SC_translate ⟨Nat.le_of_ble_eq_true rfl, Nat.le_of_ble_eq_true rfl⟩) hK hT hP hS (va_recv hK hP (ci := 0) (q0 := 0) rfl rfl) rfl hl.1 rfl (Nat.le_of_ble_eq_true rfl) d_SC_run_22 ⟨Nat.zero_le _, Nat.zero_le _⟩ (fun H locs hP hS => ?_)
      refine lv_aload_n hx hb d_SC_run_25 rfl (lv_at hl 0 rfl) ?_
      refine va_get (D := D) (ci := 0) (v := .ref (a 5)) (C := R_SC) (T := T_SC) (N := 6) hx hb hg in_SC hown hK hP 0 rfl rfl 4 (by decide) (hg _ gw_169) (fun _ h9 => h9) rfl d_SC_run_26 ?_
      refine lv_aload_n hx hb d_SC_run_29 rfl (lv_at hl 0 rfl) ?_
      refine va_get (D := D) (ci := 0) (v := .ref (a 4)) (C := R_SC) (T := T_SC) (N := 6) hx hb hg in_SC hown hK hP 0 rfl rfl 3 (by decide) (hg _ gw_168) (fun _ h9 => h9) rfl d_SC_run_30 ?_
      refine bdK hf (fun q5 h6 hf => ?_)
      refine rc_Vi (As := [.ref (a 4)]) (rest := []) (b := a 5) (stC_g t) F (c_MA_runOperations l ha σ3 q5 h6) (cwV 1 hg gc_SC_104 rfl rfl rfl hs_MA_runOperations ⟨Nat.le_of_ble_eq_true rfl, Nat.le_of_ble_eq_true rfl⟩) hK hT hP hS (va_recv hK hP (ci := 5) (q0 := 5) rfl rfl) rfl hl.1 rfl (Nat.le_of_ble_eq_true rfl) d_SC_run_33 ⟨Nat.zero_le _, Nat.zero_le _⟩ (fun H locs hP hS => ?_)
      exact rr_i hx hb hr hlk (stC_g t) hK hT hP hS hf d_SC_run_36
  · replace hf := (if_pos c1).symm.trans hf
    refine lv_aload_n hx hb d_SC_run_4 rfl (lv_at hl 0 rfl) ?_
    refine va_get (D := D) (ci := 0) (v := .ref (a 5)) (C := R_SC) (T := T_SC) (N := 6) hx hb hg in_SC hown hK hP 0 rfl rfl 4 (by decide) (hg _ gw_169) (fun _ h9 => h9) rfl d_SC_run_5 ?_
    refine lv_aload_n hx hb d_SC_run_8 rfl (lv_at hl 0 rfl) ?_
    refine va_get (D := D) (ci := 0) (v := .ref (a 1)) (C := R_SC) (T := T_SC) (N := 6) hx hb hg in_SC hown hK hP 0 rfl rfl 0 (by decide) (hg _ gw_165) (fun _ h9 => h9) rfl d_SC_run_9 ?_
    refine bdK hf (fun q7 h8 hf => ?_)
    refine rc_Vi (As := [.ref (a 1)]) (rest := []) (b := a 5) (stC_g t) F (c_MA_runInstructions l ha σ q7 h8) (cwV 1 hg gc_SC_100 rfl rfl rfl hs_MA_runInstructions ⟨Nat.le_of_ble_eq_true rfl, Nat.le_of_ble_eq_true rfl⟩) hK hT hP hS (va_recv hK hP (ci := 5) (q0 := 5) rfl rfl) rfl hl.1 rfl (Nat.le_of_ble_eq_true rfl) d_SC_run_12 ⟨Nat.zero_le _, Nat.zero_le _⟩ (fun H locs hP hS => ?_)
    exact rr_i hx hb hr hlk (stC_g t) hK hT hP hS hf d_SC_run_15
set_option maxHeartbeats 4000000 in
set_option maxRecDepth 100000 in
theorem c_SC_run (l : Launch) {D : va_G} {a t : Nat → Nat} {cI cZ : ClassId} (ha : aCC a) (x1 : Int32) (σ : SS) (q : Int32 × SS) (hf : f_SC_run x1 σ = some q) : Met l y_SC_run ws_SC_run { frames := 6, cells := 0, slots := 0, locals := 136 } (va_Pc [.ref (a 0), .int x1] (pW D (wC a cI cZ) [(cI, .int), (cZ, .boolean)] (stC t) (aC a) σ)) (va_Qi (fun r u => r = q.1 ∧ u = q.2) (pW D (wC a cI cZ) [(cI, .int), (cZ, .boolean)] (stC t) (aC a)) (aC a)) 0 0 (aC a) := by
  refine Met.ofW (cc := b_SC_run) (maxL := 2) (ret := some .int) (by decide) rfl ?_
  intro p e s m args below meth c s₁ B hml hv
  obtain ⟨rfl, hP, hK, hT⟩ := hv
  have hl := lv_entry ([.ref (a 0), .int x1]) (n := 2) (Nat.le_of_ble_eq_true rfl)
  rw [lg_entry_eq]
  generalize (lg_sl ([.ref (a 0), .int x1]) ++ List.replicate (2 - (lg_sl ([.ref (a 0), .int x1])).length) Slot.unset).toArray = ls at hl ⊢
  exact e_SC_run ha ⟨B.exec, B.bytes, hml, findClass_of_methodNamed B.named, fun w h => atoms_spec (ws := ws_SC_run) B.pre w (List.mem_cons_of_mem _ h)⟩ B.returns B.notSynchronized hK hT x1 σ q hf s.heap [] hP va_S.rf ls hl
theorem d_MA_printedNumber_0 : decode b_MA_printedNumber 0 = .ok (.iload_n 1, 1) := by decide +kernel
theorem d_MA_printedNumber_1 : decode b_MA_printedNumber 1 = .ok (.ifCond .lt 26, 3) := by decide +kernel
theorem d_MA_printedNumber_4 : decode b_MA_printedNumber 4 = .ok (.iload_n 1, 1) := by decide +kernel
theorem d_MA_printedNumber_5 : decode b_MA_printedNumber 5 = .ok (.aload_n 0, 1) := by decide +kernel
theorem d_MA_printedNumber_6 : decode b_MA_printedNumber 6 = .ok (.getfield 41, 3) := by decide +kernel
theorem d_MA_printedNumber_9 : decode b_MA_printedNumber 9 = .ok (.if_icmp .ge 18, 3) := by decide +kernel
theorem d_MA_printedNumber_12 : decode b_MA_printedNumber 12 = .ok (.iload_n 1, 1) := by decide +kernel
theorem d_MA_printedNumber_13 : decode b_MA_printedNumber 13 = .ok (.bipush 40, 2) := by decide +kernel
theorem d_MA_printedNumber_15 : decode b_MA_printedNumber 15 = .ok (.if_icmp .ge 12, 3) := by decide +kernel
theorem d_MA_printedNumber_18 : decode b_MA_printedNumber 18 = .ok (.aload_n 0, 1) := by decide +kernel
theorem d_MA_printedNumber_19 : decode b_MA_printedNumber 19 = .ok (.getfield 18, 3) := by decide +kernel
theorem d_MA_printedNumber_22 : decode b_MA_printedNumber 22 = .ok (.iload_n 1, 1) := by decide +kernel
theorem d_MA_printedNumber_23 : decode b_MA_printedNumber 23 = .ok (.iaload, 1) := by decide +kernel
theorem d_MA_printedNumber_24 : decode b_MA_printedNumber 24 = .ok (.goto 4, 3) := by decide +kernel
theorem d_MA_printedNumber_27 : decode b_MA_printedNumber 27 = .ok (.iconst 0, 1) := by decide +kernel
theorem d_MA_printedNumber_28 : decode b_MA_printedNumber 28 = .ok (.ireturn, 1) := by decide +kernel
def f_MA_printedNumber (x1 : Int32) (σ : SS) : Option (Int32 × SS) :=
  (if x1 < 0 then some ((0 : Int32), σ) else (if (σ 30 0) ≤ x1 then some ((0 : Int32), σ) else (if (40 : Int32) ≤ x1 then some ((0 : Int32), σ) else (ld (σ 22) 40 x1).bind fun v4 => some (v4, σ))))
set_option maxHeartbeats 4000000 in
set_option maxRecDepth 100000 in
theorem e_MA_printedNumber {p : Program} {l : Launch} {e : Env} {s : State} {m : MethodId} {args : Array Value} {below : List Frame} {meth : Method} {c : Code} {D : va_G} {a t : Nat → Nat} {cI cZ : ClassId} (ha : aCC a) (F : CallFix p m c b_MA_printedNumber 2 s args gt R_MA) (hr : meth.sig.returnType = some .int) (hlk : meth.locks = false) (hK : va_K D vwCl [(cI, .int), (cZ, .boolean)] s) (hT : stC t (aC a) s s.heap) :
    ∀ (x1 : Int32) (σ : SS) (q : Int32 × SS), f_MA_printedNumber x1 σ = some q → ∀ (H : Heap) (locs : List Loc), va_P D vwCl ((wC a cI cZ) σ) H → va_S (aC a) s.heap H locs → ∀ (ls : Array Slot), lv_has ls 2 [(0, .ref (a 5)), (1, .int x1)] → W p l e { frames := 0, cells := 0, slots := 0, locals := 0 } s m args below meth c H locs 0 0 (MQ below (va_Qi (fun r u => r = q.1 ∧ u = q.2) (pW D (wC a cI cZ) [(cI, .int), (cZ, .boolean)] (stC t) (aC a)) (aC a)) args s 0 0 (aC a)) (F0 m 0 ls []) := by
  obtain ⟨hx, hb, hml, hown, hg⟩ := id F
  intro x1 σ q hf H locs hP hS ls hl
  unfold f_MA_printedNumber at hf
  refine lv_iload_n hx hb d_MA_printedNumber_0 rfl (lv_at hl 1 rfl) ?_
  refine lv_if_lt (tgt := 27) hx hb d_MA_printedNumber_1 (by decide) (fun c1 => ?_) (fun c1 => ?_)
  · replace hf := (if_pos c1).symm.trans hf
    refine lv_iconst (v := (0 : Int32)) hx hb d_MA_printedNumber_27 (by decide) ?_
    exact rr_i hx hb hr hlk (stC_g t) hK hT hP hS hf d_MA_printedNumber_28
  · replace hf := (if_neg c1).symm.trans hf
    refine lv_iload_n hx hb d_MA_printedNumber_4 rfl (lv_at hl 1 rfl) ?_
    refine lv_aload_n hx hb d_MA_printedNumber_5 rfl (lv_at hl 0 rfl) ?_
    refine va_get (D := D) (ci := 5) (v := .int (σ 30 0)) (C := R_MA) (T := T_MA) (N := 7) hx hb hg in_MA hown hK hP 5 rfl rfl 5 (by decide) (hg _ gw_148) (fun _ h9 => h9) rfl d_MA_printedNumber_6 ?_
    refine lv_icmp_ge (tgt := 27) hx hb d_MA_printedNumber_9 (by decide) (fun c2 => ?_) (fun c2 => ?_)
    · replace hf := (if_pos c2).symm.trans hf
      refine lv_iconst (v := (0 : Int32)) hx hb d_MA_printedNumber_27 (by decide) ?_
      exact rr_i hx hb hr hlk (stC_g t) hK hT hP hS hf d_MA_printedNumber_28
    · replace hf := (if_neg c2).symm.trans hf
      refine lv_iload_n hx hb d_MA_printedNumber_12 rfl (lv_at hl 1 rfl) ?_
      refine lv_bipush (v := (40 : Int32)) hx hb d_MA_printedNumber_13 (by decide) ?_
      refine lv_icmp_ge (tgt := 27) hx hb d_MA_printedNumber_15 (by decide) (fun c3 => ?_) (fun c3 => ?_)
      · replace hf := (if_pos c3).symm.trans hf
        refine lv_iconst (v := (0 : Int32)) hx hb d_MA_printedNumber_27 (by decide) ?_
        exact rr_i hx hb hr hlk (stC_g t) hK hT hP hS hf d_MA_printedNumber_28
      · replace hf := (if_neg c3).symm.trans hf
        refine lv_aload_n hx hb d_MA_printedNumber_18 rfl (lv_at hl 0 rfl) ?_
        refine va_get (D := D) (ci := 5) (v := .ref (a 28)) (C := R_MA) (T := T_MA) (N := 7) hx hb hg in_MA hown hK hP 5 rfl rfl 2 (by decide) (hg _ gw_145) (fun _ h9 => h9) rfl d_MA_printedNumber_19 ?_
        refine lv_iload_n hx hb d_MA_printedNumber_22 rfl (lv_at hl 1 rfl) ?_
        refine bdK hf (fun v4 h5 hf => ?_)
        refine r_iald hx hb hK hP 28 0 rfl rfl h5 d_MA_printedNumber_23 ?_
        refine lv_goto (tgt := 28) hx hb d_MA_printedNumber_24 (by decide) ?_
        exact rr_i hx hb hr hlk (stC_g t) hK hT hP hS hf d_MA_printedNumber_28
set_option maxHeartbeats 4000000 in
set_option maxRecDepth 100000 in
theorem c_MA_printedNumber (l : Launch) {D : va_G} {a t : Nat → Nat} {cI cZ : ClassId} (ha : aCC a) (x1 : Int32) (σ : SS) (q : Int32 × SS) (hf : f_MA_printedNumber x1 σ = some q) : Met l y_MA_printedNumber ws_MA_printedNumber { frames := 0, cells := 0, slots := 0, locals := 0 } (va_Pc [.ref (a 5), .int x1] (pW D (wC a cI cZ) [(cI, .int), (cZ, .boolean)] (stC t) (aC a) σ)) (va_Qi (fun r u => r = q.1 ∧ u = q.2) (pW D (wC a cI cZ) [(cI, .int), (cZ, .boolean)] (stC t) (aC a)) (aC a)) 0 0 (aC a) := by
  refine Met.ofW (cc := b_MA_printedNumber) (maxL := 2) (ret := some .int) (by decide) rfl ?_
  intro p e s m args below meth c s₁ B hml hv
  obtain ⟨rfl, hP, hK, hT⟩ := hv
  have hl := lv_entry ([.ref (a 5), .int x1]) (n := 2) (Nat.le_of_ble_eq_true rfl)
  rw [lg_entry_eq]
  generalize (lg_sl ([.ref (a 5), .int x1]) ++ List.replicate (2 - (lg_sl ([.ref (a 5), .int x1])).length) Slot.unset).toArray = ls at hl ⊢
  exact e_MA_printedNumber ha ⟨B.exec, B.bytes, hml, findClass_of_methodNamed B.named, fun w h => atoms_spec (ws := ws_MA_printedNumber) B.pre w (List.mem_cons_of_mem _ h)⟩ B.returns B.notSynchronized hK hT x1 σ q hf s.heap [] hP va_S.rf ls hl
theorem d_SC_out_0 : decode b_SC_out 0 = .ok (.aload_n 0, 1) := by decide +kernel
theorem d_SC_out_1 : decode b_SC_out 1 = .ok (.getfield 46, 3) := by decide +kernel
theorem d_SC_out_4 : decode b_SC_out 4 = .ok (.iload_n 1, 1) := by decide +kernel
theorem d_SC_out_5 : decode b_SC_out 5 = .ok (.invokevirtual 108, 3) := by decide +kernel
theorem d_SC_out_8 : decode b_SC_out 8 = .ok (.ireturn, 1) := by decide +kernel
theorem gc_SC_108 : GoodIn gt (wsV R_SC 108 R_MA y_MA_printedNumber ws_MA_printedNumber) := gd_V gw_554 gw_555 gw_556 gw_6 gw_557
def f_SC_out (x1 : Int32) (σ : SS) : Option (Int32 × SS) :=
  (f_MA_printedNumber x1 σ).bind fun q1 => some (q1.1, q1.2)
set_option maxHeartbeats 4000000 in
set_option maxRecDepth 100000 in
theorem e_SC_out {p : Program} {l : Launch} {e : Env} {s : State} {m : MethodId} {args : Array Value} {below : List Frame} {meth : Method} {c : Code} {D : va_G} {a t : Nat → Nat} {cI cZ : ClassId} (ha : aCC a) (F : CallFix p m c b_SC_out 2 s args gt R_SC) (hr : meth.sig.returnType = some .int) (hlk : meth.locks = false) (hK : va_K D vwCl [(cI, .int), (cZ, .boolean)] s) (hT : stC t (aC a) s s.heap) :
    ∀ (x1 : Int32) (σ : SS) (q : Int32 × SS), f_SC_out x1 σ = some q → ∀ (H : Heap) (locs : List Loc), va_P D vwCl ((wC a cI cZ) σ) H → va_S (aC a) s.heap H locs → ∀ (ls : Array Slot), lv_has ls 2 [(0, .ref (a 0)), (1, .int x1)] → W p l e { frames := 1, cells := 0, slots := 0, locals := 21 } s m args below meth c H locs 0 0 (MQ below (va_Qi (fun r u => r = q.1 ∧ u = q.2) (pW D (wC a cI cZ) [(cI, .int), (cZ, .boolean)] (stC t) (aC a)) (aC a)) args s 0 0 (aC a)) (F0 m 0 ls []) := by
  obtain ⟨hx, hb, hml, hown, hg⟩ := id F
  intro x1 σ q hf H locs hP hS ls hl
  unfold f_SC_out at hf
  refine lv_aload_n hx hb d_SC_out_0 rfl (lv_at hl 0 rfl) ?_
  refine va_get (D := D) (ci := 0) (v := .ref (a 5)) (C := R_SC) (T := T_SC) (N := 6) hx hb hg in_SC hown hK hP 0 rfl rfl 4 (by decide) (hg _ gw_169) (fun _ h9 => h9) rfl d_SC_out_1 ?_
  refine lv_iload_n hx hb d_SC_out_4 rfl (lv_at hl 1 rfl) ?_
  refine bdK hf (fun q1 h2 hf => ?_)
  refine rc_Vi (As := [.int x1]) (rest := []) (b := a 5) (stC_g t) F (c_MA_printedNumber l ha x1 σ q1 h2) (cwV 1 hg gc_SC_108 rfl rfl rfl hs_MA_printedNumber ⟨Nat.le_of_ble_eq_true rfl, Nat.le_of_ble_eq_true rfl⟩) hK hT hP hS (va_recv hK hP (ci := 5) (q0 := 5) rfl rfl) rfl hl.1 rfl (Nat.le_of_ble_eq_true rfl) d_SC_out_5 ⟨Nat.zero_le _, Nat.zero_le _⟩ (fun H locs hP hS => ?_)
  exact rr_i hx hb hr hlk (stC_g t) hK hT hP hS hf d_SC_out_8
set_option maxHeartbeats 4000000 in
set_option maxRecDepth 100000 in
theorem c_SC_out (l : Launch) {D : va_G} {a t : Nat → Nat} {cI cZ : ClassId} (ha : aCC a) (x1 : Int32) (σ : SS) (q : Int32 × SS) (hf : f_SC_out x1 σ = some q) : Met l y_SC_out ws_SC_out { frames := 1, cells := 0, slots := 0, locals := 21 } (va_Pc [.ref (a 0), .int x1] (pW D (wC a cI cZ) [(cI, .int), (cZ, .boolean)] (stC t) (aC a) σ)) (va_Qi (fun r u => r = q.1 ∧ u = q.2) (pW D (wC a cI cZ) [(cI, .int), (cZ, .boolean)] (stC t) (aC a)) (aC a)) 0 0 (aC a) := by
  refine Met.ofW (cc := b_SC_out) (maxL := 2) (ret := some .int) (by decide) rfl ?_
  intro p e s m args below meth c s₁ B hml hv
  obtain ⟨rfl, hP, hK, hT⟩ := hv
  have hl := lv_entry ([.ref (a 0), .int x1]) (n := 2) (Nat.le_of_ble_eq_true rfl)
  rw [lg_entry_eq]
  generalize (lg_sl ([.ref (a 0), .int x1]) ++ List.replicate (2 - (lg_sl ([.ref (a 0), .int x1])).length) Slot.unset).toArray = ls at hl ⊢
  exact e_SC_out ha ⟨B.exec, B.bytes, hml, findClass_of_methodNamed B.named, fun w h => atoms_spec (ws := ws_SC_out) B.pre w (List.mem_cons_of_mem _ h)⟩ B.returns B.notSynchronized hK hT x1 σ q hf s.heap [] hP va_S.rf ls hl
theorem d_MA_stepCount_0 : decode b_MA_stepCount 0 = .ok (.aload_n 0, 1) := by decide +kernel
theorem d_MA_stepCount_1 : decode b_MA_stepCount 1 = .ok (.getfield 37, 3) := by decide +kernel
theorem d_MA_stepCount_4 : decode b_MA_stepCount 4 = .ok (.ireturn, 1) := by decide +kernel
def f_MA_stepCount (σ : SS) : Option (Int32 × SS) :=
  some ((σ 31 0), σ)
set_option maxHeartbeats 4000000 in
set_option maxRecDepth 100000 in
theorem e_MA_stepCount {p : Program} {l : Launch} {e : Env} {s : State} {m : MethodId} {args : Array Value} {below : List Frame} {meth : Method} {c : Code} {D : va_G} {a t : Nat → Nat} {cI cZ : ClassId} (ha : aCC a) (F : CallFix p m c b_MA_stepCount 1 s args gt R_MA) (hr : meth.sig.returnType = some .int) (hlk : meth.locks = false) (hK : va_K D vwCl [(cI, .int), (cZ, .boolean)] s) (hT : stC t (aC a) s s.heap) :
    ∀ (σ : SS) (q : Int32 × SS), f_MA_stepCount σ = some q → ∀ (H : Heap) (locs : List Loc), va_P D vwCl ((wC a cI cZ) σ) H → va_S (aC a) s.heap H locs → ∀ (ls : Array Slot), lv_has ls 1 [(0, .ref (a 5))] → W p l e { frames := 0, cells := 0, slots := 0, locals := 0 } s m args below meth c H locs 0 0 (MQ below (va_Qi (fun r u => r = q.1 ∧ u = q.2) (pW D (wC a cI cZ) [(cI, .int), (cZ, .boolean)] (stC t) (aC a)) (aC a)) args s 0 0 (aC a)) (F0 m 0 ls []) := by
  obtain ⟨hx, hb, hml, hown, hg⟩ := id F
  intro σ q hf H locs hP hS ls hl
  unfold f_MA_stepCount at hf
  refine lv_aload_n hx hb d_MA_stepCount_0 rfl (lv_at hl 0 rfl) ?_
  refine va_get (D := D) (ci := 5) (v := .int (σ 31 0)) (C := R_MA) (T := T_MA) (N := 7) hx hb hg in_MA hown hK hP 5 rfl rfl 6 (by decide) (hg _ gw_149) (fun _ h9 => h9) rfl d_MA_stepCount_1 ?_
  exact rr_i hx hb hr hlk (stC_g t) hK hT hP hS hf d_MA_stepCount_4
set_option maxHeartbeats 4000000 in
set_option maxRecDepth 100000 in
theorem c_MA_stepCount (l : Launch) {D : va_G} {a t : Nat → Nat} {cI cZ : ClassId} (ha : aCC a) (σ : SS) (q : Int32 × SS) (hf : f_MA_stepCount σ = some q) : Met l y_MA_stepCount ws_MA_stepCount { frames := 0, cells := 0, slots := 0, locals := 0 } (va_Pc [.ref (a 5)] (pW D (wC a cI cZ) [(cI, .int), (cZ, .boolean)] (stC t) (aC a) σ)) (va_Qi (fun r u => r = q.1 ∧ u = q.2) (pW D (wC a cI cZ) [(cI, .int), (cZ, .boolean)] (stC t) (aC a)) (aC a)) 0 0 (aC a) := by
  refine Met.ofW (cc := b_MA_stepCount) (maxL := 1) (ret := some .int) (by decide) rfl ?_
  intro p e s m args below meth c s₁ B hml hv
  obtain ⟨rfl, hP, hK, hT⟩ := hv
  have hl := lv_entry ([.ref (a 5)]) (n := 1) (Nat.le_of_ble_eq_true rfl)
  rw [lg_entry_eq]
  generalize (lg_sl ([.ref (a 5)]) ++ List.replicate (1 - (lg_sl ([.ref (a 5)])).length) Slot.unset).toArray = ls at hl ⊢
  exact e_MA_stepCount ha ⟨B.exec, B.bytes, hml, findClass_of_methodNamed B.named, fun w h => atoms_spec (ws := ws_MA_stepCount) B.pre w (List.mem_cons_of_mem _ h)⟩ B.returns B.notSynchronized hK hT σ q hf s.heap [] hP va_S.rf ls hl
theorem d_SC_steps_0 : decode b_SC_steps 0 = .ok (.aload_n 0, 1) := by decide +kernel
theorem d_SC_steps_1 : decode b_SC_steps 1 = .ok (.getfield 46, 3) := by decide +kernel
theorem d_SC_steps_4 : decode b_SC_steps 4 = .ok (.invokevirtual 111, 3) := by decide +kernel
theorem d_SC_steps_7 : decode b_SC_steps 7 = .ok (.ireturn, 1) := by decide +kernel
theorem gc_SC_111 : GoodIn gt (wsV R_SC 111 R_MA y_MA_stepCount ws_MA_stepCount) := gd_V gw_562 gw_563 gw_564 gw_6 gw_565
def f_SC_steps (σ : SS) : Option (Int32 × SS) :=
  (f_MA_stepCount σ).bind fun q1 => some (q1.1, q1.2)
set_option maxHeartbeats 4000000 in
set_option maxRecDepth 100000 in
theorem e_SC_steps {p : Program} {l : Launch} {e : Env} {s : State} {m : MethodId} {args : Array Value} {below : List Frame} {meth : Method} {c : Code} {D : va_G} {a t : Nat → Nat} {cI cZ : ClassId} (ha : aCC a) (F : CallFix p m c b_SC_steps 1 s args gt R_SC) (hr : meth.sig.returnType = some .int) (hlk : meth.locks = false) (hK : va_K D vwCl [(cI, .int), (cZ, .boolean)] s) (hT : stC t (aC a) s s.heap) :
    ∀ (σ : SS) (q : Int32 × SS), f_SC_steps σ = some q → ∀ (H : Heap) (locs : List Loc), va_P D vwCl ((wC a cI cZ) σ) H → va_S (aC a) s.heap H locs → ∀ (ls : Array Slot), lv_has ls 1 [(0, .ref (a 0))] → W p l e { frames := 1, cells := 0, slots := 0, locals := 20 } s m args below meth c H locs 0 0 (MQ below (va_Qi (fun r u => r = q.1 ∧ u = q.2) (pW D (wC a cI cZ) [(cI, .int), (cZ, .boolean)] (stC t) (aC a)) (aC a)) args s 0 0 (aC a)) (F0 m 0 ls []) := by
  obtain ⟨hx, hb, hml, hown, hg⟩ := id F
  intro σ q hf H locs hP hS ls hl
  unfold f_SC_steps at hf
  refine lv_aload_n hx hb d_SC_steps_0 rfl (lv_at hl 0 rfl) ?_
  refine va_get (D := D) (ci := 0) (v := .ref (a 5)) (C := R_SC) (T := T_SC) (N := 6) hx hb hg in_SC hown hK hP 0 rfl rfl 4 (by decide) (hg _ gw_169) (fun _ h9 => h9) rfl d_SC_steps_1 ?_
  refine bdK hf (fun q1 h2 hf => ?_)
  refine rc_Vi (As := []) (rest := []) (b := a 5) (stC_g t) F (c_MA_stepCount l ha σ q1 h2) (cwV 0 hg gc_SC_111 rfl rfl rfl hs_MA_stepCount ⟨Nat.le_of_ble_eq_true rfl, Nat.le_of_ble_eq_true rfl⟩) hK hT hP hS (va_recv hK hP (ci := 5) (q0 := 5) rfl rfl) rfl hl.1 rfl (Nat.le_of_ble_eq_true rfl) d_SC_steps_4 ⟨Nat.zero_le _, Nat.zero_le _⟩ (fun H locs hP hS => ?_)
  exact rr_i hx hb hr hlk (stC_g t) hK hT hP hS hf d_SC_steps_7
set_option maxHeartbeats 4000000 in
set_option maxRecDepth 100000 in
theorem c_SC_steps (l : Launch) {D : va_G} {a t : Nat → Nat} {cI cZ : ClassId} (ha : aCC a) (σ : SS) (q : Int32 × SS) (hf : f_SC_steps σ = some q) : Met l y_SC_steps ws_SC_steps { frames := 1, cells := 0, slots := 0, locals := 20 } (va_Pc [.ref (a 0)] (pW D (wC a cI cZ) [(cI, .int), (cZ, .boolean)] (stC t) (aC a) σ)) (va_Qi (fun r u => r = q.1 ∧ u = q.2) (pW D (wC a cI cZ) [(cI, .int), (cZ, .boolean)] (stC t) (aC a)) (aC a)) 0 0 (aC a) := by
  refine Met.ofW (cc := b_SC_steps) (maxL := 1) (ret := some .int) (by decide) rfl ?_
  intro p e s m args below meth c s₁ B hml hv
  obtain ⟨rfl, hP, hK, hT⟩ := hv
  have hl := lv_entry ([.ref (a 0)]) (n := 1) (Nat.le_of_ble_eq_true rfl)
  rw [lg_entry_eq]
  generalize (lg_sl ([.ref (a 0)]) ++ List.replicate (1 - (lg_sl ([.ref (a 0)])).length) Slot.unset).toArray = ls at hl ⊢
  exact e_SC_steps ha ⟨B.exec, B.bytes, hml, findClass_of_methodNamed B.named, fun w h => atoms_spec (ws := ws_SC_steps) B.pre w (List.mem_cons_of_mem _ h)⟩ B.returns B.notSynchronized hK hT σ q hf s.heap [] hP va_S.rf ls hl
theorem d_MA_cellValue_0 : decode b_MA_cellValue 0 = .ok (.iload_n 1, 1) := by decide +kernel
theorem d_MA_cellValue_1 : decode b_MA_cellValue 1 = .ok (.ifCond .lt 18, 3) := by decide +kernel
theorem d_MA_cellValue_4 : decode b_MA_cellValue 4 = .ok (.iload_n 1, 1) := by decide +kernel
theorem d_MA_cellValue_5 : decode b_MA_cellValue 5 = .ok (.bipush 16, 2) := by decide +kernel
theorem d_MA_cellValue_7 : decode b_MA_cellValue 7 = .ok (.if_icmp .ge 12, 3) := by decide +kernel
theorem d_MA_cellValue_10 : decode b_MA_cellValue 10 = .ok (.aload_n 0, 1) := by decide +kernel
theorem d_MA_cellValue_11 : decode b_MA_cellValue 11 = .ok (.getfield 15, 3) := by decide +kernel
theorem d_MA_cellValue_14 : decode b_MA_cellValue 14 = .ok (.iload_n 1, 1) := by decide +kernel
theorem d_MA_cellValue_15 : decode b_MA_cellValue 15 = .ok (.iaload, 1) := by decide +kernel
theorem d_MA_cellValue_16 : decode b_MA_cellValue 16 = .ok (.goto 4, 3) := by decide +kernel
theorem d_MA_cellValue_19 : decode b_MA_cellValue 19 = .ok (.iconst 0, 1) := by decide +kernel
theorem d_MA_cellValue_20 : decode b_MA_cellValue 20 = .ok (.ireturn, 1) := by decide +kernel
def f_MA_cellValue (x1 : Int32) (σ : SS) : Option (Int32 × SS) :=
  (if x1 < 0 then some ((0 : Int32), σ) else (if (16 : Int32) ≤ x1 then some ((0 : Int32), σ) else (ld (σ 21) 16 x1).bind fun v3 => some (v3, σ)))
set_option maxHeartbeats 4000000 in
set_option maxRecDepth 100000 in
theorem e_MA_cellValue {p : Program} {l : Launch} {e : Env} {s : State} {m : MethodId} {args : Array Value} {below : List Frame} {meth : Method} {c : Code} {D : va_G} {a t : Nat → Nat} {cI cZ : ClassId} (ha : aCC a) (F : CallFix p m c b_MA_cellValue 2 s args gt R_MA) (hr : meth.sig.returnType = some .int) (hlk : meth.locks = false) (hK : va_K D vwCl [(cI, .int), (cZ, .boolean)] s) (hT : stC t (aC a) s s.heap) :
    ∀ (x1 : Int32) (σ : SS) (q : Int32 × SS), f_MA_cellValue x1 σ = some q → ∀ (H : Heap) (locs : List Loc), va_P D vwCl ((wC a cI cZ) σ) H → va_S (aC a) s.heap H locs → ∀ (ls : Array Slot), lv_has ls 2 [(0, .ref (a 5)), (1, .int x1)] → W p l e { frames := 0, cells := 0, slots := 0, locals := 0 } s m args below meth c H locs 0 0 (MQ below (va_Qi (fun r u => r = q.1 ∧ u = q.2) (pW D (wC a cI cZ) [(cI, .int), (cZ, .boolean)] (stC t) (aC a)) (aC a)) args s 0 0 (aC a)) (F0 m 0 ls []) := by
  obtain ⟨hx, hb, hml, hown, hg⟩ := id F
  intro x1 σ q hf H locs hP hS ls hl
  unfold f_MA_cellValue at hf
  refine lv_iload_n hx hb d_MA_cellValue_0 rfl (lv_at hl 1 rfl) ?_
  refine lv_if_lt (tgt := 19) hx hb d_MA_cellValue_1 (by decide) (fun c1 => ?_) (fun c1 => ?_)
  · replace hf := (if_pos c1).symm.trans hf
    refine lv_iconst (v := (0 : Int32)) hx hb d_MA_cellValue_19 (by decide) ?_
    exact rr_i hx hb hr hlk (stC_g t) hK hT hP hS hf d_MA_cellValue_20
  · replace hf := (if_neg c1).symm.trans hf
    refine lv_iload_n hx hb d_MA_cellValue_4 rfl (lv_at hl 1 rfl) ?_
    refine lv_bipush (v := (16 : Int32)) hx hb d_MA_cellValue_5 (by decide) ?_
    refine lv_icmp_ge (tgt := 19) hx hb d_MA_cellValue_7 (by decide) (fun c2 => ?_) (fun c2 => ?_)
    · replace hf := (if_pos c2).symm.trans hf
      refine lv_iconst (v := (0 : Int32)) hx hb d_MA_cellValue_19 (by decide) ?_
      exact rr_i hx hb hr hlk (stC_g t) hK hT hP hS hf d_MA_cellValue_20
    · replace hf := (if_neg c2).symm.trans hf
      refine lv_aload_n hx hb d_MA_cellValue_10 rfl (lv_at hl 0 rfl) ?_
      refine va_get (D := D) (ci := 5) (v := .ref (a 27)) (C := R_MA) (T := T_MA) (N := 7) hx hb hg in_MA hown hK hP 5 rfl rfl 1 (by decide) (hg _ gw_144) (fun _ h9 => h9) rfl d_MA_cellValue_11 ?_
      refine lv_iload_n hx hb d_MA_cellValue_14 rfl (lv_at hl 1 rfl) ?_
      refine bdK hf (fun v3 h4 hf => ?_)
      refine r_iald hx hb hK hP 27 0 rfl rfl h4 d_MA_cellValue_15 ?_
      refine lv_goto (tgt := 20) hx hb d_MA_cellValue_16 (by decide) ?_
      exact rr_i hx hb hr hlk (stC_g t) hK hT hP hS hf d_MA_cellValue_20
set_option maxHeartbeats 4000000 in
set_option maxRecDepth 100000 in
theorem c_MA_cellValue (l : Launch) {D : va_G} {a t : Nat → Nat} {cI cZ : ClassId} (ha : aCC a) (x1 : Int32) (σ : SS) (q : Int32 × SS) (hf : f_MA_cellValue x1 σ = some q) : Met l y_MA_cellValue ws_MA_cellValue { frames := 0, cells := 0, slots := 0, locals := 0 } (va_Pc [.ref (a 5), .int x1] (pW D (wC a cI cZ) [(cI, .int), (cZ, .boolean)] (stC t) (aC a) σ)) (va_Qi (fun r u => r = q.1 ∧ u = q.2) (pW D (wC a cI cZ) [(cI, .int), (cZ, .boolean)] (stC t) (aC a)) (aC a)) 0 0 (aC a) := by
  refine Met.ofW (cc := b_MA_cellValue) (maxL := 2) (ret := some .int) (by decide) rfl ?_
  intro p e s m args below meth c s₁ B hml hv
  obtain ⟨rfl, hP, hK, hT⟩ := hv
  have hl := lv_entry ([.ref (a 5), .int x1]) (n := 2) (Nat.le_of_ble_eq_true rfl)
  rw [lg_entry_eq]
  generalize (lg_sl ([.ref (a 5), .int x1]) ++ List.replicate (2 - (lg_sl ([.ref (a 5), .int x1])).length) Slot.unset).toArray = ls at hl ⊢
  exact e_MA_cellValue ha ⟨B.exec, B.bytes, hml, findClass_of_methodNamed B.named, fun w h => atoms_spec (ws := ws_MA_cellValue) B.pre w (List.mem_cons_of_mem _ h)⟩ B.returns B.notSynchronized hK hT x1 σ q hf s.heap [] hP va_S.rf ls hl
theorem d_SC_cell_0 : decode b_SC_cell 0 = .ok (.aload_n 0, 1) := by decide +kernel
theorem d_SC_cell_1 : decode b_SC_cell 1 = .ok (.getfield 46, 3) := by decide +kernel
theorem d_SC_cell_4 : decode b_SC_cell 4 = .ok (.iload_n 1, 1) := by decide +kernel
theorem d_SC_cell_5 : decode b_SC_cell 5 = .ok (.invokevirtual 114, 3) := by decide +kernel
theorem d_SC_cell_8 : decode b_SC_cell 8 = .ok (.ireturn, 1) := by decide +kernel
theorem gc_SC_114 : GoodIn gt (wsV R_SC 114 R_MA y_MA_cellValue ws_MA_cellValue) := gd_V gw_570 gw_571 gw_572 gw_6 gw_573
def f_SC_cell (x1 : Int32) (σ : SS) : Option (Int32 × SS) :=
  (f_MA_cellValue x1 σ).bind fun q1 => some (q1.1, q1.2)
set_option maxHeartbeats 4000000 in
set_option maxRecDepth 100000 in
theorem e_SC_cell {p : Program} {l : Launch} {e : Env} {s : State} {m : MethodId} {args : Array Value} {below : List Frame} {meth : Method} {c : Code} {D : va_G} {a t : Nat → Nat} {cI cZ : ClassId} (ha : aCC a) (F : CallFix p m c b_SC_cell 2 s args gt R_SC) (hr : meth.sig.returnType = some .int) (hlk : meth.locks = false) (hK : va_K D vwCl [(cI, .int), (cZ, .boolean)] s) (hT : stC t (aC a) s s.heap) :
    ∀ (x1 : Int32) (σ : SS) (q : Int32 × SS), f_SC_cell x1 σ = some q → ∀ (H : Heap) (locs : List Loc), va_P D vwCl ((wC a cI cZ) σ) H → va_S (aC a) s.heap H locs → ∀ (ls : Array Slot), lv_has ls 2 [(0, .ref (a 0)), (1, .int x1)] → W p l e { frames := 1, cells := 0, slots := 0, locals := 21 } s m args below meth c H locs 0 0 (MQ below (va_Qi (fun r u => r = q.1 ∧ u = q.2) (pW D (wC a cI cZ) [(cI, .int), (cZ, .boolean)] (stC t) (aC a)) (aC a)) args s 0 0 (aC a)) (F0 m 0 ls []) := by
  obtain ⟨hx, hb, hml, hown, hg⟩ := id F
  intro x1 σ q hf H locs hP hS ls hl
  unfold f_SC_cell at hf
  refine lv_aload_n hx hb d_SC_cell_0 rfl (lv_at hl 0 rfl) ?_
  refine va_get (D := D) (ci := 0) (v := .ref (a 5)) (C := R_SC) (T := T_SC) (N := 6) hx hb hg in_SC hown hK hP 0 rfl rfl 4 (by decide) (hg _ gw_169) (fun _ h9 => h9) rfl d_SC_cell_1 ?_
  refine lv_iload_n hx hb d_SC_cell_4 rfl (lv_at hl 1 rfl) ?_
  refine bdK hf (fun q1 h2 hf => ?_)
  refine rc_Vi (As := [.int x1]) (rest := []) (b := a 5) (stC_g t) F (c_MA_cellValue l ha x1 σ q1 h2) (cwV 1 hg gc_SC_114 rfl rfl rfl hs_MA_cellValue ⟨Nat.le_of_ble_eq_true rfl, Nat.le_of_ble_eq_true rfl⟩) hK hT hP hS (va_recv hK hP (ci := 5) (q0 := 5) rfl rfl) rfl hl.1 rfl (Nat.le_of_ble_eq_true rfl) d_SC_cell_5 ⟨Nat.zero_le _, Nat.zero_le _⟩ (fun H locs hP hS => ?_)
  exact rr_i hx hb hr hlk (stC_g t) hK hT hP hS hf d_SC_cell_8
set_option maxHeartbeats 4000000 in
set_option maxRecDepth 100000 in
theorem c_SC_cell (l : Launch) {D : va_G} {a t : Nat → Nat} {cI cZ : ClassId} (ha : aCC a) (x1 : Int32) (σ : SS) (q : Int32 × SS) (hf : f_SC_cell x1 σ = some q) : Met l y_SC_cell ws_SC_cell { frames := 1, cells := 0, slots := 0, locals := 21 } (va_Pc [.ref (a 0), .int x1] (pW D (wC a cI cZ) [(cI, .int), (cZ, .boolean)] (stC t) (aC a) σ)) (va_Qi (fun r u => r = q.1 ∧ u = q.2) (pW D (wC a cI cZ) [(cI, .int), (cZ, .boolean)] (stC t) (aC a)) (aC a)) 0 0 (aC a) := by
  refine Met.ofW (cc := b_SC_cell) (maxL := 2) (ret := some .int) (by decide) rfl ?_
  intro p e s m args below meth c s₁ B hml hv
  obtain ⟨rfl, hP, hK, hT⟩ := hv
  have hl := lv_entry ([.ref (a 0), .int x1]) (n := 2) (Nat.le_of_ble_eq_true rfl)
  rw [lg_entry_eq]
  generalize (lg_sl ([.ref (a 0), .int x1]) ++ List.replicate (2 - (lg_sl ([.ref (a 0), .int x1])).length) Slot.unset).toArray = ls at hl ⊢
  exact e_SC_cell ha ⟨B.exec, B.bytes, hml, findClass_of_methodNamed B.named, fun w h => atoms_spec (ws := ws_SC_cell) B.pre w (List.mem_cons_of_mem _ h)⟩ B.returns B.notSynchronized hK hT x1 σ q hf s.heap [] hP va_S.rf ls hl
