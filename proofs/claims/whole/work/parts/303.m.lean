theorem d_MO_needOf_0 : decode b_MO_needOf 0 = .ok (.aload_n 0, 1) := by decide +kernel
theorem d_MO_needOf_1 : decode b_MO_needOf 1 = .ok (.getfield 7, 3) := by decide +kernel
theorem d_MO_needOf_4 : decode b_MO_needOf 4 = .ok (.iload_n 1, 1) := by decide +kernel
theorem d_MO_needOf_5 : decode b_MO_needOf 5 = .ok (.iaload, 1) := by decide +kernel
theorem d_MO_needOf_6 : decode b_MO_needOf 6 = .ok (.ifCond .ne 5, 3) := by decide +kernel
theorem d_MO_needOf_9 : decode b_MO_needOf 9 = .ok (.iconst 1, 1) := by decide +kernel
theorem d_MO_needOf_10 : decode b_MO_needOf 10 = .ok (.ireturn, 1) := by decide +kernel
theorem d_MO_needOf_11 : decode b_MO_needOf 11 = .ok (.aload_n 0, 1) := by decide +kernel
theorem d_MO_needOf_12 : decode b_MO_needOf 12 = .ok (.iload_n 1, 1) := by decide +kernel
theorem d_MO_needOf_13 : decode b_MO_needOf 13 = .ok (.invokevirtual 101, 3) := by decide +kernel
theorem d_MO_needOf_16 : decode b_MO_needOf 16 = .ok (.ifCond .ne 5, 3) := by decide +kernel
theorem d_MO_needOf_19 : decode b_MO_needOf 19 = .ok (.iconst 0, 1) := by decide +kernel
theorem d_MO_needOf_20 : decode b_MO_needOf 20 = .ok (.ireturn, 1) := by decide +kernel
theorem d_MO_needOf_21 : decode b_MO_needOf 21 = .ok (.iload_n 2, 1) := by decide +kernel
theorem d_MO_needOf_22 : decode b_MO_needOf 22 = .ok (.ifCond .lt 12, 3) := by decide +kernel
theorem d_MO_needOf_25 : decode b_MO_needOf 25 = .ok (.aload_n 0, 1) := by decide +kernel
theorem d_MO_needOf_26 : decode b_MO_needOf 26 = .ok (.getfield 38, 3) := by decide +kernel
theorem d_MO_needOf_29 : decode b_MO_needOf 29 = .ok (.iload_n 2, 1) := by decide +kernel
theorem d_MO_needOf_30 : decode b_MO_needOf 30 = .ok (.iaload, 1) := by decide +kernel
theorem d_MO_needOf_31 : decode b_MO_needOf 31 = .ok (.goto 4, 3) := by decide +kernel
theorem d_MO_needOf_34 : decode b_MO_needOf 34 = .ok (.iconst 1, 1) := by decide +kernel
theorem d_MO_needOf_35 : decode b_MO_needOf 35 = .ok (.istore 4, 2) := by decide +kernel
theorem d_MO_needOf_37 : decode b_MO_needOf 37 = .ok (.aload_n 0, 1) := by decide +kernel
theorem d_MO_needOf_38 : decode b_MO_needOf 38 = .ok (.iload_n 1, 1) := by decide +kernel
theorem d_MO_needOf_39 : decode b_MO_needOf 39 = .ok (.invokevirtual 104, 3) := by decide +kernel
theorem d_MO_needOf_42 : decode b_MO_needOf 42 = .ok (.ifCond .ne 6, 3) := by decide +kernel
theorem d_MO_needOf_45 : decode b_MO_needOf 45 = .ok (.iload 4, 2) := by decide +kernel
theorem d_MO_needOf_47 : decode b_MO_needOf 47 = .ok (.ireturn, 1) := by decide +kernel
theorem d_MO_needOf_48 : decode b_MO_needOf 48 = .ok (.iload_n 3, 1) := by decide +kernel
theorem d_MO_needOf_49 : decode b_MO_needOf 49 = .ok (.ifCond .lt 12, 3) := by decide +kernel
theorem d_MO_needOf_52 : decode b_MO_needOf 52 = .ok (.aload_n 0, 1) := by decide +kernel
theorem d_MO_needOf_53 : decode b_MO_needOf 53 = .ok (.getfield 38, 3) := by decide +kernel
theorem d_MO_needOf_56 : decode b_MO_needOf 56 = .ok (.iload_n 3, 1) := by decide +kernel
theorem d_MO_needOf_57 : decode b_MO_needOf 57 = .ok (.iaload, 1) := by decide +kernel
theorem d_MO_needOf_58 : decode b_MO_needOf 58 = .ok (.goto 4, 3) := by decide +kernel
theorem d_MO_needOf_61 : decode b_MO_needOf 61 = .ok (.iconst 1, 1) := by decide +kernel
theorem d_MO_needOf_62 : decode b_MO_needOf 62 = .ok (.istore 5, 2) := by decide +kernel
theorem d_MO_needOf_64 : decode b_MO_needOf 64 = .ok (.iload 4, 2) := by decide +kernel
theorem d_MO_needOf_66 : decode b_MO_needOf 66 = .ok (.iload 5, 2) := by decide +kernel
theorem d_MO_needOf_68 : decode b_MO_needOf 68 = .ok (.if_icmp .ne 10, 3) := by decide +kernel
theorem d_MO_needOf_71 : decode b_MO_needOf 71 = .ok (.iload 4, 2) := by decide +kernel
theorem d_MO_needOf_73 : decode b_MO_needOf 73 = .ok (.iconst 1, 1) := by decide +kernel
theorem d_MO_needOf_74 : decode b_MO_needOf 74 = .ok (.iadd, 1) := by decide +kernel
theorem d_MO_needOf_75 : decode b_MO_needOf 75 = .ok (.goto 17, 3) := by decide +kernel
theorem d_MO_needOf_78 : decode b_MO_needOf 78 = .ok (.iload 4, 2) := by decide +kernel
theorem d_MO_needOf_80 : decode b_MO_needOf 80 = .ok (.iload 5, 2) := by decide +kernel
theorem d_MO_needOf_82 : decode b_MO_needOf 82 = .ok (.if_icmp .le 8, 3) := by decide +kernel
theorem d_MO_needOf_85 : decode b_MO_needOf 85 = .ok (.iload 4, 2) := by decide +kernel
theorem d_MO_needOf_87 : decode b_MO_needOf 87 = .ok (.goto 5, 3) := by decide +kernel
theorem d_MO_needOf_90 : decode b_MO_needOf 90 = .ok (.iload 5, 2) := by decide +kernel
theorem d_MO_needOf_92 : decode b_MO_needOf 92 = .ok (.ireturn, 1) := by decide +kernel
def b_MO_needOf_62 (x4 y0 : Int32) (σ : SS) : Option (Int32 × SS) :=
  (if x4 = y0 then some ((x4 + (1 : Int32)), σ) else (if x4 ≤ y0 then some (y0, σ) else some (x4, σ)))
set_option maxHeartbeats 4000000 in
set_option maxRecDepth 100000 in
theorem k_MO_needOf_62 {p : Program} {l : Launch} {e : Env} {s : State} {m : MethodId} {args : Array Value} {below : List Frame} {meth : Method} {c : Code} {D : va_G} {a t : Nat → Nat} {cI cZ : ClassId} (ha : aMC a) (F : CallFix p m c b_MO_needOf 6 s args gt R_MO) (hr : meth.sig.returnType = some .int) (hlk : meth.locks = false) (hK : va_K D vwCl [(cI, .int), (cZ, .boolean)] s) (hT : stM t (aM a) s s.heap) :
    ∀ (x4 y0 : Int32) (σ : SS) (q : Int32 × SS), b_MO_needOf_62 x4 y0 σ = some q → ∀ (H : Heap) (locs : List Loc), va_P D vwCl ((wM a cI cZ) σ) H → va_S (aM a) s.heap H locs → ∀ (ls : Array Slot), lv_has ls 6 [(0, .ref (a 0)), (4, .int x4)] → W p l e { frames := 2, cells := 0, slots := 0, locals := 43 } s m args below meth c H locs 0 0 (MQ below (va_Qi (fun r u => r = q.1 ∧ u = q.2) (pW D (wM a cI cZ) [(cI, .int), (cZ, .boolean)] (stM t) (aM a)) (aM a)) args s 0 0 (aM a)) (F0 m 62 ls [.int y0]) := by
  obtain ⟨hx, hb, hml, hown, hg⟩ := id F
  intro x4 y0 σ q hf H locs hP hS ls hl
  unfold b_MO_needOf_62 at hf
  refine lv_istore (lv' := [(5, .int y0), (0, .ref (a 0)), (4, .int x4)]) hx hb d_MO_needOf_62 hl (by decide) rfl (fun ls hl => ?_)
  refine lv_iload hx hb d_MO_needOf_64 (lv_at hl 2 rfl) ?_
  refine lv_iload hx hb d_MO_needOf_66 (lv_at hl 0 rfl) ?_
  refine lv_icmp_ne (tgt := 78) hx hb d_MO_needOf_68 (by decide) (fun c1 => ?_) (fun c1 => ?_)
  · replace hf := (if_neg c1).symm.trans hf
    refine lv_iload hx hb d_MO_needOf_78 (lv_at hl 2 rfl) ?_
    refine lv_iload hx hb d_MO_needOf_80 (lv_at hl 0 rfl) ?_
    refine lv_icmp_le (tgt := 90) hx hb d_MO_needOf_82 (by decide) (fun c2 => ?_) (fun c2 => ?_)
    · replace hf := (if_pos c2).symm.trans hf
      refine lv_iload hx hb d_MO_needOf_90 (lv_at hl 0 rfl) ?_
      exact rr_i hx hb hr hlk (stM_g t) hK hT hP hS hf d_MO_needOf_92
    · replace hf := (if_neg c2).symm.trans hf
      refine lv_iload hx hb d_MO_needOf_85 (lv_at hl 2 rfl) ?_
      refine lv_goto (tgt := 92) hx hb d_MO_needOf_87 (by decide) ?_
      exact rr_i hx hb hr hlk (stM_g t) hK hT hP hS hf d_MO_needOf_92
  · replace hf := (if_pos c1).symm.trans hf
    refine lv_iload hx hb d_MO_needOf_71 (lv_at hl 2 rfl) ?_
    refine lv_iconst (v := (1 : Int32)) hx hb d_MO_needOf_73 (by decide) ?_
    refine lv_iadd hx hb d_MO_needOf_74 ?_
    refine lv_goto (tgt := 92) hx hb d_MO_needOf_75 (by decide) ?_
    exact rr_i hx hb hr hlk (stM_g t) hK hT hP hS hf d_MO_needOf_92
def b_MO_needOf_35 (x1 x3 y0 : Int32) (σ : SS) : Option (Int32 × SS) :=
  (f_MO_readsB x1 σ).bind fun q1 => (if q1.1 = 0 then some (y0, q1.2) else (if x3 < 0 then b_MO_needOf_62 y0 (1 : Int32) q1.2 else (ld (q1.2 9) 40 x3).bind fun v5 => b_MO_needOf_62 y0 v5 q1.2))
set_option maxHeartbeats 4000000 in
set_option maxRecDepth 100000 in
theorem k_MO_needOf_35 {p : Program} {l : Launch} {e : Env} {s : State} {m : MethodId} {args : Array Value} {below : List Frame} {meth : Method} {c : Code} {D : va_G} {a t : Nat → Nat} {cI cZ : ClassId} (ha : aMC a) (F : CallFix p m c b_MO_needOf 6 s args gt R_MO) (hr : meth.sig.returnType = some .int) (hlk : meth.locks = false) (hK : va_K D vwCl [(cI, .int), (cZ, .boolean)] s) (hT : stM t (aM a) s s.heap) :
    ∀ (x1 x3 y0 : Int32) (σ : SS) (q : Int32 × SS), b_MO_needOf_35 x1 x3 y0 σ = some q → ∀ (H : Heap) (locs : List Loc), va_P D vwCl ((wM a cI cZ) σ) H → va_S (aM a) s.heap H locs → ∀ (ls : Array Slot), lv_has ls 6 [(0, .ref (a 0)), (1, .int x1), (3, .int x3)] → W p l e { frames := 2, cells := 0, slots := 0, locals := 43 } s m args below meth c H locs 0 0 (MQ below (va_Qi (fun r u => r = q.1 ∧ u = q.2) (pW D (wM a cI cZ) [(cI, .int), (cZ, .boolean)] (stM t) (aM a)) (aM a)) args s 0 0 (aM a)) (F0 m 35 ls [.int y0]) := by
  obtain ⟨hx, hb, hml, hown, hg⟩ := id F
  intro x1 x3 y0 σ q hf H locs hP hS ls hl
  unfold b_MO_needOf_35 at hf
  refine lv_istore (lv' := [(4, .int y0), (0, .ref (a 0)), (1, .int x1), (3, .int x3)]) hx hb d_MO_needOf_35 hl (by decide) rfl (fun ls hl => ?_)
  refine lv_aload_n hx hb d_MO_needOf_37 rfl (lv_at hl 1 rfl) ?_
  refine lv_iload_n hx hb d_MO_needOf_38 rfl (lv_at hl 2 rfl) ?_
  refine bdK hf (fun q1 h2 hf => ?_)
  refine rc_Vi (As := [.int x1]) (rest := []) (b := a 0) (stM_g t) F (c_MO_readsB l ha x1 σ q1 h2) (cwV 1 hg gc_MO_104 rfl rfl rfl hs_MO_readsB ⟨Nat.le_of_ble_eq_true rfl, Nat.le_of_ble_eq_true rfl⟩) hK hT hP hS (va_recv hK hP (ci := 6) (q0 := 0) rfl rfl) rfl hl.1 rfl (Nat.le_of_ble_eq_true rfl) d_MO_needOf_39 ⟨Nat.zero_le _, Nat.zero_le _⟩ (fun H locs hP hS => ?_)
  refine lv_if_ne (tgt := 48) hx hb d_MO_needOf_42 (by decide) (fun c3 => ?_) (fun c3 => ?_)
  · replace hf := (if_neg c3).symm.trans hf
    refine lv_iload_n hx hb d_MO_needOf_48 rfl (lv_at hl 3 rfl) ?_
    refine lv_if_lt (tgt := 61) hx hb d_MO_needOf_49 (by decide) (fun c4 => ?_) (fun c4 => ?_)
    · replace hf := (if_pos c4).symm.trans hf
      refine lv_iconst (v := (1 : Int32)) hx hb d_MO_needOf_61 (by decide) ?_
      exact k_MO_needOf_62 ha F hr hlk hK hT y0 (1 : Int32) q1.2 q hf _ _ hP hS ls (lv_sub hl [1, 0] rfl)
    · replace hf := (if_neg c4).symm.trans hf
      refine lv_aload_n hx hb d_MO_needOf_52 rfl (lv_at hl 1 rfl) ?_
      refine va_get (D := D) (ci := 6) (v := .ref (a 10)) (C := R_MO) (T := T_MO) (N := 26) hx hb hg in_MO hown hK hP 0 rfl rfl 12 (by decide) (hg _ gw_595) (fun _ h9 => h9) rfl d_MO_needOf_53 ?_
      refine lv_iload_n hx hb d_MO_needOf_56 rfl (lv_at hl 3 rfl) ?_
      refine bdK hf (fun v5 h6 hf => ?_)
      refine r_iald hx hb hK hP 10 0 rfl rfl h6 d_MO_needOf_57 ?_
      refine lv_goto (tgt := 62) hx hb d_MO_needOf_58 (by decide) ?_
      exact k_MO_needOf_62 ha F hr hlk hK hT y0 v5 q1.2 q hf _ _ hP hS ls (lv_sub hl [1, 0] rfl)
  · replace hf := (if_pos c3).symm.trans hf
    refine lv_iload hx hb d_MO_needOf_45 (lv_at hl 0 rfl) ?_
    exact rr_i hx hb hr hlk (stM_g t) hK hT hP hS hf d_MO_needOf_47
def f_MO_needOf (x1 x2 x3 : Int32) (σ : SS) : Option (Int32 × SS) :=
  (ld (σ 0) 40 x1).bind fun v1 => (if v1 = 0 then some ((1 : Int32), σ) else (f_MO_readsA x1 σ).bind fun q4 => (if q4.1 = 0 then some ((0 : Int32), q4.2) else (if x2 < 0 then b_MO_needOf_35 x1 x3 (1 : Int32) q4.2 else (ld (q4.2 9) 40 x2).bind fun v8 => b_MO_needOf_35 x1 x3 v8 q4.2)))
set_option maxHeartbeats 4000000 in
set_option maxRecDepth 100000 in
theorem e_MO_needOf {p : Program} {l : Launch} {e : Env} {s : State} {m : MethodId} {args : Array Value} {below : List Frame} {meth : Method} {c : Code} {D : va_G} {a t : Nat → Nat} {cI cZ : ClassId} (ha : aMC a) (F : CallFix p m c b_MO_needOf 6 s args gt R_MO) (hr : meth.sig.returnType = some .int) (hlk : meth.locks = false) (hK : va_K D vwCl [(cI, .int), (cZ, .boolean)] s) (hT : stM t (aM a) s s.heap) :
    ∀ (x1 x2 x3 : Int32) (σ : SS) (q : Int32 × SS), f_MO_needOf x1 x2 x3 σ = some q → ∀ (H : Heap) (locs : List Loc), va_P D vwCl ((wM a cI cZ) σ) H → va_S (aM a) s.heap H locs → ∀ (ls : Array Slot), lv_has ls 6 [(0, .ref (a 0)), (1, .int x1), (2, .int x2), (3, .int x3)] → W p l e { frames := 2, cells := 0, slots := 0, locals := 43 } s m args below meth c H locs 0 0 (MQ below (va_Qi (fun r u => r = q.1 ∧ u = q.2) (pW D (wM a cI cZ) [(cI, .int), (cZ, .boolean)] (stM t) (aM a)) (aM a)) args s 0 0 (aM a)) (F0 m 0 ls []) := by
  obtain ⟨hx, hb, hml, hown, hg⟩ := id F
  intro x1 x2 x3 σ q hf H locs hP hS ls hl
  unfold f_MO_needOf at hf
  refine lv_aload_n hx hb d_MO_needOf_0 rfl (lv_at hl 0 rfl) ?_
  refine va_get (D := D) (ci := 6) (v := .ref (a 1)) (C := R_MO) (T := T_MO) (N := 26) hx hb hg in_MO hown hK hP 0 rfl rfl 2 (by decide) (hg _ gw_585) (fun _ h9 => h9) rfl d_MO_needOf_1 ?_
  refine lv_iload_n hx hb d_MO_needOf_4 rfl (lv_at hl 1 rfl) ?_
  refine bdK hf (fun v1 h2 hf => ?_)
  refine r_iald hx hb hK hP 1 0 rfl rfl h2 d_MO_needOf_5 ?_
  refine lv_if_ne (tgt := 11) hx hb d_MO_needOf_6 (by decide) (fun c3 => ?_) (fun c3 => ?_)
  · replace hf := (if_neg c3).symm.trans hf
    refine lv_aload_n hx hb d_MO_needOf_11 rfl (lv_at hl 0 rfl) ?_
    refine lv_iload_n hx hb d_MO_needOf_12 rfl (lv_at hl 1 rfl) ?_
    refine bdK hf (fun q4 h5 hf => ?_)
    refine rc_Vi (As := [.int x1]) (rest := []) (b := a 0) (stM_g t) F (c_MO_readsA l ha x1 σ q4 h5) (cwV 1 hg gc_MO_101 rfl rfl rfl hs_MO_readsA ⟨Nat.le_of_ble_eq_true rfl, Nat.le_of_ble_eq_true rfl⟩) hK hT hP hS (va_recv hK hP (ci := 6) (q0 := 0) rfl rfl) rfl hl.1 rfl (Nat.le_of_ble_eq_true rfl) d_MO_needOf_13 ⟨Nat.zero_le _, Nat.zero_le _⟩ (fun H locs hP hS => ?_)
    refine lv_if_ne (tgt := 21) hx hb d_MO_needOf_16 (by decide) (fun c6 => ?_) (fun c6 => ?_)
    · replace hf := (if_neg c6).symm.trans hf
      refine lv_iload_n hx hb d_MO_needOf_21 rfl (lv_at hl 2 rfl) ?_
      refine lv_if_lt (tgt := 34) hx hb d_MO_needOf_22 (by decide) (fun c7 => ?_) (fun c7 => ?_)
      · replace hf := (if_pos c7).symm.trans hf
        refine lv_iconst (v := (1 : Int32)) hx hb d_MO_needOf_34 (by decide) ?_
        exact k_MO_needOf_35 ha F hr hlk hK hT x1 x3 (1 : Int32) q4.2 q hf _ _ hP hS ls (lv_sub hl [0, 1, 3] rfl)
      · replace hf := (if_neg c7).symm.trans hf
        refine lv_aload_n hx hb d_MO_needOf_25 rfl (lv_at hl 0 rfl) ?_
        refine va_get (D := D) (ci := 6) (v := .ref (a 10)) (C := R_MO) (T := T_MO) (N := 26) hx hb hg in_MO hown hK hP 0 rfl rfl 12 (by decide) (hg _ gw_595) (fun _ h9 => h9) rfl d_MO_needOf_26 ?_
        refine lv_iload_n hx hb d_MO_needOf_29 rfl (lv_at hl 2 rfl) ?_
        refine bdK hf (fun v8 h9 hf => ?_)
        refine r_iald hx hb hK hP 10 0 rfl rfl h9 d_MO_needOf_30 ?_
        refine lv_goto (tgt := 35) hx hb d_MO_needOf_31 (by decide) ?_
        exact k_MO_needOf_35 ha F hr hlk hK hT x1 x3 v8 q4.2 q hf _ _ hP hS ls (lv_sub hl [0, 1, 3] rfl)
    · replace hf := (if_pos c6).symm.trans hf
      refine lv_iconst (v := (0 : Int32)) hx hb d_MO_needOf_19 (by decide) ?_
      exact rr_i hx hb hr hlk (stM_g t) hK hT hP hS hf d_MO_needOf_20
  · replace hf := (if_pos c3).symm.trans hf
    refine lv_iconst (v := (1 : Int32)) hx hb d_MO_needOf_9 (by decide) ?_
    exact rr_i hx hb hr hlk (stM_g t) hK hT hP hS hf d_MO_needOf_10
set_option maxHeartbeats 4000000 in
set_option maxRecDepth 100000 in
theorem c_MO_needOf (l : Launch) {D : va_G} {a t : Nat → Nat} {cI cZ : ClassId} (ha : aMC a) (x1 x2 x3 : Int32) (σ : SS) (q : Int32 × SS) (hf : f_MO_needOf x1 x2 x3 σ = some q) : Met l y_MO_needOf ws_MO_needOf { frames := 2, cells := 0, slots := 0, locals := 43 } (va_Pc [.ref (a 0), .int x1, .int x2, .int x3] (pW D (wM a cI cZ) [(cI, .int), (cZ, .boolean)] (stM t) (aM a) σ)) (va_Qi (fun r u => r = q.1 ∧ u = q.2) (pW D (wM a cI cZ) [(cI, .int), (cZ, .boolean)] (stM t) (aM a)) (aM a)) 0 0 (aM a) := by
  refine Met.ofW (cc := b_MO_needOf) (maxL := 6) (ret := some .int) (by decide) rfl ?_
  intro p e s m args below meth c s₁ B hml hv
  obtain ⟨rfl, hP, hK, hT⟩ := hv
  have hl := lv_entry ([.ref (a 0), .int x1, .int x2, .int x3]) (n := 6) (Nat.le_of_ble_eq_true rfl)
  rw [lg_entry_eq]
  generalize (lg_sl ([.ref (a 0), .int x1, .int x2, .int x3]) ++ List.replicate (6 - (lg_sl ([.ref (a 0), .int x1, .int x2, .int x3])).length) Slot.unset).toArray = ls at hl ⊢
  exact e_MO_needOf ha ⟨B.exec, B.bytes, hml, findClass_of_methodNamed B.named, fun w h => atoms_spec (ws := ws_MO_needOf) B.pre w (List.mem_cons_of_mem _ h)⟩ B.returns B.notSynchronized hK hT x1 x2 x3 σ q hf s.heap [] hP va_S.rf ls hl
theorem d_MO_settle_0 : decode b_MO_settle 0 = .ok (.aload_n 0, 1) := by decide +kernel
theorem d_MO_settle_1 : decode b_MO_settle 1 = .ok (.getfield 32, 3) := by decide +kernel
theorem d_MO_settle_4 : decode b_MO_settle 4 = .ok (.iload_n 1, 1) := by decide +kernel
theorem d_MO_settle_5 : decode b_MO_settle 5 = .ok (.iconst (-1), 1) := by decide +kernel
theorem d_MO_settle_6 : decode b_MO_settle 6 = .ok (.iastore, 1) := by decide +kernel
theorem d_MO_settle_7 : decode b_MO_settle 7 = .ok (.aload_n 0, 1) := by decide +kernel
theorem d_MO_settle_8 : decode b_MO_settle 8 = .ok (.getfield 35, 3) := by decide +kernel
theorem d_MO_settle_11 : decode b_MO_settle 11 = .ok (.iload_n 1, 1) := by decide +kernel
theorem d_MO_settle_12 : decode b_MO_settle 12 = .ok (.iconst (-1), 1) := by decide +kernel
theorem d_MO_settle_13 : decode b_MO_settle 13 = .ok (.iastore, 1) := by decide +kernel
theorem d_MO_settle_14 : decode b_MO_settle 14 = .ok (.aload_n 0, 1) := by decide +kernel
theorem d_MO_settle_15 : decode b_MO_settle 15 = .ok (.getfield 29, 3) := by decide +kernel
theorem d_MO_settle_18 : decode b_MO_settle 18 = .ok (.iload_n 1, 1) := by decide +kernel
theorem d_MO_settle_19 : decode b_MO_settle 19 = .ok (.iconst (-1), 1) := by decide +kernel
theorem d_MO_settle_20 : decode b_MO_settle 20 = .ok (.iastore, 1) := by decide +kernel
theorem d_MO_settle_21 : decode b_MO_settle 21 = .ok (.aload_n 0, 1) := by decide +kernel
theorem d_MO_settle_22 : decode b_MO_settle 22 = .ok (.iload_n 1, 1) := by decide +kernel
theorem d_MO_settle_23 : decode b_MO_settle 23 = .ok (.invokevirtual 101, 3) := by decide +kernel
theorem d_MO_settle_26 : decode b_MO_settle 26 = .ok (.ifCond .eq 17, 3) := by decide +kernel
theorem d_MO_settle_29 : decode b_MO_settle 29 = .ok (.aload_n 0, 1) := by decide +kernel
theorem d_MO_settle_30 : decode b_MO_settle 30 = .ok (.iload_n 1, 1) := by decide +kernel
theorem d_MO_settle_31 : decode b_MO_settle 31 = .ok (.aload_n 0, 1) := by decide +kernel
theorem d_MO_settle_32 : decode b_MO_settle 32 = .ok (.getfield 16, 3) := by decide +kernel
theorem d_MO_settle_35 : decode b_MO_settle 35 = .ok (.iload_n 1, 1) := by decide +kernel
theorem d_MO_settle_36 : decode b_MO_settle 36 = .ok (.iaload, 1) := by decide +kernel
theorem d_MO_settle_37 : decode b_MO_settle 37 = .ok (.invokevirtual 131, 3) := by decide +kernel
theorem d_MO_settle_40 : decode b_MO_settle 40 = .ok (.goto 4, 3) := by decide +kernel
theorem d_MO_settle_43 : decode b_MO_settle 43 = .ok (.iconst (-1), 1) := by decide +kernel
theorem d_MO_settle_44 : decode b_MO_settle 44 = .ok (.istore_n 2, 1) := by decide +kernel
theorem d_MO_settle_45 : decode b_MO_settle 45 = .ok (.iload_n 2, 1) := by decide +kernel
theorem d_MO_settle_46 : decode b_MO_settle 46 = .ok (.ifCond .lt 40, 3) := by decide +kernel
theorem d_MO_settle_49 : decode b_MO_settle 49 = .ok (.aload_n 0, 1) := by decide +kernel
theorem d_MO_settle_50 : decode b_MO_settle 50 = .ok (.iload_n 2, 1) := by decide +kernel
theorem d_MO_settle_51 : decode b_MO_settle 51 = .ok (.iload_n 1, 1) := by decide +kernel
theorem d_MO_settle_52 : decode b_MO_settle 52 = .ok (.invokevirtual 134, 3) := by decide +kernel
theorem d_MO_settle_55 : decode b_MO_settle 55 = .ok (.ifCond .eq 31, 3) := by decide +kernel
theorem d_MO_settle_58 : decode b_MO_settle 58 = .ok (.aload_n 0, 1) := by decide +kernel
theorem d_MO_settle_59 : decode b_MO_settle 59 = .ok (.iload_n 1, 1) := by decide +kernel
theorem d_MO_settle_60 : decode b_MO_settle 60 = .ok (.iload_n 2, 1) := by decide +kernel
theorem d_MO_settle_61 : decode b_MO_settle 61 = .ok (.iconst (-1), 1) := by decide +kernel
theorem d_MO_settle_62 : decode b_MO_settle 62 = .ok (.invokevirtual 137, 3) := by decide +kernel
theorem d_MO_settle_65 : decode b_MO_settle 65 = .ok (.aload_n 0, 1) := by decide +kernel
theorem d_MO_settle_66 : decode b_MO_settle 66 = .ok (.getfield 71, 3) := by decide +kernel
theorem d_MO_settle_69 : decode b_MO_settle 69 = .ok (.if_icmp .gt 17, 3) := by decide +kernel
theorem d_MO_settle_72 : decode b_MO_settle 72 = .ok (.aload_n 0, 1) := by decide +kernel
theorem d_MO_settle_73 : decode b_MO_settle 73 = .ok (.getfield 32, 3) := by decide +kernel
theorem d_MO_settle_76 : decode b_MO_settle 76 = .ok (.iload_n 1, 1) := by decide +kernel
theorem d_MO_settle_77 : decode b_MO_settle 77 = .ok (.iload_n 2, 1) := by decide +kernel
theorem d_MO_settle_78 : decode b_MO_settle 78 = .ok (.iastore, 1) := by decide +kernel
theorem d_MO_settle_79 : decode b_MO_settle 79 = .ok (.aload_n 0, 1) := by decide +kernel
theorem d_MO_settle_80 : decode b_MO_settle 80 = .ok (.getfield 29, 3) := by decide +kernel
theorem d_MO_settle_83 : decode b_MO_settle 83 = .ok (.iload_n 2, 1) := by decide +kernel
theorem d_MO_settle_84 : decode b_MO_settle 84 = .ok (.iload_n 1, 1) := by decide +kernel
theorem d_MO_settle_85 : decode b_MO_settle 85 = .ok (.iastore, 1) := by decide +kernel
theorem d_MO_settle_86 : decode b_MO_settle 86 = .ok (.aload_n 0, 1) := by decide +kernel
theorem d_MO_settle_87 : decode b_MO_settle 87 = .ok (.iload_n 1, 1) := by decide +kernel
theorem d_MO_settle_88 : decode b_MO_settle 88 = .ok (.invokevirtual 104, 3) := by decide +kernel
theorem d_MO_settle_91 : decode b_MO_settle 91 = .ok (.ifCond .eq 17, 3) := by decide +kernel
theorem d_MO_settle_94 : decode b_MO_settle 94 = .ok (.aload_n 0, 1) := by decide +kernel
theorem d_MO_settle_95 : decode b_MO_settle 95 = .ok (.iload_n 1, 1) := by decide +kernel
theorem d_MO_settle_96 : decode b_MO_settle 96 = .ok (.aload_n 0, 1) := by decide +kernel
theorem d_MO_settle_97 : decode b_MO_settle 97 = .ok (.getfield 19, 3) := by decide +kernel
theorem d_MO_settle_100 : decode b_MO_settle 100 = .ok (.iload_n 1, 1) := by decide +kernel
theorem d_MO_settle_101 : decode b_MO_settle 101 = .ok (.iaload, 1) := by decide +kernel
theorem d_MO_settle_102 : decode b_MO_settle 102 = .ok (.invokevirtual 131, 3) := by decide +kernel
theorem d_MO_settle_105 : decode b_MO_settle 105 = .ok (.goto 4, 3) := by decide +kernel
theorem d_MO_settle_108 : decode b_MO_settle 108 = .ok (.iconst (-1), 1) := by decide +kernel
theorem d_MO_settle_109 : decode b_MO_settle 109 = .ok (.istore_n 3, 1) := by decide +kernel
theorem d_MO_settle_110 : decode b_MO_settle 110 = .ok (.iload_n 3, 1) := by decide +kernel
theorem d_MO_settle_111 : decode b_MO_settle 111 = .ok (.ifCond .lt 45, 3) := by decide +kernel
theorem d_MO_settle_114 : decode b_MO_settle 114 = .ok (.aload_n 0, 1) := by decide +kernel
theorem d_MO_settle_115 : decode b_MO_settle 115 = .ok (.iload_n 3, 1) := by decide +kernel
theorem d_MO_settle_116 : decode b_MO_settle 116 = .ok (.iload_n 1, 1) := by decide +kernel
theorem d_MO_settle_117 : decode b_MO_settle 117 = .ok (.invokevirtual 134, 3) := by decide +kernel
theorem d_MO_settle_120 : decode b_MO_settle 120 = .ok (.ifCond .eq 36, 3) := by decide +kernel
theorem d_MO_settle_123 : decode b_MO_settle 123 = .ok (.aload_n 0, 1) := by decide +kernel
theorem d_MO_settle_124 : decode b_MO_settle 124 = .ok (.iload_n 1, 1) := by decide +kernel
theorem d_MO_settle_125 : decode b_MO_settle 125 = .ok (.aload_n 0, 1) := by decide +kernel
theorem d_MO_settle_126 : decode b_MO_settle 126 = .ok (.getfield 32, 3) := by decide +kernel
theorem d_MO_settle_129 : decode b_MO_settle 129 = .ok (.iload_n 1, 1) := by decide +kernel
theorem d_MO_settle_130 : decode b_MO_settle 130 = .ok (.iaload, 1) := by decide +kernel
theorem d_MO_settle_131 : decode b_MO_settle 131 = .ok (.iload_n 3, 1) := by decide +kernel
theorem d_MO_settle_132 : decode b_MO_settle 132 = .ok (.invokevirtual 137, 3) := by decide +kernel
theorem d_MO_settle_135 : decode b_MO_settle 135 = .ok (.aload_n 0, 1) := by decide +kernel
theorem d_MO_settle_136 : decode b_MO_settle 136 = .ok (.getfield 71, 3) := by decide +kernel
theorem d_MO_settle_139 : decode b_MO_settle 139 = .ok (.if_icmp .gt 17, 3) := by decide +kernel
theorem d_MO_settle_142 : decode b_MO_settle 142 = .ok (.aload_n 0, 1) := by decide +kernel
theorem d_MO_settle_143 : decode b_MO_settle 143 = .ok (.getfield 35, 3) := by decide +kernel
theorem d_MO_settle_146 : decode b_MO_settle 146 = .ok (.iload_n 1, 1) := by decide +kernel
theorem d_MO_settle_147 : decode b_MO_settle 147 = .ok (.iload_n 3, 1) := by decide +kernel
theorem d_MO_settle_148 : decode b_MO_settle 148 = .ok (.iastore, 1) := by decide +kernel
theorem d_MO_settle_149 : decode b_MO_settle 149 = .ok (.aload_n 0, 1) := by decide +kernel
theorem d_MO_settle_150 : decode b_MO_settle 150 = .ok (.getfield 29, 3) := by decide +kernel
theorem d_MO_settle_153 : decode b_MO_settle 153 = .ok (.iload_n 3, 1) := by decide +kernel
theorem d_MO_settle_154 : decode b_MO_settle 154 = .ok (.iload_n 1, 1) := by decide +kernel
theorem d_MO_settle_155 : decode b_MO_settle 155 = .ok (.iastore, 1) := by decide +kernel
theorem d_MO_settle_156 : decode b_MO_settle 156 = .ok (.aload_n 0, 1) := by decide +kernel
theorem d_MO_settle_157 : decode b_MO_settle 157 = .ok (.getfield 38, 3) := by decide +kernel
theorem d_MO_settle_160 : decode b_MO_settle 160 = .ok (.iload_n 1, 1) := by decide +kernel
theorem d_MO_settle_161 : decode b_MO_settle 161 = .ok (.aload_n 0, 1) := by decide +kernel
theorem d_MO_settle_162 : decode b_MO_settle 162 = .ok (.iload_n 1, 1) := by decide +kernel
theorem d_MO_settle_163 : decode b_MO_settle 163 = .ok (.aload_n 0, 1) := by decide +kernel
theorem d_MO_settle_164 : decode b_MO_settle 164 = .ok (.getfield 32, 3) := by decide +kernel
theorem d_MO_settle_167 : decode b_MO_settle 167 = .ok (.iload_n 1, 1) := by decide +kernel
theorem d_MO_settle_168 : decode b_MO_settle 168 = .ok (.iaload, 1) := by decide +kernel
theorem d_MO_settle_169 : decode b_MO_settle 169 = .ok (.aload_n 0, 1) := by decide +kernel
theorem d_MO_settle_170 : decode b_MO_settle 170 = .ok (.getfield 35, 3) := by decide +kernel
theorem d_MO_settle_173 : decode b_MO_settle 173 = .ok (.iload_n 1, 1) := by decide +kernel
theorem d_MO_settle_174 : decode b_MO_settle 174 = .ok (.iaload, 1) := by decide +kernel
theorem d_MO_settle_175 : decode b_MO_settle 175 = .ok (.invokevirtual 137, 3) := by decide +kernel
theorem d_MO_settle_178 : decode b_MO_settle 178 = .ok (.iastore, 1) := by decide +kernel
theorem d_MO_settle_179 : decode b_MO_settle 179 = .ok (.aload_n 0, 1) := by decide +kernel
theorem d_MO_settle_180 : decode b_MO_settle 180 = .ok (.iload_n 1, 1) := by decide +kernel
theorem d_MO_settle_181 : decode b_MO_settle 181 = .ok (.invokevirtual 101, 3) := by decide +kernel
theorem d_MO_settle_184 : decode b_MO_settle 184 = .ok (.ifCond .ne 7, 3) := by decide +kernel
theorem d_MO_settle_187 : decode b_MO_settle 187 = .ok (.iconst 0, 1) := by decide +kernel
theorem d_MO_settle_188 : decode b_MO_settle 188 = .ok (.goto 34, 3) := by decide +kernel
theorem d_MO_settle_191 : decode b_MO_settle 191 = .ok (.aload_n 0, 1) := by decide +kernel
theorem d_MO_settle_192 : decode b_MO_settle 192 = .ok (.getfield 32, 3) := by decide +kernel
theorem d_MO_settle_195 : decode b_MO_settle 195 = .ok (.iload_n 1, 1) := by decide +kernel
theorem d_MO_settle_196 : decode b_MO_settle 196 = .ok (.iaload, 1) := by decide +kernel
theorem d_MO_settle_197 : decode b_MO_settle 197 = .ok (.ifCond .lt 17, 3) := by decide +kernel
theorem d_MO_settle_200 : decode b_MO_settle 200 = .ok (.aload_n 0, 1) := by decide +kernel
theorem d_MO_settle_201 : decode b_MO_settle 201 = .ok (.getfield 41, 3) := by decide +kernel
theorem d_MO_settle_204 : decode b_MO_settle 204 = .ok (.aload_n 0, 1) := by decide +kernel
theorem d_MO_settle_205 : decode b_MO_settle 205 = .ok (.getfield 32, 3) := by decide +kernel
theorem d_MO_settle_208 : decode b_MO_settle 208 = .ok (.iload_n 1, 1) := by decide +kernel
theorem d_MO_settle_209 : decode b_MO_settle 209 = .ok (.iaload, 1) := by decide +kernel
theorem d_MO_settle_210 : decode b_MO_settle 210 = .ok (.iaload, 1) := by decide +kernel
theorem d_MO_settle_211 : decode b_MO_settle 211 = .ok (.goto 11, 3) := by decide +kernel
theorem d_MO_settle_214 : decode b_MO_settle 214 = .ok (.iconst 1, 1) := by decide +kernel
theorem d_MO_settle_215 : decode b_MO_settle 215 = .ok (.aload_n 0, 1) := by decide +kernel
theorem d_MO_settle_216 : decode b_MO_settle 216 = .ok (.getfield 16, 3) := by decide +kernel
theorem d_MO_settle_219 : decode b_MO_settle 219 = .ok (.iload_n 1, 1) := by decide +kernel
theorem d_MO_settle_220 : decode b_MO_settle 220 = .ok (.iaload, 1) := by decide +kernel
theorem d_MO_settle_221 : decode b_MO_settle 221 = .ok (.ishl, 1) := by decide +kernel
theorem d_MO_settle_222 : decode b_MO_settle 222 = .ok (.istore 4, 2) := by decide +kernel
theorem d_MO_settle_224 : decode b_MO_settle 224 = .ok (.aload_n 0, 1) := by decide +kernel
theorem d_MO_settle_225 : decode b_MO_settle 225 = .ok (.iload_n 1, 1) := by decide +kernel
theorem d_MO_settle_226 : decode b_MO_settle 226 = .ok (.invokevirtual 104, 3) := by decide +kernel
theorem d_MO_settle_229 : decode b_MO_settle 229 = .ok (.ifCond .ne 7, 3) := by decide +kernel
theorem d_MO_settle_232 : decode b_MO_settle 232 = .ok (.iconst 0, 1) := by decide +kernel
theorem d_MO_settle_233 : decode b_MO_settle 233 = .ok (.goto 34, 3) := by decide +kernel
theorem d_MO_settle_236 : decode b_MO_settle 236 = .ok (.aload_n 0, 1) := by decide +kernel
theorem d_MO_settle_237 : decode b_MO_settle 237 = .ok (.getfield 35, 3) := by decide +kernel
theorem d_MO_settle_240 : decode b_MO_settle 240 = .ok (.iload_n 1, 1) := by decide +kernel
theorem d_MO_settle_241 : decode b_MO_settle 241 = .ok (.iaload, 1) := by decide +kernel
theorem d_MO_settle_242 : decode b_MO_settle 242 = .ok (.ifCond .lt 17, 3) := by decide +kernel
theorem d_MO_settle_245 : decode b_MO_settle 245 = .ok (.aload_n 0, 1) := by decide +kernel
theorem d_MO_settle_246 : decode b_MO_settle 246 = .ok (.getfield 41, 3) := by decide +kernel
theorem d_MO_settle_249 : decode b_MO_settle 249 = .ok (.aload_n 0, 1) := by decide +kernel
theorem d_MO_settle_250 : decode b_MO_settle 250 = .ok (.getfield 35, 3) := by decide +kernel
theorem d_MO_settle_253 : decode b_MO_settle 253 = .ok (.iload_n 1, 1) := by decide +kernel
theorem d_MO_settle_254 : decode b_MO_settle 254 = .ok (.iaload, 1) := by decide +kernel
theorem d_MO_settle_255 : decode b_MO_settle 255 = .ok (.iaload, 1) := by decide +kernel
theorem d_MO_settle_256 : decode b_MO_settle 256 = .ok (.goto 11, 3) := by decide +kernel
theorem d_MO_settle_259 : decode b_MO_settle 259 = .ok (.iconst 1, 1) := by decide +kernel
theorem d_MO_settle_260 : decode b_MO_settle 260 = .ok (.aload_n 0, 1) := by decide +kernel
theorem d_MO_settle_261 : decode b_MO_settle 261 = .ok (.getfield 19, 3) := by decide +kernel
theorem d_MO_settle_264 : decode b_MO_settle 264 = .ok (.iload_n 1, 1) := by decide +kernel
theorem d_MO_settle_265 : decode b_MO_settle 265 = .ok (.iaload, 1) := by decide +kernel
theorem d_MO_settle_266 : decode b_MO_settle 266 = .ok (.ishl, 1) := by decide +kernel
theorem d_MO_settle_267 : decode b_MO_settle 267 = .ok (.istore 5, 2) := by decide +kernel
theorem d_MO_settle_269 : decode b_MO_settle 269 = .ok (.aload_n 0, 1) := by decide +kernel
theorem d_MO_settle_270 : decode b_MO_settle 270 = .ok (.getfield 41, 3) := by decide +kernel
theorem d_MO_settle_273 : decode b_MO_settle 273 = .ok (.iload_n 1, 1) := by decide +kernel
theorem d_MO_settle_274 : decode b_MO_settle 274 = .ok (.iload 4, 2) := by decide +kernel
theorem d_MO_settle_276 : decode b_MO_settle 276 = .ok (.iload 5, 2) := by decide +kernel
theorem d_MO_settle_278 : decode b_MO_settle 278 = .ok (.ior, 1) := by decide +kernel
theorem d_MO_settle_279 : decode b_MO_settle 279 = .ok (.iastore, 1) := by decide +kernel
theorem d_MO_settle_280 : decode b_MO_settle 280 = .ok (.aload_n 0, 1) := by decide +kernel
theorem d_MO_settle_281 : decode b_MO_settle 281 = .ok (.getfield 44, 3) := by decide +kernel
theorem d_MO_settle_284 : decode b_MO_settle 284 = .ok (.iload_n 1, 1) := by decide +kernel
theorem d_MO_settle_285 : decode b_MO_settle 285 = .ok (.aload_n 0, 1) := by decide +kernel
theorem d_MO_settle_286 : decode b_MO_settle 286 = .ok (.getfield 7, 3) := by decide +kernel
theorem d_MO_settle_289 : decode b_MO_settle 289 = .ok (.iload_n 1, 1) := by decide +kernel
theorem d_MO_settle_290 : decode b_MO_settle 290 = .ok (.iaload, 1) := by decide +kernel
theorem d_MO_settle_291 : decode b_MO_settle 291 = .ok (.bipush 6, 2) := by decide +kernel
theorem d_MO_settle_293 : decode b_MO_settle 293 = .ok (.if_icmp .eq 49, 3) := by decide +kernel
theorem d_MO_settle_296 : decode b_MO_settle 296 = .ok (.aload_n 0, 1) := by decide +kernel
theorem d_MO_settle_297 : decode b_MO_settle 297 = .ok (.getfield 32, 3) := by decide +kernel
theorem d_MO_settle_300 : decode b_MO_settle 300 = .ok (.iload_n 1, 1) := by decide +kernel
theorem d_MO_settle_301 : decode b_MO_settle 301 = .ok (.iaload, 1) := by decide +kernel
theorem d_MO_settle_302 : decode b_MO_settle 302 = .ok (.ifCond .lt 17, 3) := by decide +kernel
theorem d_MO_settle_305 : decode b_MO_settle 305 = .ok (.aload_n 0, 1) := by decide +kernel
theorem d_MO_settle_306 : decode b_MO_settle 306 = .ok (.getfield 44, 3) := by decide +kernel
theorem d_MO_settle_309 : decode b_MO_settle 309 = .ok (.aload_n 0, 1) := by decide +kernel
theorem d_MO_settle_310 : decode b_MO_settle 310 = .ok (.getfield 32, 3) := by decide +kernel
theorem d_MO_settle_313 : decode b_MO_settle 313 = .ok (.iload_n 1, 1) := by decide +kernel
theorem d_MO_settle_314 : decode b_MO_settle 314 = .ok (.iaload, 1) := by decide +kernel
theorem d_MO_settle_315 : decode b_MO_settle 315 = .ok (.baload, 1) := by decide +kernel
theorem d_MO_settle_316 : decode b_MO_settle 316 = .ok (.ifCond .ne 26, 3) := by decide +kernel
theorem d_MO_settle_319 : decode b_MO_settle 319 = .ok (.aload_n 0, 1) := by decide +kernel
theorem d_MO_settle_320 : decode b_MO_settle 320 = .ok (.getfield 35, 3) := by decide +kernel
theorem d_MO_settle_323 : decode b_MO_settle 323 = .ok (.iload_n 1, 1) := by decide +kernel
theorem d_MO_settle_324 : decode b_MO_settle 324 = .ok (.iaload, 1) := by decide +kernel
theorem d_MO_settle_325 : decode b_MO_settle 325 = .ok (.ifCond .lt 21, 3) := by decide +kernel
theorem d_MO_settle_328 : decode b_MO_settle 328 = .ok (.aload_n 0, 1) := by decide +kernel
theorem d_MO_settle_329 : decode b_MO_settle 329 = .ok (.getfield 44, 3) := by decide +kernel
theorem d_MO_settle_332 : decode b_MO_settle 332 = .ok (.aload_n 0, 1) := by decide +kernel
theorem d_MO_settle_333 : decode b_MO_settle 333 = .ok (.getfield 35, 3) := by decide +kernel
theorem d_MO_settle_336 : decode b_MO_settle 336 = .ok (.iload_n 1, 1) := by decide +kernel
theorem d_MO_settle_337 : decode b_MO_settle 337 = .ok (.iaload, 1) := by decide +kernel
theorem d_MO_settle_338 : decode b_MO_settle 338 = .ok (.baload, 1) := by decide +kernel
theorem d_MO_settle_339 : decode b_MO_settle 339 = .ok (.ifCond .eq 7, 3) := by decide +kernel
theorem d_MO_settle_342 : decode b_MO_settle 342 = .ok (.iconst 1, 1) := by decide +kernel
theorem d_MO_settle_343 : decode b_MO_settle 343 = .ok (.goto 4, 3) := by decide +kernel
theorem d_MO_settle_346 : decode b_MO_settle 346 = .ok (.iconst 0, 1) := by decide +kernel
theorem d_MO_settle_347 : decode b_MO_settle 347 = .ok (.bastore, 1) := by decide +kernel
theorem d_MO_settle_348 : decode b_MO_settle 348 = .ok (.return_, 1) := by decide +kernel
theorem gc_MO_137 : GoodIn gt (wsV R_MO 137 R_MO y_MO_needOf ws_MO_needOf) := gd_V gw_759 gw_761 gs_51 gw_7 gw_762
theorem gc_MO_134 : GoodIn gt (wsV R_MO 134 R_MO y_MO_canCarry ws_MO_canCarry) := gd_V gw_743 gw_745 gs_47 gw_7 gw_746
theorem gc_MO_131 : GoodIn gt (wsV R_MO 131 R_MO y_MO_writerBefore ws_MO_writerBefore) := gd_V gw_735 gw_737 gs_45 gw_7 gw_738
def b_MO_settle_319 (x1 y1 : Int32) (σ : SS) : Option (SS) :=
  (ld (σ 8) 40 x1).bind fun v1 => (if v1 < 0 then (sto σ 11 40 y1 (vp_nar .boolean (0 : Int32))).bind fun σ4 => some σ4 else (ld (σ 8) 40 x1).bind fun v6 => (ld (σ 11) 40 v6).bind fun v8 => (if v8 = 0 then (sto σ 11 40 y1 (vp_nar .boolean (0 : Int32))).bind fun σ11 => some σ11 else (sto σ 11 40 y1 (vp_nar .boolean (1 : Int32))).bind fun σ13 => some σ13))
set_option maxHeartbeats 4000000 in
set_option maxRecDepth 100000 in
theorem k_MO_settle_319 {p : Program} {l : Launch} {e : Env} {s : State} {m : MethodId} {args : Array Value} {below : List Frame} {meth : Method} {c : Code} {D : va_G} {a t : Nat → Nat} {cI cZ : ClassId} (ha : aMC a) (F : CallFix p m c b_MO_settle 6 s args gt R_MO) (hr : meth.sig.returnType = none) (hlk : meth.locks = false) (hK : va_K D vwCl [(cI, .int), (cZ, .boolean)] s) (hT : stM t (aM a) s s.heap) :
    ∀ (x1 y1 : Int32) (σ : SS) (q : SS), b_MO_settle_319 x1 y1 σ = some q → ∀ (H : Heap) (locs : List Loc), va_P D vwCl ((wM a cI cZ) σ) H → va_S (aM a) s.heap H locs → ∀ (ls : Array Slot), lv_has ls 6 [(0, .ref (a 0)), (1, .int x1)] → W p l e { frames := 4, cells := 0, slots := 0, locals := 94 } s m args below meth c H locs 0 0 (MQ below (va_Qv (fun u => u = q) (pW D (wM a cI cZ) [(cI, .int), (cZ, .boolean)] (stM t) (aM a)) (aM a)) args s 0 0 (aM a)) (F0 m 319 ls [.int y1, .ref (a 12)]) := by
  obtain ⟨hx, hb, hml, hown, hg⟩ := id F
  intro x1 y1 σ q hf H locs hP hS ls hl
  unfold b_MO_settle_319 at hf
  refine lv_aload_n hx hb d_MO_settle_319 rfl (lv_at hl 0 rfl) ?_
  refine va_get (D := D) (ci := 6) (v := .ref (a 9)) (C := R_MO) (T := T_MO) (N := 26) hx hb hg in_MO hown hK hP 0 rfl rfl 11 (by decide) (hg _ gw_594) (fun _ h9 => h9) rfl d_MO_settle_320 ?_
  refine lv_iload_n hx hb d_MO_settle_323 rfl (lv_at hl 1 rfl) ?_
  refine bdK hf (fun v1 h2 hf => ?_)
  refine r_iald hx hb hK hP 9 0 rfl rfl h2 d_MO_settle_324 ?_
  refine lv_if_lt (tgt := 346) hx hb d_MO_settle_325 (by decide) (fun c3 => ?_) (fun c3 => ?_)
  · replace hf := (if_pos c3).symm.trans hf
    refine lv_iconst (v := (0 : Int32)) hx hb d_MO_settle_346 (by decide) ?_
    refine bdK hf (fun σ4 h5 hf => ?_)
    refine r_zast (wf := (wM a cI cZ)) hx hb hK hP (dM ha σ) hS 12 1 rfl rfl (fun _ _ => rfl) h5 d_MO_settle_347 (fun H locs hP hS => ?_)
    exact rr_v hx hb hr hlk (stM_g t) hK hT hP hS hf d_MO_settle_348
  · replace hf := (if_neg c3).symm.trans hf
    refine lv_aload_n hx hb d_MO_settle_328 rfl (lv_at hl 0 rfl) ?_
    refine va_get (D := D) (ci := 6) (v := .ref (a 12)) (C := R_MO) (T := T_MO) (N := 26) hx hb hg in_MO hown hK hP 0 rfl rfl 14 (by decide) (hg _ gw_597) (fun _ h9 => h9) rfl d_MO_settle_329 ?_
    refine lv_aload_n hx hb d_MO_settle_332 rfl (lv_at hl 0 rfl) ?_
    refine va_get (D := D) (ci := 6) (v := .ref (a 9)) (C := R_MO) (T := T_MO) (N := 26) hx hb hg in_MO hown hK hP 0 rfl rfl 11 (by decide) (hg _ gw_594) (fun _ h9 => h9) rfl d_MO_settle_333 ?_
    refine lv_iload_n hx hb d_MO_settle_336 rfl (lv_at hl 1 rfl) ?_
    refine bdK hf (fun v6 h7 hf => ?_)
    refine r_iald hx hb hK hP 9 0 rfl rfl h7 d_MO_settle_337 ?_
    refine bdK hf (fun v8 h9 hf => ?_)
    refine r_zald hx hb hK hP 12 1 rfl rfl h9 d_MO_settle_338 ?_
    refine lv_if_eq (tgt := 346) hx hb d_MO_settle_339 (by decide) (fun c10 => ?_) (fun c10 => ?_)
    · replace hf := (if_pos c10).symm.trans hf
      refine lv_iconst (v := (0 : Int32)) hx hb d_MO_settle_346 (by decide) ?_
      refine bdK hf (fun σ11 h12 hf => ?_)
      refine r_zast (wf := (wM a cI cZ)) hx hb hK hP (dM ha σ) hS 12 1 rfl rfl (fun _ _ => rfl) h12 d_MO_settle_347 (fun H locs hP hS => ?_)
      exact rr_v hx hb hr hlk (stM_g t) hK hT hP hS hf d_MO_settle_348
    · replace hf := (if_neg c10).symm.trans hf
      refine lv_iconst (v := (1 : Int32)) hx hb d_MO_settle_342 (by decide) ?_
      refine lv_goto (tgt := 347) hx hb d_MO_settle_343 (by decide) ?_
      refine bdK hf (fun σ13 h14 hf => ?_)
      refine r_zast (wf := (wM a cI cZ)) hx hb hK hP (dM ha σ) hS 12 1 rfl rfl (fun _ _ => rfl) h14 d_MO_settle_347 (fun H locs hP hS => ?_)
      exact rr_v hx hb hr hlk (stM_g t) hK hT hP hS hf d_MO_settle_348
def b_MO_settle_267 (x1 x4 y0 : Int32) (σ : SS) : Option (SS) :=
  (sto σ 10 40 x1 (x4 ||| y0)).bind fun σ1 => (ld (σ1 0) 40 x1).bind fun v3 => (if v3 = (6 : Int32) then (sto σ1 11 40 x1 (vp_nar .boolean (1 : Int32))).bind fun σ6 => some σ6 else (ld (σ1 7) 40 x1).bind fun v8 => (if v8 < 0 then b_MO_settle_319 x1 x1 σ1 else (ld (σ1 7) 40 x1).bind fun v11 => (ld (σ1 11) 40 v11).bind fun v13 => (if v13 = 0 then b_MO_settle_319 x1 x1 σ1 else (sto σ1 11 40 x1 (vp_nar .boolean (1 : Int32))).bind fun σ16 => some σ16)))
set_option maxHeartbeats 4000000 in
set_option maxRecDepth 100000 in
theorem k_MO_settle_267 {p : Program} {l : Launch} {e : Env} {s : State} {m : MethodId} {args : Array Value} {below : List Frame} {meth : Method} {c : Code} {D : va_G} {a t : Nat → Nat} {cI cZ : ClassId} (ha : aMC a) (F : CallFix p m c b_MO_settle 6 s args gt R_MO) (hr : meth.sig.returnType = none) (hlk : meth.locks = false) (hK : va_K D vwCl [(cI, .int), (cZ, .boolean)] s) (hT : stM t (aM a) s s.heap) :
    ∀ (x1 x4 y0 : Int32) (σ : SS) (q : SS), b_MO_settle_267 x1 x4 y0 σ = some q → ∀ (H : Heap) (locs : List Loc), va_P D vwCl ((wM a cI cZ) σ) H → va_S (aM a) s.heap H locs → ∀ (ls : Array Slot), lv_has ls 6 [(0, .ref (a 0)), (1, .int x1), (4, .int x4)] → W p l e { frames := 4, cells := 0, slots := 0, locals := 94 } s m args below meth c H locs 0 0 (MQ below (va_Qv (fun u => u = q) (pW D (wM a cI cZ) [(cI, .int), (cZ, .boolean)] (stM t) (aM a)) (aM a)) args s 0 0 (aM a)) (F0 m 267 ls [.int y0]) := by
  obtain ⟨hx, hb, hml, hown, hg⟩ := id F
  intro x1 x4 y0 σ q hf H locs hP hS ls hl
  unfold b_MO_settle_267 at hf
  refine lv_istore (lv' := [(5, .int y0), (0, .ref (a 0)), (1, .int x1), (4, .int x4)]) hx hb d_MO_settle_267 hl (by decide) rfl (fun ls hl => ?_)
  refine lv_aload_n hx hb d_MO_settle_269 rfl (lv_at hl 1 rfl) ?_
  refine va_get (D := D) (ci := 6) (v := .ref (a 11)) (C := R_MO) (T := T_MO) (N := 26) hx hb hg in_MO hown hK hP 0 rfl rfl 13 (by decide) (hg _ gw_596) (fun _ h9 => h9) rfl d_MO_settle_270 ?_
  refine lv_iload_n hx hb d_MO_settle_273 rfl (lv_at hl 2 rfl) ?_
  refine lv_iload hx hb d_MO_settle_274 (lv_at hl 3 rfl) ?_
  refine lv_iload hx hb d_MO_settle_276 (lv_at hl 0 rfl) ?_
  refine lv_ior hx hb d_MO_settle_278 ?_
  refine bdK hf (fun σ1 h2 hf => ?_)
  refine r_iast (wf := (wM a cI cZ)) hx hb hK hP (dM ha σ) hS 11 0 rfl rfl (fun _ _ => rfl) h2 d_MO_settle_279 (fun H locs hP hS => ?_)
  refine lv_aload_n hx hb d_MO_settle_280 rfl (lv_at hl 1 rfl) ?_
  refine va_get (D := D) (ci := 6) (v := .ref (a 12)) (C := R_MO) (T := T_MO) (N := 26) hx hb hg in_MO hown hK hP 0 rfl rfl 14 (by decide) (hg _ gw_597) (fun _ h9 => h9) rfl d_MO_settle_281 ?_
  refine lv_iload_n hx hb d_MO_settle_284 rfl (lv_at hl 2 rfl) ?_
  refine lv_aload_n hx hb d_MO_settle_285 rfl (lv_at hl 1 rfl) ?_
  refine va_get (D := D) (ci := 6) (v := .ref (a 1)) (C := R_MO) (T := T_MO) (N := 26) hx hb hg in_MO hown hK hP 0 rfl rfl 2 (by decide) (hg _ gw_585) (fun _ h9 => h9) rfl d_MO_settle_286 ?_
  refine lv_iload_n hx hb d_MO_settle_289 rfl (lv_at hl 2 rfl) ?_
  refine bdK hf (fun v3 h4 hf => ?_)
  refine r_iald hx hb hK hP 1 0 rfl rfl h4 d_MO_settle_290 ?_
  refine lv_bipush (v := (6 : Int32)) hx hb d_MO_settle_291 (by decide) ?_
  refine lv_icmp_eq (tgt := 342) hx hb d_MO_settle_293 (by decide) (fun c5 => ?_) (fun c5 => ?_)
  · replace hf := (if_pos c5).symm.trans hf
    refine lv_iconst (v := (1 : Int32)) hx hb d_MO_settle_342 (by decide) ?_
    refine lv_goto (tgt := 347) hx hb d_MO_settle_343 (by decide) ?_
    refine bdK hf (fun σ6 h7 hf => ?_)
    refine r_zast (wf := (wM a cI cZ)) hx hb hK hP (dM ha σ1) hS 12 1 rfl rfl (fun _ _ => rfl) h7 d_MO_settle_347 (fun H locs hP hS => ?_)
    exact rr_v hx hb hr hlk (stM_g t) hK hT hP hS hf d_MO_settle_348
  · replace hf := (if_neg c5).symm.trans hf
    refine lv_aload_n hx hb d_MO_settle_296 rfl (lv_at hl 1 rfl) ?_
    refine va_get (D := D) (ci := 6) (v := .ref (a 8)) (C := R_MO) (T := T_MO) (N := 26) hx hb hg in_MO hown hK hP 0 rfl rfl 10 (by decide) (hg _ gw_593) (fun _ h9 => h9) rfl d_MO_settle_297 ?_
    refine lv_iload_n hx hb d_MO_settle_300 rfl (lv_at hl 2 rfl) ?_
    refine bdK hf (fun v8 h9 hf => ?_)
    refine r_iald hx hb hK hP 8 0 rfl rfl h9 d_MO_settle_301 ?_
    refine lv_if_lt (tgt := 319) hx hb d_MO_settle_302 (by decide) (fun c10 => ?_) (fun c10 => ?_)
    · replace hf := (if_pos c10).symm.trans hf
      exact k_MO_settle_319 ha F hr hlk hK hT x1 x1 σ1 q hf _ _ hP hS ls (lv_sub hl [1, 2] rfl)
    · replace hf := (if_neg c10).symm.trans hf
      refine lv_aload_n hx hb d_MO_settle_305 rfl (lv_at hl 1 rfl) ?_
      refine va_get (D := D) (ci := 6) (v := .ref (a 12)) (C := R_MO) (T := T_MO) (N := 26) hx hb hg in_MO hown hK hP 0 rfl rfl 14 (by decide) (hg _ gw_597) (fun _ h9 => h9) rfl d_MO_settle_306 ?_
      refine lv_aload_n hx hb d_MO_settle_309 rfl (lv_at hl 1 rfl) ?_
      refine va_get (D := D) (ci := 6) (v := .ref (a 8)) (C := R_MO) (T := T_MO) (N := 26) hx hb hg in_MO hown hK hP 0 rfl rfl 10 (by decide) (hg _ gw_593) (fun _ h9 => h9) rfl d_MO_settle_310 ?_
      refine lv_iload_n hx hb d_MO_settle_313 rfl (lv_at hl 2 rfl) ?_
      refine bdK hf (fun v11 h12 hf => ?_)
      refine r_iald hx hb hK hP 8 0 rfl rfl h12 d_MO_settle_314 ?_
      refine bdK hf (fun v13 h14 hf => ?_)
      refine r_zald hx hb hK hP 12 1 rfl rfl h14 d_MO_settle_315 ?_
      refine lv_if_ne (tgt := 342) hx hb d_MO_settle_316 (by decide) (fun c15 => ?_) (fun c15 => ?_)
      · replace hf := (if_neg c15).symm.trans hf
        refine lv_iconst (v := (1 : Int32)) hx hb d_MO_settle_342 (by decide) ?_
        refine lv_goto (tgt := 347) hx hb d_MO_settle_343 (by decide) ?_
        refine bdK hf (fun σ16 h17 hf => ?_)
        refine r_zast (wf := (wM a cI cZ)) hx hb hK hP (dM ha σ1) hS 12 1 rfl rfl (fun _ _ => rfl) h17 d_MO_settle_347 (fun H locs hP hS => ?_)
        exact rr_v hx hb hr hlk (stM_g t) hK hT hP hS hf d_MO_settle_348
      · replace hf := (if_pos c15).symm.trans hf
        exact k_MO_settle_319 ha F hr hlk hK hT x1 x1 σ1 q hf _ _ hP hS ls (lv_sub hl [1, 2] rfl)
def b_MO_settle_222 (x1 y0 : Int32) (σ : SS) : Option (SS) :=
  (f_MO_readsB x1 σ).bind fun q1 => (if q1.1 = 0 then b_MO_settle_267 x1 y0 (0 : Int32) q1.2 else (ld (q1.2 8) 40 x1).bind fun v4 => (if v4 < 0 then (ld (q1.2 3) 40 x1).bind fun v7 => b_MO_settle_267 x1 y0 ((1 : Int32) <<< (v7 &&& 31)) q1.2 else (ld (q1.2 8) 40 x1).bind fun v9 => (ld (q1.2 10) 40 v9).bind fun v11 => b_MO_settle_267 x1 y0 v11 q1.2))
set_option maxHeartbeats 4000000 in
set_option maxRecDepth 100000 in
theorem k_MO_settle_222 {p : Program} {l : Launch} {e : Env} {s : State} {m : MethodId} {args : Array Value} {below : List Frame} {meth : Method} {c : Code} {D : va_G} {a t : Nat → Nat} {cI cZ : ClassId} (ha : aMC a) (F : CallFix p m c b_MO_settle 6 s args gt R_MO) (hr : meth.sig.returnType = none) (hlk : meth.locks = false) (hK : va_K D vwCl [(cI, .int), (cZ, .boolean)] s) (hT : stM t (aM a) s s.heap) :
    ∀ (x1 y0 : Int32) (σ : SS) (q : SS), b_MO_settle_222 x1 y0 σ = some q → ∀ (H : Heap) (locs : List Loc), va_P D vwCl ((wM a cI cZ) σ) H → va_S (aM a) s.heap H locs → ∀ (ls : Array Slot), lv_has ls 6 [(0, .ref (a 0)), (1, .int x1)] → W p l e { frames := 4, cells := 0, slots := 0, locals := 94 } s m args below meth c H locs 0 0 (MQ below (va_Qv (fun u => u = q) (pW D (wM a cI cZ) [(cI, .int), (cZ, .boolean)] (stM t) (aM a)) (aM a)) args s 0 0 (aM a)) (F0 m 222 ls [.int y0]) := by
  obtain ⟨hx, hb, hml, hown, hg⟩ := id F
  intro x1 y0 σ q hf H locs hP hS ls hl
  unfold b_MO_settle_222 at hf
  refine lv_istore (lv' := [(4, .int y0), (0, .ref (a 0)), (1, .int x1)]) hx hb d_MO_settle_222 hl (by decide) rfl (fun ls hl => ?_)
  refine lv_aload_n hx hb d_MO_settle_224 rfl (lv_at hl 1 rfl) ?_
  refine lv_iload_n hx hb d_MO_settle_225 rfl (lv_at hl 2 rfl) ?_
  refine bdK hf (fun q1 h2 hf => ?_)
  refine rc_Vi (As := [.int x1]) (rest := []) (b := a 0) (stM_g t) F (c_MO_readsB l ha x1 σ q1 h2) (cwV 1 hg gc_MO_104 rfl rfl rfl hs_MO_readsB ⟨Nat.le_of_ble_eq_true rfl, Nat.le_of_ble_eq_true rfl⟩) hK hT hP hS (va_recv hK hP (ci := 6) (q0 := 0) rfl rfl) rfl hl.1 rfl (Nat.le_of_ble_eq_true rfl) d_MO_settle_226 ⟨Nat.zero_le _, Nat.zero_le _⟩ (fun H locs hP hS => ?_)
  refine lv_if_ne (tgt := 236) hx hb d_MO_settle_229 (by decide) (fun c3 => ?_) (fun c3 => ?_)
  · replace hf := (if_neg c3).symm.trans hf
    refine lv_aload_n hx hb d_MO_settle_236 rfl (lv_at hl 1 rfl) ?_
    refine va_get (D := D) (ci := 6) (v := .ref (a 9)) (C := R_MO) (T := T_MO) (N := 26) hx hb hg in_MO hown hK hP 0 rfl rfl 11 (by decide) (hg _ gw_594) (fun _ h9 => h9) rfl d_MO_settle_237 ?_
    refine lv_iload_n hx hb d_MO_settle_240 rfl (lv_at hl 2 rfl) ?_
    refine bdK hf (fun v4 h5 hf => ?_)
    refine r_iald hx hb hK hP 9 0 rfl rfl h5 d_MO_settle_241 ?_
    refine lv_if_lt (tgt := 259) hx hb d_MO_settle_242 (by decide) (fun c6 => ?_) (fun c6 => ?_)
    · replace hf := (if_pos c6).symm.trans hf
      refine lv_iconst (v := (1 : Int32)) hx hb d_MO_settle_259 (by decide) ?_
      refine lv_aload_n hx hb d_MO_settle_260 rfl (lv_at hl 1 rfl) ?_
      refine va_get (D := D) (ci := 6) (v := .ref (a 4)) (C := R_MO) (T := T_MO) (N := 26) hx hb hg in_MO hown hK hP 0 rfl rfl 5 (by decide) (hg _ gw_588) (fun _ h9 => h9) rfl d_MO_settle_261 ?_
      refine lv_iload_n hx hb d_MO_settle_264 rfl (lv_at hl 2 rfl) ?_
      refine bdK hf (fun v7 h8 hf => ?_)
      refine r_iald hx hb hK hP 4 0 rfl rfl h8 d_MO_settle_265 ?_
      refine lv_ishl hx hb d_MO_settle_266 ?_
      exact k_MO_settle_267 ha F hr hlk hK hT x1 y0 ((1 : Int32) <<< (v7 &&& 31)) q1.2 q hf _ _ hP hS ls (lv_sub hl [1, 2, 0] rfl)
    · replace hf := (if_neg c6).symm.trans hf
      refine lv_aload_n hx hb d_MO_settle_245 rfl (lv_at hl 1 rfl) ?_
      refine va_get (D := D) (ci := 6) (v := .ref (a 11)) (C := R_MO) (T := T_MO) (N := 26) hx hb hg in_MO hown hK hP 0 rfl rfl 13 (by decide) (hg _ gw_596) (fun _ h9 => h9) rfl d_MO_settle_246 ?_
      refine lv_aload_n hx hb d_MO_settle_249 rfl (lv_at hl 1 rfl) ?_
      refine va_get (D := D) (ci := 6) (v := .ref (a 9)) (C := R_MO) (T := T_MO) (N := 26) hx hb hg in_MO hown hK hP 0 rfl rfl 11 (by decide) (hg _ gw_594) (fun _ h9 => h9) rfl d_MO_settle_250 ?_
      refine lv_iload_n hx hb d_MO_settle_253 rfl (lv_at hl 2 rfl) ?_
      refine bdK hf (fun v9 h10 hf => ?_)
      refine r_iald hx hb hK hP 9 0 rfl rfl h10 d_MO_settle_254 ?_
      refine bdK hf (fun v11 h12 hf => ?_)
      refine r_iald hx hb hK hP 11 0 rfl rfl h12 d_MO_settle_255 ?_
      refine lv_goto (tgt := 267) hx hb d_MO_settle_256 (by decide) ?_
      exact k_MO_settle_267 ha F hr hlk hK hT x1 y0 v11 q1.2 q hf _ _ hP hS ls (lv_sub hl [1, 2, 0] rfl)
  · replace hf := (if_pos c3).symm.trans hf
    refine lv_iconst (v := (0 : Int32)) hx hb d_MO_settle_232 (by decide) ?_
    refine lv_goto (tgt := 267) hx hb d_MO_settle_233 (by decide) ?_
    exact k_MO_settle_267 ha F hr hlk hK hT x1 y0 (0 : Int32) q1.2 q hf _ _ hP hS ls (lv_sub hl [1, 2, 0] rfl)
def b_MO_settle_156 (x1 : Int32) (σ : SS) : Option (SS) :=
  (ld (σ 7) 40 x1).bind fun v1 => (ld (σ 8) 40 x1).bind fun v3 => (f_MO_needOf x1 v1 v3 σ).bind fun q5 => (sto q5.2 9 40 x1 q5.1).bind fun σ7 => (f_MO_readsA x1 σ7).bind fun q9 => (if q9.1 = 0 then b_MO_settle_222 x1 (0 : Int32) q9.2 else (ld (q9.2 7) 40 x1).bind fun v12 => (if v12 < 0 then (ld (q9.2 2) 40 x1).bind fun v15 => b_MO_settle_222 x1 ((1 : Int32) <<< (v15 &&& 31)) q9.2 else (ld (q9.2 7) 40 x1).bind fun v17 => (ld (q9.2 10) 40 v17).bind fun v19 => b_MO_settle_222 x1 v19 q9.2))
set_option maxHeartbeats 4000000 in
set_option maxRecDepth 100000 in
theorem k_MO_settle_156 {p : Program} {l : Launch} {e : Env} {s : State} {m : MethodId} {args : Array Value} {below : List Frame} {meth : Method} {c : Code} {D : va_G} {a t : Nat → Nat} {cI cZ : ClassId} (ha : aMC a) (F : CallFix p m c b_MO_settle 6 s args gt R_MO) (hr : meth.sig.returnType = none) (hlk : meth.locks = false) (hK : va_K D vwCl [(cI, .int), (cZ, .boolean)] s) (hT : stM t (aM a) s s.heap) :
    ∀ (x1 : Int32) (σ : SS) (q : SS), b_MO_settle_156 x1 σ = some q → ∀ (H : Heap) (locs : List Loc), va_P D vwCl ((wM a cI cZ) σ) H → va_S (aM a) s.heap H locs → ∀ (ls : Array Slot), lv_has ls 6 [(0, .ref (a 0)), (1, .int x1)] → W p l e { frames := 4, cells := 0, slots := 0, locals := 94 } s m args below meth c H locs 0 0 (MQ below (va_Qv (fun u => u = q) (pW D (wM a cI cZ) [(cI, .int), (cZ, .boolean)] (stM t) (aM a)) (aM a)) args s 0 0 (aM a)) (F0 m 156 ls []) := by
  obtain ⟨hx, hb, hml, hown, hg⟩ := id F
  intro x1 σ q hf H locs hP hS ls hl
  unfold b_MO_settle_156 at hf
  refine lv_aload_n hx hb d_MO_settle_156 rfl (lv_at hl 0 rfl) ?_
  refine va_get (D := D) (ci := 6) (v := .ref (a 10)) (C := R_MO) (T := T_MO) (N := 26) hx hb hg in_MO hown hK hP 0 rfl rfl 12 (by decide) (hg _ gw_595) (fun _ h9 => h9) rfl d_MO_settle_157 ?_
  refine lv_iload_n hx hb d_MO_settle_160 rfl (lv_at hl 1 rfl) ?_
  refine lv_aload_n hx hb d_MO_settle_161 rfl (lv_at hl 0 rfl) ?_
  refine lv_iload_n hx hb d_MO_settle_162 rfl (lv_at hl 1 rfl) ?_
  refine lv_aload_n hx hb d_MO_settle_163 rfl (lv_at hl 0 rfl) ?_
  refine va_get (D := D) (ci := 6) (v := .ref (a 8)) (C := R_MO) (T := T_MO) (N := 26) hx hb hg in_MO hown hK hP 0 rfl rfl 10 (by decide) (hg _ gw_593) (fun _ h9 => h9) rfl d_MO_settle_164 ?_
  refine lv_iload_n hx hb d_MO_settle_167 rfl (lv_at hl 1 rfl) ?_
  refine bdK hf (fun v1 h2 hf => ?_)
  refine r_iald hx hb hK hP 8 0 rfl rfl h2 d_MO_settle_168 ?_
  refine lv_aload_n hx hb d_MO_settle_169 rfl (lv_at hl 0 rfl) ?_
  refine va_get (D := D) (ci := 6) (v := .ref (a 9)) (C := R_MO) (T := T_MO) (N := 26) hx hb hg in_MO hown hK hP 0 rfl rfl 11 (by decide) (hg _ gw_594) (fun _ h9 => h9) rfl d_MO_settle_170 ?_
  refine lv_iload_n hx hb d_MO_settle_173 rfl (lv_at hl 1 rfl) ?_
  refine bdK hf (fun v3 h4 hf => ?_)
  refine r_iald hx hb hK hP 9 0 rfl rfl h4 d_MO_settle_174 ?_
  refine bdK hf (fun q5 h6 hf => ?_)
  refine rc_Vi (As := [.int x1, .int v1, .int v3]) (rest := [.int x1, .ref (a 10)]) (b := a 0) (stM_g t) F (c_MO_needOf l ha x1 v1 v3 σ q5 h6) (cwV 3 hg gc_MO_137 rfl rfl rfl hs_MO_needOf ⟨Nat.le_of_ble_eq_true rfl, Nat.le_of_ble_eq_true rfl⟩) hK hT hP hS (va_recv hK hP (ci := 6) (q0 := 0) rfl rfl) rfl hl.1 rfl (Nat.le_of_ble_eq_true rfl) d_MO_settle_175 ⟨Nat.zero_le _, Nat.zero_le _⟩ (fun H locs hP hS => ?_)
  refine bdK hf (fun σ7 h8 hf => ?_)
  refine r_iast (wf := (wM a cI cZ)) hx hb hK hP (dM ha q5.2) hS 10 0 rfl rfl (fun _ _ => rfl) h8 d_MO_settle_178 (fun H locs hP hS => ?_)
  refine lv_aload_n hx hb d_MO_settle_179 rfl (lv_at hl 0 rfl) ?_
  refine lv_iload_n hx hb d_MO_settle_180 rfl (lv_at hl 1 rfl) ?_
  refine bdK hf (fun q9 h10 hf => ?_)
  refine rc_Vi (As := [.int x1]) (rest := []) (b := a 0) (stM_g t) F (c_MO_readsA l ha x1 σ7 q9 h10) (cwV 1 hg gc_MO_101 rfl rfl rfl hs_MO_readsA ⟨Nat.le_of_ble_eq_true rfl, Nat.le_of_ble_eq_true rfl⟩) hK hT hP hS (va_recv hK hP (ci := 6) (q0 := 0) rfl rfl) rfl hl.1 rfl (Nat.le_of_ble_eq_true rfl) d_MO_settle_181 ⟨Nat.zero_le _, Nat.zero_le _⟩ (fun H locs hP hS => ?_)
  refine lv_if_ne (tgt := 191) hx hb d_MO_settle_184 (by decide) (fun c11 => ?_) (fun c11 => ?_)
  · replace hf := (if_neg c11).symm.trans hf
    refine lv_aload_n hx hb d_MO_settle_191 rfl (lv_at hl 0 rfl) ?_
    refine va_get (D := D) (ci := 6) (v := .ref (a 8)) (C := R_MO) (T := T_MO) (N := 26) hx hb hg in_MO hown hK hP 0 rfl rfl 10 (by decide) (hg _ gw_593) (fun _ h9 => h9) rfl d_MO_settle_192 ?_
    refine lv_iload_n hx hb d_MO_settle_195 rfl (lv_at hl 1 rfl) ?_
    refine bdK hf (fun v12 h13 hf => ?_)
    refine r_iald hx hb hK hP 8 0 rfl rfl h13 d_MO_settle_196 ?_
    refine lv_if_lt (tgt := 214) hx hb d_MO_settle_197 (by decide) (fun c14 => ?_) (fun c14 => ?_)
    · replace hf := (if_pos c14).symm.trans hf
      refine lv_iconst (v := (1 : Int32)) hx hb d_MO_settle_214 (by decide) ?_
      refine lv_aload_n hx hb d_MO_settle_215 rfl (lv_at hl 0 rfl) ?_
      refine va_get (D := D) (ci := 6) (v := .ref (a 3)) (C := R_MO) (T := T_MO) (N := 26) hx hb hg in_MO hown hK hP 0 rfl rfl 4 (by decide) (hg _ gw_587) (fun _ h9 => h9) rfl d_MO_settle_216 ?_
      refine lv_iload_n hx hb d_MO_settle_219 rfl (lv_at hl 1 rfl) ?_
      refine bdK hf (fun v15 h16 hf => ?_)
      refine r_iald hx hb hK hP 3 0 rfl rfl h16 d_MO_settle_220 ?_
      refine lv_ishl hx hb d_MO_settle_221 ?_
      exact k_MO_settle_222 ha F hr hlk hK hT x1 ((1 : Int32) <<< (v15 &&& 31)) q9.2 q hf _ _ hP hS ls (lv_sub hl [0, 1] rfl)
    · replace hf := (if_neg c14).symm.trans hf
      refine lv_aload_n hx hb d_MO_settle_200 rfl (lv_at hl 0 rfl) ?_
      refine va_get (D := D) (ci := 6) (v := .ref (a 11)) (C := R_MO) (T := T_MO) (N := 26) hx hb hg in_MO hown hK hP 0 rfl rfl 13 (by decide) (hg _ gw_596) (fun _ h9 => h9) rfl d_MO_settle_201 ?_
      refine lv_aload_n hx hb d_MO_settle_204 rfl (lv_at hl 0 rfl) ?_
      refine va_get (D := D) (ci := 6) (v := .ref (a 8)) (C := R_MO) (T := T_MO) (N := 26) hx hb hg in_MO hown hK hP 0 rfl rfl 10 (by decide) (hg _ gw_593) (fun _ h9 => h9) rfl d_MO_settle_205 ?_
      refine lv_iload_n hx hb d_MO_settle_208 rfl (lv_at hl 1 rfl) ?_
      refine bdK hf (fun v17 h18 hf => ?_)
      refine r_iald hx hb hK hP 8 0 rfl rfl h18 d_MO_settle_209 ?_
      refine bdK hf (fun v19 h20 hf => ?_)
      refine r_iald hx hb hK hP 11 0 rfl rfl h20 d_MO_settle_210 ?_
      refine lv_goto (tgt := 222) hx hb d_MO_settle_211 (by decide) ?_
      exact k_MO_settle_222 ha F hr hlk hK hT x1 v19 q9.2 q hf _ _ hP hS ls (lv_sub hl [0, 1] rfl)
  · replace hf := (if_pos c11).symm.trans hf
    refine lv_iconst (v := (0 : Int32)) hx hb d_MO_settle_187 (by decide) ?_
    refine lv_goto (tgt := 222) hx hb d_MO_settle_188 (by decide) ?_
    exact k_MO_settle_222 ha F hr hlk hK hT x1 (0 : Int32) q9.2 q hf _ _ hP hS ls (lv_sub hl [0, 1] rfl)
def b_MO_settle_109 (x1 y0 : Int32) (σ : SS) : Option (SS) :=
  (if y0 < 0 then b_MO_settle_156 x1 σ else (f_MO_canCarry y0 x1 σ).bind fun q2 => (if q2.1 = 0 then b_MO_settle_156 x1 q2.2 else (ld (q2.2 7) 40 x1).bind fun v5 => (f_MO_needOf x1 v5 y0 q2.2).bind fun q7 => (if (q7.2 20 0) < q7.1 then b_MO_settle_156 x1 q7.2 else (sto q7.2 8 40 x1 y0).bind fun σ10 => (sto σ10 6 40 y0 x1).bind fun σ12 => b_MO_settle_156 x1 σ12)))
set_option maxHeartbeats 4000000 in
set_option maxRecDepth 100000 in
theorem k_MO_settle_109 {p : Program} {l : Launch} {e : Env} {s : State} {m : MethodId} {args : Array Value} {below : List Frame} {meth : Method} {c : Code} {D : va_G} {a t : Nat → Nat} {cI cZ : ClassId} (ha : aMC a) (F : CallFix p m c b_MO_settle 6 s args gt R_MO) (hr : meth.sig.returnType = none) (hlk : meth.locks = false) (hK : va_K D vwCl [(cI, .int), (cZ, .boolean)] s) (hT : stM t (aM a) s s.heap) :
    ∀ (x1 y0 : Int32) (σ : SS) (q : SS), b_MO_settle_109 x1 y0 σ = some q → ∀ (H : Heap) (locs : List Loc), va_P D vwCl ((wM a cI cZ) σ) H → va_S (aM a) s.heap H locs → ∀ (ls : Array Slot), lv_has ls 6 [(0, .ref (a 0)), (1, .int x1)] → W p l e { frames := 4, cells := 0, slots := 0, locals := 94 } s m args below meth c H locs 0 0 (MQ below (va_Qv (fun u => u = q) (pW D (wM a cI cZ) [(cI, .int), (cZ, .boolean)] (stM t) (aM a)) (aM a)) args s 0 0 (aM a)) (F0 m 109 ls [.int y0]) := by
  obtain ⟨hx, hb, hml, hown, hg⟩ := id F
  intro x1 y0 σ q hf H locs hP hS ls hl
  unfold b_MO_settle_109 at hf
  refine lv_istore_n (lv' := [(3, .int y0), (0, .ref (a 0)), (1, .int x1)]) hx hb d_MO_settle_109 rfl hl (by decide) rfl (fun ls hl => ?_)
  refine lv_iload_n hx hb d_MO_settle_110 rfl (lv_at hl 0 rfl) ?_
  refine lv_if_lt (tgt := 156) hx hb d_MO_settle_111 (by decide) (fun c1 => ?_) (fun c1 => ?_)
  · replace hf := (if_pos c1).symm.trans hf
    exact k_MO_settle_156 ha F hr hlk hK hT x1 σ q hf _ _ hP hS ls (lv_sub hl [1, 2] rfl)
  · replace hf := (if_neg c1).symm.trans hf
    refine lv_aload_n hx hb d_MO_settle_114 rfl (lv_at hl 1 rfl) ?_
    refine lv_iload_n hx hb d_MO_settle_115 rfl (lv_at hl 0 rfl) ?_
    refine lv_iload_n hx hb d_MO_settle_116 rfl (lv_at hl 2 rfl) ?_
    refine bdK hf (fun q2 h3 hf => ?_)
    refine rc_Vi (As := [.int y0, .int x1]) (rest := []) (b := a 0) (stM_g t) F (c_MO_canCarry l ha y0 x1 σ q2 h3) (cwV 2 hg gc_MO_134 rfl rfl rfl hs_MO_canCarry ⟨Nat.le_of_ble_eq_true rfl, Nat.le_of_ble_eq_true rfl⟩) hK hT hP hS (va_recv hK hP (ci := 6) (q0 := 0) rfl rfl) rfl hl.1 rfl (Nat.le_of_ble_eq_true rfl) d_MO_settle_117 ⟨Nat.zero_le _, Nat.zero_le _⟩ (fun H locs hP hS => ?_)
    refine lv_if_eq (tgt := 156) hx hb d_MO_settle_120 (by decide) (fun c4 => ?_) (fun c4 => ?_)
    · replace hf := (if_pos c4).symm.trans hf
      exact k_MO_settle_156 ha F hr hlk hK hT x1 q2.2 q hf _ _ hP hS ls (lv_sub hl [1, 2] rfl)
    · replace hf := (if_neg c4).symm.trans hf
      refine lv_aload_n hx hb d_MO_settle_123 rfl (lv_at hl 1 rfl) ?_
      refine lv_iload_n hx hb d_MO_settle_124 rfl (lv_at hl 2 rfl) ?_
      refine lv_aload_n hx hb d_MO_settle_125 rfl (lv_at hl 1 rfl) ?_
      refine va_get (D := D) (ci := 6) (v := .ref (a 8)) (C := R_MO) (T := T_MO) (N := 26) hx hb hg in_MO hown hK hP 0 rfl rfl 10 (by decide) (hg _ gw_593) (fun _ h9 => h9) rfl d_MO_settle_126 ?_
      refine lv_iload_n hx hb d_MO_settle_129 rfl (lv_at hl 2 rfl) ?_
      refine bdK hf (fun v5 h6 hf => ?_)
      refine r_iald hx hb hK hP 8 0 rfl rfl h6 d_MO_settle_130 ?_
      refine lv_iload_n hx hb d_MO_settle_131 rfl (lv_at hl 0 rfl) ?_
      refine bdK hf (fun q7 h8 hf => ?_)
      refine rc_Vi (As := [.int x1, .int v5, .int y0]) (rest := []) (b := a 0) (stM_g t) F (c_MO_needOf l ha x1 v5 y0 q2.2 q7 h8) (cwV 3 hg gc_MO_137 rfl rfl rfl hs_MO_needOf ⟨Nat.le_of_ble_eq_true rfl, Nat.le_of_ble_eq_true rfl⟩) hK hT hP hS (va_recv hK hP (ci := 6) (q0 := 0) rfl rfl) rfl hl.1 rfl (Nat.le_of_ble_eq_true rfl) d_MO_settle_132 ⟨Nat.zero_le _, Nat.zero_le _⟩ (fun H locs hP hS => ?_)
      refine lv_aload_n hx hb d_MO_settle_135 rfl (lv_at hl 1 rfl) ?_
      refine va_get (D := D) (ci := 6) (v := .int (q7.2 20 0)) (C := R_MO) (T := T_MO) (N := 26) hx hb hg in_MO hown hK hP 0 rfl rfl 0 (by decide) (hg _ gw_583) (fun _ h9 => h9) rfl d_MO_settle_136 ?_
      refine lv_icmp_gt (tgt := 156) hx hb d_MO_settle_139 (by decide) (fun c9 => ?_) (fun c9 => ?_)
      · replace hf := (if_pos c9).symm.trans hf
        exact k_MO_settle_156 ha F hr hlk hK hT x1 q7.2 q hf _ _ hP hS ls (lv_sub hl [1, 2] rfl)
      · replace hf := (if_neg c9).symm.trans hf
        refine lv_aload_n hx hb d_MO_settle_142 rfl (lv_at hl 1 rfl) ?_
        refine va_get (D := D) (ci := 6) (v := .ref (a 9)) (C := R_MO) (T := T_MO) (N := 26) hx hb hg in_MO hown hK hP 0 rfl rfl 11 (by decide) (hg _ gw_594) (fun _ h9 => h9) rfl d_MO_settle_143 ?_
        refine lv_iload_n hx hb d_MO_settle_146 rfl (lv_at hl 2 rfl) ?_
        refine lv_iload_n hx hb d_MO_settle_147 rfl (lv_at hl 0 rfl) ?_
        refine bdK hf (fun σ10 h11 hf => ?_)
        refine r_iast (wf := (wM a cI cZ)) hx hb hK hP (dM ha q7.2) hS 9 0 rfl rfl (fun _ _ => rfl) h11 d_MO_settle_148 (fun H locs hP hS => ?_)
        refine lv_aload_n hx hb d_MO_settle_149 rfl (lv_at hl 1 rfl) ?_
        refine va_get (D := D) (ci := 6) (v := .ref (a 7)) (C := R_MO) (T := T_MO) (N := 26) hx hb hg in_MO hown hK hP 0 rfl rfl 9 (by decide) (hg _ gw_592) (fun _ h9 => h9) rfl d_MO_settle_150 ?_
        refine lv_iload_n hx hb d_MO_settle_153 rfl (lv_at hl 0 rfl) ?_
        refine lv_iload_n hx hb d_MO_settle_154 rfl (lv_at hl 2 rfl) ?_
        refine bdK hf (fun σ12 h13 hf => ?_)
        refine r_iast (wf := (wM a cI cZ)) hx hb hK hP (dM ha σ10) hS 7 0 rfl rfl (fun _ _ => rfl) h13 d_MO_settle_155 (fun H locs hP hS => ?_)
        exact k_MO_settle_156 ha F hr hlk hK hT x1 σ12 q hf _ _ hP hS ls (lv_sub hl [1, 2] rfl)
def b_MO_settle_86 (x1 : Int32) (σ : SS) : Option (SS) :=
  (f_MO_readsB x1 σ).bind fun q1 => (if q1.1 = 0 then b_MO_settle_109 x1 (-1 : Int32) q1.2 else (ld (q1.2 3) 40 x1).bind fun v4 => (f_MO_writerBefore x1 v4 q1.2).bind fun q6 => b_MO_settle_109 x1 q6.1 q6.2)
set_option maxHeartbeats 4000000 in
set_option maxRecDepth 100000 in
theorem k_MO_settle_86 {p : Program} {l : Launch} {e : Env} {s : State} {m : MethodId} {args : Array Value} {below : List Frame} {meth : Method} {c : Code} {D : va_G} {a t : Nat → Nat} {cI cZ : ClassId} (ha : aMC a) (F : CallFix p m c b_MO_settle 6 s args gt R_MO) (hr : meth.sig.returnType = none) (hlk : meth.locks = false) (hK : va_K D vwCl [(cI, .int), (cZ, .boolean)] s) (hT : stM t (aM a) s s.heap) :
    ∀ (x1 : Int32) (σ : SS) (q : SS), b_MO_settle_86 x1 σ = some q → ∀ (H : Heap) (locs : List Loc), va_P D vwCl ((wM a cI cZ) σ) H → va_S (aM a) s.heap H locs → ∀ (ls : Array Slot), lv_has ls 6 [(0, .ref (a 0)), (1, .int x1)] → W p l e { frames := 4, cells := 0, slots := 0, locals := 94 } s m args below meth c H locs 0 0 (MQ below (va_Qv (fun u => u = q) (pW D (wM a cI cZ) [(cI, .int), (cZ, .boolean)] (stM t) (aM a)) (aM a)) args s 0 0 (aM a)) (F0 m 86 ls []) := by
  obtain ⟨hx, hb, hml, hown, hg⟩ := id F
  intro x1 σ q hf H locs hP hS ls hl
  unfold b_MO_settle_86 at hf
  refine lv_aload_n hx hb d_MO_settle_86 rfl (lv_at hl 0 rfl) ?_
  refine lv_iload_n hx hb d_MO_settle_87 rfl (lv_at hl 1 rfl) ?_
  refine bdK hf (fun q1 h2 hf => ?_)
  refine rc_Vi (As := [.int x1]) (rest := []) (b := a 0) (stM_g t) F (c_MO_readsB l ha x1 σ q1 h2) (cwV 1 hg gc_MO_104 rfl rfl rfl hs_MO_readsB ⟨Nat.le_of_ble_eq_true rfl, Nat.le_of_ble_eq_true rfl⟩) hK hT hP hS (va_recv hK hP (ci := 6) (q0 := 0) rfl rfl) rfl hl.1 rfl (Nat.le_of_ble_eq_true rfl) d_MO_settle_88 ⟨Nat.zero_le _, Nat.zero_le _⟩ (fun H locs hP hS => ?_)
  refine lv_if_eq (tgt := 108) hx hb d_MO_settle_91 (by decide) (fun c3 => ?_) (fun c3 => ?_)
  · replace hf := (if_pos c3).symm.trans hf
    refine lv_iconst (v := (-1 : Int32)) hx hb d_MO_settle_108 (by decide) ?_
    exact k_MO_settle_109 ha F hr hlk hK hT x1 (-1 : Int32) q1.2 q hf _ _ hP hS ls (lv_sub hl [0, 1] rfl)
  · replace hf := (if_neg c3).symm.trans hf
    refine lv_aload_n hx hb d_MO_settle_94 rfl (lv_at hl 0 rfl) ?_
    refine lv_iload_n hx hb d_MO_settle_95 rfl (lv_at hl 1 rfl) ?_
    refine lv_aload_n hx hb d_MO_settle_96 rfl (lv_at hl 0 rfl) ?_
    refine va_get (D := D) (ci := 6) (v := .ref (a 4)) (C := R_MO) (T := T_MO) (N := 26) hx hb hg in_MO hown hK hP 0 rfl rfl 5 (by decide) (hg _ gw_588) (fun _ h9 => h9) rfl d_MO_settle_97 ?_
    refine lv_iload_n hx hb d_MO_settle_100 rfl (lv_at hl 1 rfl) ?_
    refine bdK hf (fun v4 h5 hf => ?_)
    refine r_iald hx hb hK hP 4 0 rfl rfl h5 d_MO_settle_101 ?_
    refine bdK hf (fun q6 h7 hf => ?_)
    refine rc_Vi (As := [.int x1, .int v4]) (rest := []) (b := a 0) (stM_g t) F (c_MO_writerBefore l ha x1 v4 q1.2 q6 h7) (cwV 2 hg gc_MO_131 rfl rfl rfl hs_MO_writerBefore ⟨Nat.le_of_ble_eq_true rfl, Nat.le_of_ble_eq_true rfl⟩) hK hT hP hS (va_recv hK hP (ci := 6) (q0 := 0) rfl rfl) rfl hl.1 rfl (Nat.le_of_ble_eq_true rfl) d_MO_settle_102 ⟨Nat.zero_le _, Nat.zero_le _⟩ (fun H locs hP hS => ?_)
    refine lv_goto (tgt := 109) hx hb d_MO_settle_105 (by decide) ?_
    exact k_MO_settle_109 ha F hr hlk hK hT x1 q6.1 q6.2 q hf _ _ hP hS ls (lv_sub hl [0, 1] rfl)
def b_MO_settle_44 (x1 y0 : Int32) (σ : SS) : Option (SS) :=
  (if y0 < 0 then b_MO_settle_86 x1 σ else (f_MO_canCarry y0 x1 σ).bind fun q2 => (if q2.1 = 0 then b_MO_settle_86 x1 q2.2 else (f_MO_needOf x1 y0 (-1 : Int32) q2.2).bind fun q5 => (if (q5.2 20 0) < q5.1 then b_MO_settle_86 x1 q5.2 else (sto q5.2 7 40 x1 y0).bind fun σ8 => (sto σ8 6 40 y0 x1).bind fun σ10 => b_MO_settle_86 x1 σ10)))
set_option maxHeartbeats 4000000 in
set_option maxRecDepth 100000 in
theorem k_MO_settle_44 {p : Program} {l : Launch} {e : Env} {s : State} {m : MethodId} {args : Array Value} {below : List Frame} {meth : Method} {c : Code} {D : va_G} {a t : Nat → Nat} {cI cZ : ClassId} (ha : aMC a) (F : CallFix p m c b_MO_settle 6 s args gt R_MO) (hr : meth.sig.returnType = none) (hlk : meth.locks = false) (hK : va_K D vwCl [(cI, .int), (cZ, .boolean)] s) (hT : stM t (aM a) s s.heap) :
    ∀ (x1 y0 : Int32) (σ : SS) (q : SS), b_MO_settle_44 x1 y0 σ = some q → ∀ (H : Heap) (locs : List Loc), va_P D vwCl ((wM a cI cZ) σ) H → va_S (aM a) s.heap H locs → ∀ (ls : Array Slot), lv_has ls 6 [(0, .ref (a 0)), (1, .int x1)] → W p l e { frames := 4, cells := 0, slots := 0, locals := 94 } s m args below meth c H locs 0 0 (MQ below (va_Qv (fun u => u = q) (pW D (wM a cI cZ) [(cI, .int), (cZ, .boolean)] (stM t) (aM a)) (aM a)) args s 0 0 (aM a)) (F0 m 44 ls [.int y0]) := by
  obtain ⟨hx, hb, hml, hown, hg⟩ := id F
  intro x1 y0 σ q hf H locs hP hS ls hl
  unfold b_MO_settle_44 at hf
  refine lv_istore_n (lv' := [(2, .int y0), (0, .ref (a 0)), (1, .int x1)]) hx hb d_MO_settle_44 rfl hl (by decide) rfl (fun ls hl => ?_)
  refine lv_iload_n hx hb d_MO_settle_45 rfl (lv_at hl 0 rfl) ?_
  refine lv_if_lt (tgt := 86) hx hb d_MO_settle_46 (by decide) (fun c1 => ?_) (fun c1 => ?_)
  · replace hf := (if_pos c1).symm.trans hf
    exact k_MO_settle_86 ha F hr hlk hK hT x1 σ q hf _ _ hP hS ls (lv_sub hl [1, 2] rfl)
  · replace hf := (if_neg c1).symm.trans hf
    refine lv_aload_n hx hb d_MO_settle_49 rfl (lv_at hl 1 rfl) ?_
    refine lv_iload_n hx hb d_MO_settle_50 rfl (lv_at hl 0 rfl) ?_
    refine lv_iload_n hx hb d_MO_settle_51 rfl (lv_at hl 2 rfl) ?_
    refine bdK hf (fun q2 h3 hf => ?_)
    refine rc_Vi (As := [.int y0, .int x1]) (rest := []) (b := a 0) (stM_g t) F (c_MO_canCarry l ha y0 x1 σ q2 h3) (cwV 2 hg gc_MO_134 rfl rfl rfl hs_MO_canCarry ⟨Nat.le_of_ble_eq_true rfl, Nat.le_of_ble_eq_true rfl⟩) hK hT hP hS (va_recv hK hP (ci := 6) (q0 := 0) rfl rfl) rfl hl.1 rfl (Nat.le_of_ble_eq_true rfl) d_MO_settle_52 ⟨Nat.zero_le _, Nat.zero_le _⟩ (fun H locs hP hS => ?_)
    refine lv_if_eq (tgt := 86) hx hb d_MO_settle_55 (by decide) (fun c4 => ?_) (fun c4 => ?_)
    · replace hf := (if_pos c4).symm.trans hf
      exact k_MO_settle_86 ha F hr hlk hK hT x1 q2.2 q hf _ _ hP hS ls (lv_sub hl [1, 2] rfl)
    · replace hf := (if_neg c4).symm.trans hf
      refine lv_aload_n hx hb d_MO_settle_58 rfl (lv_at hl 1 rfl) ?_
      refine lv_iload_n hx hb d_MO_settle_59 rfl (lv_at hl 2 rfl) ?_
      refine lv_iload_n hx hb d_MO_settle_60 rfl (lv_at hl 0 rfl) ?_
      refine lv_iconst (v := (-1 : Int32)) hx hb d_MO_settle_61 (by decide) ?_
      refine bdK hf (fun q5 h6 hf => ?_)
      refine rc_Vi (As := [.int x1, .int y0, .int (-1 : Int32)]) (rest := []) (b := a 0) (stM_g t) F (c_MO_needOf l ha x1 y0 (-1 : Int32) q2.2 q5 h6) (cwV 3 hg gc_MO_137 rfl rfl rfl hs_MO_needOf ⟨Nat.le_of_ble_eq_true rfl, Nat.le_of_ble_eq_true rfl⟩) hK hT hP hS (va_recv hK hP (ci := 6) (q0 := 0) rfl rfl) rfl hl.1 rfl (Nat.le_of_ble_eq_true rfl) d_MO_settle_62 ⟨Nat.zero_le _, Nat.zero_le _⟩ (fun H locs hP hS => ?_)
      refine lv_aload_n hx hb d_MO_settle_65 rfl (lv_at hl 1 rfl) ?_
      refine va_get (D := D) (ci := 6) (v := .int (q5.2 20 0)) (C := R_MO) (T := T_MO) (N := 26) hx hb hg in_MO hown hK hP 0 rfl rfl 0 (by decide) (hg _ gw_583) (fun _ h9 => h9) rfl d_MO_settle_66 ?_
      refine lv_icmp_gt (tgt := 86) hx hb d_MO_settle_69 (by decide) (fun c7 => ?_) (fun c7 => ?_)
      · replace hf := (if_pos c7).symm.trans hf
        exact k_MO_settle_86 ha F hr hlk hK hT x1 q5.2 q hf _ _ hP hS ls (lv_sub hl [1, 2] rfl)
      · replace hf := (if_neg c7).symm.trans hf
        refine lv_aload_n hx hb d_MO_settle_72 rfl (lv_at hl 1 rfl) ?_
        refine va_get (D := D) (ci := 6) (v := .ref (a 8)) (C := R_MO) (T := T_MO) (N := 26) hx hb hg in_MO hown hK hP 0 rfl rfl 10 (by decide) (hg _ gw_593) (fun _ h9 => h9) rfl d_MO_settle_73 ?_
        refine lv_iload_n hx hb d_MO_settle_76 rfl (lv_at hl 2 rfl) ?_
        refine lv_iload_n hx hb d_MO_settle_77 rfl (lv_at hl 0 rfl) ?_
        refine bdK hf (fun σ8 h9 hf => ?_)
        refine r_iast (wf := (wM a cI cZ)) hx hb hK hP (dM ha q5.2) hS 8 0 rfl rfl (fun _ _ => rfl) h9 d_MO_settle_78 (fun H locs hP hS => ?_)
        refine lv_aload_n hx hb d_MO_settle_79 rfl (lv_at hl 1 rfl) ?_
        refine va_get (D := D) (ci := 6) (v := .ref (a 7)) (C := R_MO) (T := T_MO) (N := 26) hx hb hg in_MO hown hK hP 0 rfl rfl 9 (by decide) (hg _ gw_592) (fun _ h9 => h9) rfl d_MO_settle_80 ?_
        refine lv_iload_n hx hb d_MO_settle_83 rfl (lv_at hl 0 rfl) ?_
        refine lv_iload_n hx hb d_MO_settle_84 rfl (lv_at hl 2 rfl) ?_
        refine bdK hf (fun σ10 h11 hf => ?_)
        refine r_iast (wf := (wM a cI cZ)) hx hb hK hP (dM ha σ8) hS 7 0 rfl rfl (fun _ _ => rfl) h11 d_MO_settle_85 (fun H locs hP hS => ?_)
        exact k_MO_settle_86 ha F hr hlk hK hT x1 σ10 q hf _ _ hP hS ls (lv_sub hl [1, 2] rfl)
def f_MO_settle (x1 : Int32) (σ : SS) : Option (SS) :=
  (sto σ 7 40 x1 (-1 : Int32)).bind fun σ1 => (sto σ1 8 40 x1 (-1 : Int32)).bind fun σ3 => (sto σ3 6 40 x1 (-1 : Int32)).bind fun σ5 => (f_MO_readsA x1 σ5).bind fun q7 => (if q7.1 = 0 then b_MO_settle_44 x1 (-1 : Int32) q7.2 else (ld (q7.2 2) 40 x1).bind fun v10 => (f_MO_writerBefore x1 v10 q7.2).bind fun q12 => b_MO_settle_44 x1 q12.1 q12.2)
set_option maxHeartbeats 4000000 in
set_option maxRecDepth 100000 in
theorem e_MO_settle {p : Program} {l : Launch} {e : Env} {s : State} {m : MethodId} {args : Array Value} {below : List Frame} {meth : Method} {c : Code} {D : va_G} {a t : Nat → Nat} {cI cZ : ClassId} (ha : aMC a) (F : CallFix p m c b_MO_settle 6 s args gt R_MO) (hr : meth.sig.returnType = none) (hlk : meth.locks = false) (hK : va_K D vwCl [(cI, .int), (cZ, .boolean)] s) (hT : stM t (aM a) s s.heap) :
    ∀ (x1 : Int32) (σ : SS) (q : SS), f_MO_settle x1 σ = some q → ∀ (H : Heap) (locs : List Loc), va_P D vwCl ((wM a cI cZ) σ) H → va_S (aM a) s.heap H locs → ∀ (ls : Array Slot), lv_has ls 6 [(0, .ref (a 0)), (1, .int x1)] → W p l e { frames := 4, cells := 0, slots := 0, locals := 94 } s m args below meth c H locs 0 0 (MQ below (va_Qv (fun u => u = q) (pW D (wM a cI cZ) [(cI, .int), (cZ, .boolean)] (stM t) (aM a)) (aM a)) args s 0 0 (aM a)) (F0 m 0 ls []) := by
  obtain ⟨hx, hb, hml, hown, hg⟩ := id F
  intro x1 σ q hf H locs hP hS ls hl
  unfold f_MO_settle at hf
  refine lv_aload_n hx hb d_MO_settle_0 rfl (lv_at hl 0 rfl) ?_
  refine va_get (D := D) (ci := 6) (v := .ref (a 8)) (C := R_MO) (T := T_MO) (N := 26) hx hb hg in_MO hown hK hP 0 rfl rfl 10 (by decide) (hg _ gw_593) (fun _ h9 => h9) rfl d_MO_settle_1 ?_
  refine lv_iload_n hx hb d_MO_settle_4 rfl (lv_at hl 1 rfl) ?_
  refine lv_iconst (v := (-1 : Int32)) hx hb d_MO_settle_5 (by decide) ?_
  refine bdK hf (fun σ1 h2 hf => ?_)
  refine r_iast (wf := (wM a cI cZ)) hx hb hK hP (dM ha σ) hS 8 0 rfl rfl (fun _ _ => rfl) h2 d_MO_settle_6 (fun H locs hP hS => ?_)
  refine lv_aload_n hx hb d_MO_settle_7 rfl (lv_at hl 0 rfl) ?_
  refine va_get (D := D) (ci := 6) (v := .ref (a 9)) (C := R_MO) (T := T_MO) (N := 26) hx hb hg in_MO hown hK hP 0 rfl rfl 11 (by decide) (hg _ gw_594) (fun _ h9 => h9) rfl d_MO_settle_8 ?_
  refine lv_iload_n hx hb d_MO_settle_11 rfl (lv_at hl 1 rfl) ?_
  refine lv_iconst (v := (-1 : Int32)) hx hb d_MO_settle_12 (by decide) ?_
  refine bdK hf (fun σ3 h4 hf => ?_)
  refine r_iast (wf := (wM a cI cZ)) hx hb hK hP (dM ha σ1) hS 9 0 rfl rfl (fun _ _ => rfl) h4 d_MO_settle_13 (fun H locs hP hS => ?_)
  refine lv_aload_n hx hb d_MO_settle_14 rfl (lv_at hl 0 rfl) ?_
  refine va_get (D := D) (ci := 6) (v := .ref (a 7)) (C := R_MO) (T := T_MO) (N := 26) hx hb hg in_MO hown hK hP 0 rfl rfl 9 (by decide) (hg _ gw_592) (fun _ h9 => h9) rfl d_MO_settle_15 ?_
  refine lv_iload_n hx hb d_MO_settle_18 rfl (lv_at hl 1 rfl) ?_
  refine lv_iconst (v := (-1 : Int32)) hx hb d_MO_settle_19 (by decide) ?_
  refine bdK hf (fun σ5 h6 hf => ?_)
  refine r_iast (wf := (wM a cI cZ)) hx hb hK hP (dM ha σ3) hS 7 0 rfl rfl (fun _ _ => rfl) h6 d_MO_settle_20 (fun H locs hP hS => ?_)
  refine lv_aload_n hx hb d_MO_settle_21 rfl (lv_at hl 0 rfl) ?_
  refine lv_iload_n hx hb d_MO_settle_22 rfl (lv_at hl 1 rfl) ?_
  refine bdK hf (fun q7 h8 hf => ?_)
  refine rc_Vi (As := [.int x1]) (rest := []) (b := a 0) (stM_g t) F (c_MO_readsA l ha x1 σ5 q7 h8) (cwV 1 hg gc_MO_101 rfl rfl rfl hs_MO_readsA ⟨Nat.le_of_ble_eq_true rfl, Nat.le_of_ble_eq_true rfl⟩) hK hT hP hS (va_recv hK hP (ci := 6) (q0 := 0) rfl rfl) rfl hl.1 rfl (Nat.le_of_ble_eq_true rfl) d_MO_settle_23 ⟨Nat.zero_le _, Nat.zero_le _⟩ (fun H locs hP hS => ?_)
  refine lv_if_eq (tgt := 43) hx hb d_MO_settle_26 (by decide) (fun c9 => ?_) (fun c9 => ?_)
  · replace hf := (if_pos c9).symm.trans hf
    refine lv_iconst (v := (-1 : Int32)) hx hb d_MO_settle_43 (by decide) ?_
    exact k_MO_settle_44 ha F hr hlk hK hT x1 (-1 : Int32) q7.2 q hf _ _ hP hS ls (lv_sub hl [0, 1] rfl)
  · replace hf := (if_neg c9).symm.trans hf
    refine lv_aload_n hx hb d_MO_settle_29 rfl (lv_at hl 0 rfl) ?_
    refine lv_iload_n hx hb d_MO_settle_30 rfl (lv_at hl 1 rfl) ?_
    refine lv_aload_n hx hb d_MO_settle_31 rfl (lv_at hl 0 rfl) ?_
    refine va_get (D := D) (ci := 6) (v := .ref (a 3)) (C := R_MO) (T := T_MO) (N := 26) hx hb hg in_MO hown hK hP 0 rfl rfl 4 (by decide) (hg _ gw_587) (fun _ h9 => h9) rfl d_MO_settle_32 ?_
    refine lv_iload_n hx hb d_MO_settle_35 rfl (lv_at hl 1 rfl) ?_
    refine bdK hf (fun v10 h11 hf => ?_)
    refine r_iald hx hb hK hP 3 0 rfl rfl h11 d_MO_settle_36 ?_
    refine bdK hf (fun q12 h13 hf => ?_)
    refine rc_Vi (As := [.int x1, .int v10]) (rest := []) (b := a 0) (stM_g t) F (c_MO_writerBefore l ha x1 v10 q7.2 q12 h13) (cwV 2 hg gc_MO_131 rfl rfl rfl hs_MO_writerBefore ⟨Nat.le_of_ble_eq_true rfl, Nat.le_of_ble_eq_true rfl⟩) hK hT hP hS (va_recv hK hP (ci := 6) (q0 := 0) rfl rfl) rfl hl.1 rfl (Nat.le_of_ble_eq_true rfl) d_MO_settle_37 ⟨Nat.zero_le _, Nat.zero_le _⟩ (fun H locs hP hS => ?_)
    refine lv_goto (tgt := 44) hx hb d_MO_settle_40 (by decide) ?_
    exact k_MO_settle_44 ha F hr hlk hK hT x1 q12.1 q12.2 q hf _ _ hP hS ls (lv_sub hl [0, 1] rfl)
set_option maxHeartbeats 4000000 in
set_option maxRecDepth 100000 in
theorem c_MO_settle (l : Launch) {D : va_G} {a t : Nat → Nat} {cI cZ : ClassId} (ha : aMC a) (x1 : Int32) (σ : SS) (q : SS) (hf : f_MO_settle x1 σ = some q) : Met l y_MO_settle ws_MO_settle { frames := 4, cells := 0, slots := 0, locals := 94 } (va_Pc [.ref (a 0), .int x1] (pW D (wM a cI cZ) [(cI, .int), (cZ, .boolean)] (stM t) (aM a) σ)) (va_Qv (fun u => u = q) (pW D (wM a cI cZ) [(cI, .int), (cZ, .boolean)] (stM t) (aM a)) (aM a)) 0 0 (aM a) := by
  refine Met.ofW (cc := b_MO_settle) (maxL := 6) (ret := none) (by decide) rfl ?_
  intro p e s m args below meth c s₁ B hml hv
  obtain ⟨rfl, hP, hK, hT⟩ := hv
  have hl := lv_entry ([.ref (a 0), .int x1]) (n := 6) (Nat.le_of_ble_eq_true rfl)
  rw [lg_entry_eq]
  generalize (lg_sl ([.ref (a 0), .int x1]) ++ List.replicate (6 - (lg_sl ([.ref (a 0), .int x1])).length) Slot.unset).toArray = ls at hl ⊢
  exact e_MO_settle ha ⟨B.exec, B.bytes, hml, findClass_of_methodNamed B.named, fun w h => atoms_spec (ws := ws_MO_settle) B.pre w (List.mem_cons_of_mem _ h)⟩ B.returns B.notSynchronized hK hT x1 σ q hf s.heap [] hP va_S.rf ls hl
