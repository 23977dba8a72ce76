theorem d_MO_findAlive_0 : decode b_MO_findAlive 0 = .ok (.iconst 1, 1) := by decide +kernel
theorem d_MO_findAlive_1 : decode b_MO_findAlive 1 = .ok (.istore_n 1, 1) := by decide +kernel
theorem d_MO_findAlive_2 : decode b_MO_findAlive 2 = .ok (.iload_n 1, 1) := by decide +kernel
theorem d_MO_findAlive_3 : decode b_MO_findAlive 3 = .ok (.ifCond .eq 128, 3) := by decide +kernel
theorem d_MO_findAlive_6 : decode b_MO_findAlive 6 = .ok (.iconst 0, 1) := by decide +kernel
theorem d_MO_findAlive_7 : decode b_MO_findAlive 7 = .ok (.istore_n 1, 1) := by decide +kernel
theorem d_MO_findAlive_8 : decode b_MO_findAlive 8 = .ok (.iconst 0, 1) := by decide +kernel
theorem d_MO_findAlive_9 : decode b_MO_findAlive 9 = .ok (.istore_n 2, 1) := by decide +kernel
theorem d_MO_findAlive_10 : decode b_MO_findAlive 10 = .ok (.iload_n 2, 1) := by decide +kernel
theorem d_MO_findAlive_11 : decode b_MO_findAlive 11 = .ok (.aload_n 0, 1) := by decide +kernel
theorem d_MO_findAlive_12 : decode b_MO_findAlive 12 = .ok (.getfield 87, 3) := by decide +kernel
theorem d_MO_findAlive_15 : decode b_MO_findAlive 15 = .ok (.if_icmp .ge 113, 3) := by decide +kernel
theorem d_MO_findAlive_18 : decode b_MO_findAlive 18 = .ok (.aload_n 0, 1) := by decide +kernel
theorem d_MO_findAlive_19 : decode b_MO_findAlive 19 = .ok (.iload_n 2, 1) := by decide +kernel
theorem d_MO_findAlive_20 : decode b_MO_findAlive 20 = .ok (.invokevirtual 114, 3) := by decide +kernel
theorem d_MO_findAlive_23 : decode b_MO_findAlive 23 = .ok (.istore_n 3, 1) := by decide +kernel
theorem d_MO_findAlive_24 : decode b_MO_findAlive 24 = .ok (.aload_n 0, 1) := by decide +kernel
theorem d_MO_findAlive_25 : decode b_MO_findAlive 25 = .ok (.iload_n 2, 1) := by decide +kernel
theorem d_MO_findAlive_26 : decode b_MO_findAlive 26 = .ok (.invokevirtual 98, 3) := by decide +kernel
theorem d_MO_findAlive_29 : decode b_MO_findAlive 29 = .ok (.ifCond .eq 18, 3) := by decide +kernel
theorem d_MO_findAlive_32 : decode b_MO_findAlive 32 = .ok (.iload_n 3, 1) := by decide +kernel
theorem d_MO_findAlive_33 : decode b_MO_findAlive 33 = .ok (.iconst 1, 1) := by decide +kernel
theorem d_MO_findAlive_34 : decode b_MO_findAlive 34 = .ok (.aload_n 0, 1) := by decide +kernel
theorem d_MO_findAlive_35 : decode b_MO_findAlive 35 = .ok (.getfield 13, 3) := by decide +kernel
theorem d_MO_findAlive_38 : decode b_MO_findAlive 38 = .ok (.iload_n 2, 1) := by decide +kernel
theorem d_MO_findAlive_39 : decode b_MO_findAlive 39 = .ok (.iaload, 1) := by decide +kernel
theorem d_MO_findAlive_40 : decode b_MO_findAlive 40 = .ok (.ishl, 1) := by decide +kernel
theorem d_MO_findAlive_41 : decode b_MO_findAlive 41 = .ok (.iconst (-1), 1) := by decide +kernel
theorem d_MO_findAlive_42 : decode b_MO_findAlive 42 = .ok (.ixor, 1) := by decide +kernel
theorem d_MO_findAlive_43 : decode b_MO_findAlive 43 = .ok (.iand, 1) := by decide +kernel
theorem d_MO_findAlive_44 : decode b_MO_findAlive 44 = .ok (.goto 4, 3) := by decide +kernel
theorem d_MO_findAlive_47 : decode b_MO_findAlive 47 = .ok (.iload_n 3, 1) := by decide +kernel
theorem d_MO_findAlive_48 : decode b_MO_findAlive 48 = .ok (.istore_n 3, 1) := by decide +kernel
theorem d_MO_findAlive_49 : decode b_MO_findAlive 49 = .ok (.aload_n 0, 1) := by decide +kernel
theorem d_MO_findAlive_50 : decode b_MO_findAlive 50 = .ok (.iload_n 2, 1) := by decide +kernel
theorem d_MO_findAlive_51 : decode b_MO_findAlive 51 = .ok (.invokevirtual 101, 3) := by decide +kernel
theorem d_MO_findAlive_54 : decode b_MO_findAlive 54 = .ok (.ifCond .eq 16, 3) := by decide +kernel
theorem d_MO_findAlive_57 : decode b_MO_findAlive 57 = .ok (.iload_n 3, 1) := by decide +kernel
theorem d_MO_findAlive_58 : decode b_MO_findAlive 58 = .ok (.iconst 1, 1) := by decide +kernel
theorem d_MO_findAlive_59 : decode b_MO_findAlive 59 = .ok (.aload_n 0, 1) := by decide +kernel
theorem d_MO_findAlive_60 : decode b_MO_findAlive 60 = .ok (.getfield 16, 3) := by decide +kernel
theorem d_MO_findAlive_63 : decode b_MO_findAlive 63 = .ok (.iload_n 2, 1) := by decide +kernel
theorem d_MO_findAlive_64 : decode b_MO_findAlive 64 = .ok (.iaload, 1) := by decide +kernel
theorem d_MO_findAlive_65 : decode b_MO_findAlive 65 = .ok (.ishl, 1) := by decide +kernel
theorem d_MO_findAlive_66 : decode b_MO_findAlive 66 = .ok (.ior, 1) := by decide +kernel
theorem d_MO_findAlive_67 : decode b_MO_findAlive 67 = .ok (.goto 4, 3) := by decide +kernel
theorem d_MO_findAlive_70 : decode b_MO_findAlive 70 = .ok (.iload_n 3, 1) := by decide +kernel
theorem d_MO_findAlive_71 : decode b_MO_findAlive 71 = .ok (.istore_n 3, 1) := by decide +kernel
theorem d_MO_findAlive_72 : decode b_MO_findAlive 72 = .ok (.aload_n 0, 1) := by decide +kernel
theorem d_MO_findAlive_73 : decode b_MO_findAlive 73 = .ok (.iload_n 2, 1) := by decide +kernel
theorem d_MO_findAlive_74 : decode b_MO_findAlive 74 = .ok (.invokevirtual 104, 3) := by decide +kernel
theorem d_MO_findAlive_77 : decode b_MO_findAlive 77 = .ok (.ifCond .eq 16, 3) := by decide +kernel
theorem d_MO_findAlive_80 : decode b_MO_findAlive 80 = .ok (.iload_n 3, 1) := by decide +kernel
theorem d_MO_findAlive_81 : decode b_MO_findAlive 81 = .ok (.iconst 1, 1) := by decide +kernel
theorem d_MO_findAlive_82 : decode b_MO_findAlive 82 = .ok (.aload_n 0, 1) := by decide +kernel
theorem d_MO_findAlive_83 : decode b_MO_findAlive 83 = .ok (.getfield 19, 3) := by decide +kernel
theorem d_MO_findAlive_86 : decode b_MO_findAlive 86 = .ok (.iload_n 2, 1) := by decide +kernel
theorem d_MO_findAlive_87 : decode b_MO_findAlive 87 = .ok (.iaload, 1) := by decide +kernel
theorem d_MO_findAlive_88 : decode b_MO_findAlive 88 = .ok (.ishl, 1) := by decide +kernel
theorem d_MO_findAlive_89 : decode b_MO_findAlive 89 = .ok (.ior, 1) := by decide +kernel
theorem d_MO_findAlive_90 : decode b_MO_findAlive 90 = .ok (.goto 4, 3) := by decide +kernel
theorem d_MO_findAlive_93 : decode b_MO_findAlive 93 = .ok (.iload_n 3, 1) := by decide +kernel
theorem d_MO_findAlive_94 : decode b_MO_findAlive 94 = .ok (.istore_n 3, 1) := by decide +kernel
theorem d_MO_findAlive_95 : decode b_MO_findAlive 95 = .ok (.iload_n 1, 1) := by decide +kernel
theorem d_MO_findAlive_96 : decode b_MO_findAlive 96 = .ok (.ifCond .ne 13, 3) := by decide +kernel
theorem d_MO_findAlive_99 : decode b_MO_findAlive 99 = .ok (.iload_n 3, 1) := by decide +kernel
theorem d_MO_findAlive_100 : decode b_MO_findAlive 100 = .ok (.aload_n 0, 1) := by decide +kernel
theorem d_MO_findAlive_101 : decode b_MO_findAlive 101 = .ok (.getfield 26, 3) := by decide +kernel
theorem d_MO_findAlive_104 : decode b_MO_findAlive 104 = .ok (.iload_n 2, 1) := by decide +kernel
theorem d_MO_findAlive_105 : decode b_MO_findAlive 105 = .ok (.iaload, 1) := by decide +kernel
theorem d_MO_findAlive_106 : decode b_MO_findAlive 106 = .ok (.if_icmp .eq 7, 3) := by decide +kernel
theorem d_MO_findAlive_109 : decode b_MO_findAlive 109 = .ok (.iconst 1, 1) := by decide +kernel
theorem d_MO_findAlive_110 : decode b_MO_findAlive 110 = .ok (.goto 4, 3) := by decide +kernel
theorem d_MO_findAlive_113 : decode b_MO_findAlive 113 = .ok (.iconst 0, 1) := by decide +kernel
theorem d_MO_findAlive_114 : decode b_MO_findAlive 114 = .ok (.istore_n 1, 1) := by decide +kernel
theorem d_MO_findAlive_115 : decode b_MO_findAlive 115 = .ok (.aload_n 0, 1) := by decide +kernel
theorem d_MO_findAlive_116 : decode b_MO_findAlive 116 = .ok (.getfield 26, 3) := by decide +kernel
theorem d_MO_findAlive_119 : decode b_MO_findAlive 119 = .ok (.iload_n 2, 1) := by decide +kernel
theorem d_MO_findAlive_120 : decode b_MO_findAlive 120 = .ok (.iload_n 3, 1) := by decide +kernel
theorem d_MO_findAlive_121 : decode b_MO_findAlive 121 = .ok (.iastore, 1) := by decide +kernel
theorem d_MO_findAlive_122 : decode b_MO_findAlive 122 = .ok (.iinc 2 1, 3) := by decide +kernel
theorem d_MO_findAlive_125 : decode b_MO_findAlive 125 = .ok (.goto (-115), 3) := by decide +kernel
theorem d_MO_findAlive_128 : decode b_MO_findAlive 128 = .ok (.goto (-126), 3) := by decide +kernel
theorem d_MO_findAlive_131 : decode b_MO_findAlive 131 = .ok (.return_, 1) := by decide +kernel
theorem gc_MO_114 : GoodIn gt (wsV R_MO 114 R_MO y_MO_behind ws_MO_behind) := gd_V gw_711 gw_713 gs_39 gw_7 gw_714
def b_MO_findAlive_94 (r2 : Int32 → SS → Option (SS)) (r10 : Int32 → Int32 → SS → Option (SS)) (x1 x2 y0 : Int32) (σ : SS) : Option (SS) :=
  (if x1 = 0 then (ld (σ 5) 42 x2).bind fun v4 => (if y0 = v4 then (sto σ 5 42 x2 y0).bind fun σ7 => r10 (0 : Int32) (x2 + (1 : Int32)) σ7 else (sto σ 5 42 x2 y0).bind fun σ9 => r10 (1 : Int32) (x2 + (1 : Int32)) σ9) else (sto σ 5 42 x2 y0).bind fun σ2 => r10 (1 : Int32) (x2 + (1 : Int32)) σ2)
set_option maxHeartbeats 4000000 in
set_option maxRecDepth 100000 in
theorem k_MO_findAlive_94 {p : Program} {l : Launch} {e : Env} {s : State} {m : MethodId} {args : Array Value} {below : List Frame} {meth : Method} {c : Code} {D : va_G} {a t : Nat → Nat} {cI cZ : ClassId} (ha : aMC a) (F : CallFix p m c b_MO_findAlive 4 s args gt R_MO) (hr : meth.sig.returnType = none) (hlk : meth.locks = false) (hK : va_K D vwCl [(cI, .int), (cZ, .boolean)] s) (hT : stM t (aM a) s s.heap) (r2 : Int32 → SS → Option (SS)) (hr2 : ∀ (x1 : Int32) (σ : SS) (q : SS), r2 x1 σ = some q → ∀ (H : Heap) (locs : List Loc), va_P D vwCl ((wM a cI cZ) σ) H → va_S (aM a) s.heap H locs → ∀ (ls : Array Slot), lv_has ls 4 [(0, .ref (a 0)), (1, .int x1)] → W p l e { frames := 2, cells := 0, slots := 0, locals := 43 } s m args below meth c H locs 0 0 (MQ below (va_Qv (fun u => u = q) (pW D (wM a cI cZ) [(cI, .int), (cZ, .boolean)] (stM t) (aM a)) (aM a)) args s 0 0 (aM a)) (F0 m 2 ls [])) (r10 : Int32 → Int32 → SS → Option (SS)) (hr10 : ∀ (x1 x2 : Int32) (σ : SS) (q : SS), r10 x1 x2 σ = some q → ∀ (H : Heap) (locs : List Loc), va_P D vwCl ((wM a cI cZ) σ) H → va_S (aM a) s.heap H locs → ∀ (ls : Array Slot), lv_has ls 4 [(0, .ref (a 0)), (1, .int x1), (2, .int x2)] → W p l e { frames := 2, cells := 0, slots := 0, locals := 43 } s m args below meth c H locs 0 0 (MQ below (va_Qv (fun u => u = q) (pW D (wM a cI cZ) [(cI, .int), (cZ, .boolean)] (stM t) (aM a)) (aM a)) args s 0 0 (aM a)) (F0 m 10 ls [])) :
    ∀ (x1 x2 y0 : Int32) (σ : SS) (q : SS), b_MO_findAlive_94 r2 r10 x1 x2 y0 σ = some q → ∀ (H : Heap) (locs : List Loc), va_P D vwCl ((wM a cI cZ) σ) H → va_S (aM a) s.heap H locs → ∀ (ls : Array Slot), lv_has ls 4 [(0, .ref (a 0)), (1, .int x1), (2, .int x2)] → W p l e { frames := 2, cells := 0, slots := 0, locals := 43 } s m args below meth c H locs 0 0 (MQ below (va_Qv (fun u => u = q) (pW D (wM a cI cZ) [(cI, .int), (cZ, .boolean)] (stM t) (aM a)) (aM a)) args s 0 0 (aM a)) (F0 m 94 ls [.int y0]) := by
  obtain ⟨hx, hb, hml, hown, hg⟩ := id F
  intro x1 x2 y0 σ q hf H locs hP hS ls hl
  unfold b_MO_findAlive_94 at hf
  refine lv_istore_n (lv' := [(3, .int y0), (0, .ref (a 0)), (1, .int x1), (2, .int x2)]) hx hb d_MO_findAlive_94 rfl hl (by decide) rfl (fun ls hl => ?_)
  refine lv_iload_n hx hb d_MO_findAlive_95 rfl (lv_at hl 2 rfl) ?_
  refine lv_if_ne (tgt := 109) hx hb d_MO_findAlive_96 (by decide) (fun c1 => ?_) (fun c1 => ?_)
  · replace hf := (if_neg c1).symm.trans hf
    refine lv_iconst (v := (1 : Int32)) hx hb d_MO_findAlive_109 (by decide) ?_
    refine lv_goto (tgt := 114) hx hb d_MO_findAlive_110 (by decide) ?_
    refine lv_istore_n (lv' := [(1, .int (1 : Int32)), (3, .int y0), (0, .ref (a 0)), (2, .int x2)]) hx hb d_MO_findAlive_114 rfl hl (by decide) rfl (fun ls hl => ?_)
    refine lv_aload_n hx hb d_MO_findAlive_115 rfl (lv_at hl 2 rfl) ?_
    refine va_get (D := D) (ci := 6) (v := .ref (a 6)) (C := R_MO) (T := T_MO) (N := 26) hx hb hg in_MO hown hK hP 0 rfl rfl 8 (by decide) (hg _ gw_591) (fun _ h9 => h9) rfl d_MO_findAlive_116 ?_
    refine lv_iload_n hx hb d_MO_findAlive_119 rfl (lv_at hl 3 rfl) ?_
    refine lv_iload_n hx hb d_MO_findAlive_120 rfl (lv_at hl 1 rfl) ?_
    refine bdK hf (fun σ2 h3 hf => ?_)
    refine r_iast (wf := (wM a cI cZ)) hx hb hK hP (dM ha σ) hS 6 0 rfl rfl (fun _ _ => rfl) h3 d_MO_findAlive_121 (fun H locs hP hS => ?_)
    refine lv_iinc (v := (x2 + (1 : Int32))) (lv' := [(2, .int (x2 + (1 : Int32))), (1, .int (1 : Int32)), (3, .int y0), (0, .ref (a 0))]) hx hb d_MO_findAlive_122 hl (k := 3) rfl (by rfl) (by decide) rfl (fun ls hl => ?_)
    refine lv_goto (tgt := 10) hx hb d_MO_findAlive_125 (by decide) ?_
    exact hr10 (1 : Int32) (x2 + (1 : Int32)) σ2 q hf _ _ hP hS ls (lv_sub hl [3, 1, 0] rfl)
  · replace hf := (if_pos c1).symm.trans hf
    refine lv_iload_n hx hb d_MO_findAlive_99 rfl (lv_at hl 0 rfl) ?_
    refine lv_aload_n hx hb d_MO_findAlive_100 rfl (lv_at hl 1 rfl) ?_
    refine va_get (D := D) (ci := 6) (v := .ref (a 6)) (C := R_MO) (T := T_MO) (N := 26) hx hb hg in_MO hown hK hP 0 rfl rfl 8 (by decide) (hg _ gw_591) (fun _ h9 => h9) rfl d_MO_findAlive_101 ?_
    refine lv_iload_n hx hb d_MO_findAlive_104 rfl (lv_at hl 3 rfl) ?_
    refine bdK hf (fun v4 h5 hf => ?_)
    refine r_iald hx hb hK hP 6 0 rfl rfl h5 d_MO_findAlive_105 ?_
    refine lv_icmp_eq (tgt := 113) hx hb d_MO_findAlive_106 (by decide) (fun c6 => ?_) (fun c6 => ?_)
    · replace hf := (if_pos c6).symm.trans hf
      refine lv_iconst (v := (0 : Int32)) hx hb d_MO_findAlive_113 (by decide) ?_
      refine lv_istore_n (lv' := [(1, .int (0 : Int32)), (3, .int y0), (0, .ref (a 0)), (2, .int x2)]) hx hb d_MO_findAlive_114 rfl hl (by decide) rfl (fun ls hl => ?_)
      refine lv_aload_n hx hb d_MO_findAlive_115 rfl (lv_at hl 2 rfl) ?_
      refine va_get (D := D) (ci := 6) (v := .ref (a 6)) (C := R_MO) (T := T_MO) (N := 26) hx hb hg in_MO hown hK hP 0 rfl rfl 8 (by decide) (hg _ gw_591) (fun _ h9 => h9) rfl d_MO_findAlive_116 ?_
      refine lv_iload_n hx hb d_MO_findAlive_119 rfl (lv_at hl 3 rfl) ?_
      refine lv_iload_n hx hb d_MO_findAlive_120 rfl (lv_at hl 1 rfl) ?_
      refine bdK hf (fun σ7 h8 hf => ?_)
      refine r_iast (wf := (wM a cI cZ)) hx hb hK hP (dM ha σ) hS 6 0 rfl rfl (fun _ _ => rfl) h8 d_MO_findAlive_121 (fun H locs hP hS => ?_)
      refine lv_iinc (v := (x2 + (1 : Int32))) (lv' := [(2, .int (x2 + (1 : Int32))), (1, .int (0 : Int32)), (3, .int y0), (0, .ref (a 0))]) hx hb d_MO_findAlive_122 hl (k := 3) rfl (by rfl) (by decide) rfl (fun ls hl => ?_)
      refine lv_goto (tgt := 10) hx hb d_MO_findAlive_125 (by decide) ?_
      exact hr10 (0 : Int32) (x2 + (1 : Int32)) σ7 q hf _ _ hP hS ls (lv_sub hl [3, 1, 0] rfl)
    · replace hf := (if_neg c6).symm.trans hf
      refine lv_iconst (v := (1 : Int32)) hx hb d_MO_findAlive_109 (by decide) ?_
      refine lv_goto (tgt := 114) hx hb d_MO_findAlive_110 (by decide) ?_
      refine lv_istore_n (lv' := [(1, .int (1 : Int32)), (3, .int y0), (0, .ref (a 0)), (2, .int x2)]) hx hb d_MO_findAlive_114 rfl hl (by decide) rfl (fun ls hl => ?_)
      refine lv_aload_n hx hb d_MO_findAlive_115 rfl (lv_at hl 2 rfl) ?_
      refine va_get (D := D) (ci := 6) (v := .ref (a 6)) (C := R_MO) (T := T_MO) (N := 26) hx hb hg in_MO hown hK hP 0 rfl rfl 8 (by decide) (hg _ gw_591) (fun _ h9 => h9) rfl d_MO_findAlive_116 ?_
      refine lv_iload_n hx hb d_MO_findAlive_119 rfl (lv_at hl 3 rfl) ?_
      refine lv_iload_n hx hb d_MO_findAlive_120 rfl (lv_at hl 1 rfl) ?_
      refine bdK hf (fun σ9 h10 hf => ?_)
      refine r_iast (wf := (wM a cI cZ)) hx hb hK hP (dM ha σ) hS 6 0 rfl rfl (fun _ _ => rfl) h10 d_MO_findAlive_121 (fun H locs hP hS => ?_)
      refine lv_iinc (v := (x2 + (1 : Int32))) (lv' := [(2, .int (x2 + (1 : Int32))), (1, .int (1 : Int32)), (3, .int y0), (0, .ref (a 0))]) hx hb d_MO_findAlive_122 hl (k := 3) rfl (by rfl) (by decide) rfl (fun ls hl => ?_)
      refine lv_goto (tgt := 10) hx hb d_MO_findAlive_125 (by decide) ?_
      exact hr10 (1 : Int32) (x2 + (1 : Int32)) σ9 q hf _ _ hP hS ls (lv_sub hl [3, 1, 0] rfl)
def b_MO_findAlive_71 (r2 : Int32 → SS → Option (SS)) (r10 : Int32 → Int32 → SS → Option (SS)) (x1 x2 y0 : Int32) (σ : SS) : Option (SS) :=
  (f_MO_readsB x2 σ).bind fun q1 => (if q1.1 = 0 then b_MO_findAlive_94 r2 r10 x1 x2 y0 q1.2 else (ld (q1.2 3) 40 x2).bind fun v4 => b_MO_findAlive_94 r2 r10 x1 x2 (y0 ||| ((1 : Int32) <<< (v4 &&& 31))) q1.2)
set_option maxHeartbeats 4000000 in
set_option maxRecDepth 100000 in
theorem k_MO_findAlive_71 {p : Program} {l : Launch} {e : Env} {s : State} {m : MethodId} {args : Array Value} {below : List Frame} {meth : Method} {c : Code} {D : va_G} {a t : Nat → Nat} {cI cZ : ClassId} (ha : aMC a) (F : CallFix p m c b_MO_findAlive 4 s args gt R_MO) (hr : meth.sig.returnType = none) (hlk : meth.locks = false) (hK : va_K D vwCl [(cI, .int), (cZ, .boolean)] s) (hT : stM t (aM a) s s.heap) (r2 : Int32 → SS → Option (SS)) (hr2 : ∀ (x1 : Int32) (σ : SS) (q : SS), r2 x1 σ = some q → ∀ (H : Heap) (locs : List Loc), va_P D vwCl ((wM a cI cZ) σ) H → va_S (aM a) s.heap H locs → ∀ (ls : Array Slot), lv_has ls 4 [(0, .ref (a 0)), (1, .int x1)] → W p l e { frames := 2, cells := 0, slots := 0, locals := 43 } s m args below meth c H locs 0 0 (MQ below (va_Qv (fun u => u = q) (pW D (wM a cI cZ) [(cI, .int), (cZ, .boolean)] (stM t) (aM a)) (aM a)) args s 0 0 (aM a)) (F0 m 2 ls [])) (r10 : Int32 → Int32 → SS → Option (SS)) (hr10 : ∀ (x1 x2 : Int32) (σ : SS) (q : SS), r10 x1 x2 σ = some q → ∀ (H : Heap) (locs : List Loc), va_P D vwCl ((wM a cI cZ) σ) H → va_S (aM a) s.heap H locs → ∀ (ls : Array Slot), lv_has ls 4 [(0, .ref (a 0)), (1, .int x1), (2, .int x2)] → W p l e { frames := 2, cells := 0, slots := 0, locals := 43 } s m args below meth c H locs 0 0 (MQ below (va_Qv (fun u => u = q) (pW D (wM a cI cZ) [(cI, .int), (cZ, .boolean)] (stM t) (aM a)) (aM a)) args s 0 0 (aM a)) (F0 m 10 ls [])) :
    ∀ (x1 x2 y0 : Int32) (σ : SS) (q : SS), b_MO_findAlive_71 r2 r10 x1 x2 y0 σ = some q → ∀ (H : Heap) (locs : List Loc), va_P D vwCl ((wM a cI cZ) σ) H → va_S (aM a) s.heap H locs → ∀ (ls : Array Slot), lv_has ls 4 [(0, .ref (a 0)), (1, .int x1), (2, .int x2)] → W p l e { frames := 2, cells := 0, slots := 0, locals := 43 } s m args below meth c H locs 0 0 (MQ below (va_Qv (fun u => u = q) (pW D (wM a cI cZ) [(cI, .int), (cZ, .boolean)] (stM t) (aM a)) (aM a)) args s 0 0 (aM a)) (F0 m 71 ls [.int y0]) := by
  obtain ⟨hx, hb, hml, hown, hg⟩ := id F
  intro x1 x2 y0 σ q hf H locs hP hS ls hl
  unfold b_MO_findAlive_71 at hf
  refine lv_istore_n (lv' := [(3, .int y0), (0, .ref (a 0)), (1, .int x1), (2, .int x2)]) hx hb d_MO_findAlive_71 rfl hl (by decide) rfl (fun ls hl => ?_)
  refine lv_aload_n hx hb d_MO_findAlive_72 rfl (lv_at hl 1 rfl) ?_
  refine lv_iload_n hx hb d_MO_findAlive_73 rfl (lv_at hl 3 rfl) ?_
  refine bdK hf (fun q1 h2 hf => ?_)
  refine rc_Vi (As := [.int x2]) (rest := []) (b := a 0) (stM_g t) F (c_MO_readsB l ha x2 σ q1 h2) (cwV 1 hg gc_MO_104 rfl rfl rfl hs_MO_readsB ⟨Nat.le_of_ble_eq_true rfl, Nat.le_of_ble_eq_true rfl⟩) hK hT hP hS (va_recv hK hP (ci := 6) (q0 := 0) rfl rfl) rfl hl.1 rfl (Nat.le_of_ble_eq_true rfl) d_MO_findAlive_74 ⟨Nat.zero_le _, Nat.zero_le _⟩ (fun H locs hP hS => ?_)
  refine lv_if_eq (tgt := 93) hx hb d_MO_findAlive_77 (by decide) (fun c3 => ?_) (fun c3 => ?_)
  · replace hf := (if_pos c3).symm.trans hf
    refine lv_iload_n hx hb d_MO_findAlive_93 rfl (lv_at hl 0 rfl) ?_
    exact k_MO_findAlive_94 ha F hr hlk hK hT r2 hr2 r10 hr10 x1 x2 y0 q1.2 q hf _ _ hP hS ls (lv_sub hl [1, 2, 3] rfl)
  · replace hf := (if_neg c3).symm.trans hf
    refine lv_iload_n hx hb d_MO_findAlive_80 rfl (lv_at hl 0 rfl) ?_
    refine lv_iconst (v := (1 : Int32)) hx hb d_MO_findAlive_81 (by decide) ?_
    refine lv_aload_n hx hb d_MO_findAlive_82 rfl (lv_at hl 1 rfl) ?_
    refine va_get (D := D) (ci := 6) (v := .ref (a 4)) (C := R_MO) (T := T_MO) (N := 26) hx hb hg in_MO hown hK hP 0 rfl rfl 5 (by decide) (hg _ gw_588) (fun _ h9 => h9) rfl d_MO_findAlive_83 ?_
    refine lv_iload_n hx hb d_MO_findAlive_86 rfl (lv_at hl 3 rfl) ?_
    refine bdK hf (fun v4 h5 hf => ?_)
    refine r_iald hx hb hK hP 4 0 rfl rfl h5 d_MO_findAlive_87 ?_
    refine lv_ishl hx hb d_MO_findAlive_88 ?_
    refine lv_ior hx hb d_MO_findAlive_89 ?_
    refine lv_goto (tgt := 94) hx hb d_MO_findAlive_90 (by decide) ?_
    exact k_MO_findAlive_94 ha F hr hlk hK hT r2 hr2 r10 hr10 x1 x2 (y0 ||| ((1 : Int32) <<< (v4 &&& 31))) q1.2 q hf _ _ hP hS ls (lv_sub hl [1, 2, 3] rfl)
def b_MO_findAlive_48 (r2 : Int32 → SS → Option (SS)) (r10 : Int32 → Int32 → SS → Option (SS)) (x1 x2 y0 : Int32) (σ : SS) : Option (SS) :=
  (f_MO_readsA x2 σ).bind fun q1 => (if q1.1 = 0 then b_MO_findAlive_71 r2 r10 x1 x2 y0 q1.2 else (ld (q1.2 2) 40 x2).bind fun v4 => b_MO_findAlive_71 r2 r10 x1 x2 (y0 ||| ((1 : Int32) <<< (v4 &&& 31))) q1.2)
set_option maxHeartbeats 4000000 in
set_option maxRecDepth 100000 in
theorem k_MO_findAlive_48 {p : Program} {l : Launch} {e : Env} {s : State} {m : MethodId} {args : Array Value} {below : List Frame} {meth : Method} {c : Code} {D : va_G} {a t : Nat → Nat} {cI cZ : ClassId} (ha : aMC a) (F : CallFix p m c b_MO_findAlive 4 s args gt R_MO) (hr : meth.sig.returnType = none) (hlk : meth.locks = false) (hK : va_K D vwCl [(cI, .int), (cZ, .boolean)] s) (hT : stM t (aM a) s s.heap) (r2 : Int32 → SS → Option (SS)) (hr2 : ∀ (x1 : Int32) (σ : SS) (q : SS), r2 x1 σ = some q → ∀ (H : Heap) (locs : List Loc), va_P D vwCl ((wM a cI cZ) σ) H → va_S (aM a) s.heap H locs → ∀ (ls : Array Slot), lv_has ls 4 [(0, .ref (a 0)), (1, .int x1)] → W p l e { frames := 2, cells := 0, slots := 0, locals := 43 } s m args below meth c H locs 0 0 (MQ below (va_Qv (fun u => u = q) (pW D (wM a cI cZ) [(cI, .int), (cZ, .boolean)] (stM t) (aM a)) (aM a)) args s 0 0 (aM a)) (F0 m 2 ls [])) (r10 : Int32 → Int32 → SS → Option (SS)) (hr10 : ∀ (x1 x2 : Int32) (σ : SS) (q : SS), r10 x1 x2 σ = some q → ∀ (H : Heap) (locs : List Loc), va_P D vwCl ((wM a cI cZ) σ) H → va_S (aM a) s.heap H locs → ∀ (ls : Array Slot), lv_has ls 4 [(0, .ref (a 0)), (1, .int x1), (2, .int x2)] → W p l e { frames := 2, cells := 0, slots := 0, locals := 43 } s m args below meth c H locs 0 0 (MQ below (va_Qv (fun u => u = q) (pW D (wM a cI cZ) [(cI, .int), (cZ, .boolean)] (stM t) (aM a)) (aM a)) args s 0 0 (aM a)) (F0 m 10 ls [])) :
    ∀ (x1 x2 y0 : Int32) (σ : SS) (q : SS), b_MO_findAlive_48 r2 r10 x1 x2 y0 σ = some q → ∀ (H : Heap) (locs : List Loc), va_P D vwCl ((wM a cI cZ) σ) H → va_S (aM a) s.heap H locs → ∀ (ls : Array Slot), lv_has ls 4 [(0, .ref (a 0)), (1, .int x1), (2, .int x2)] → W p l e { frames := 2, cells := 0, slots := 0, locals := 43 } s m args below meth c H locs 0 0 (MQ below (va_Qv (fun u => u = q) (pW D (wM a cI cZ) [(cI, .int), (cZ, .boolean)] (stM t) (aM a)) (aM a)) args s 0 0 (aM a)) (F0 m 48 ls [.int y0]) := by
  obtain ⟨hx, hb, hml, hown, hg⟩ := id F
  intro x1 x2 y0 σ q hf H locs hP hS ls hl
  unfold b_MO_findAlive_48 at hf
  refine lv_istore_n (lv' := [(3, .int y0), (0, .ref (a 0)), (1, .int x1), (2, .int x2)]) hx hb d_MO_findAlive_48 rfl hl (by decide) rfl (fun ls hl => ?_)
  refine lv_aload_n hx hb d_MO_findAlive_49 rfl (lv_at hl 1 rfl) ?_
  refine lv_iload_n hx hb d_MO_findAlive_50 rfl (lv_at hl 3 rfl) ?_
  refine bdK hf (fun q1 h2 hf => ?_)
  refine rc_Vi (As := [.int x2]) (rest := []) (b := a 0) (stM_g t) F (c_MO_readsA l ha x2 σ q1 h2) (cwV 1 hg gc_MO_101 rfl rfl rfl hs_MO_readsA ⟨Nat.le_of_ble_eq_true rfl, Nat.le_of_ble_eq_true rfl⟩) hK hT hP hS (va_recv hK hP (ci := 6) (q0 := 0) rfl rfl) rfl hl.1 rfl (Nat.le_of_ble_eq_true rfl) d_MO_findAlive_51 ⟨Nat.zero_le _, Nat.zero_le _⟩ (fun H locs hP hS => ?_)
  refine lv_if_eq (tgt := 70) hx hb d_MO_findAlive_54 (by decide) (fun c3 => ?_) (fun c3 => ?_)
  · replace hf := (if_pos c3).symm.trans hf
    refine lv_iload_n hx hb d_MO_findAlive_70 rfl (lv_at hl 0 rfl) ?_
    exact k_MO_findAlive_71 ha F hr hlk hK hT r2 hr2 r10 hr10 x1 x2 y0 q1.2 q hf _ _ hP hS ls (lv_sub hl [1, 2, 3] rfl)
  · replace hf := (if_neg c3).symm.trans hf
    refine lv_iload_n hx hb d_MO_findAlive_57 rfl (lv_at hl 0 rfl) ?_
    refine lv_iconst (v := (1 : Int32)) hx hb d_MO_findAlive_58 (by decide) ?_
    refine lv_aload_n hx hb d_MO_findAlive_59 rfl (lv_at hl 1 rfl) ?_
    refine va_get (D := D) (ci := 6) (v := .ref (a 3)) (C := R_MO) (T := T_MO) (N := 26) hx hb hg in_MO hown hK hP 0 rfl rfl 4 (by decide) (hg _ gw_587) (fun _ h9 => h9) rfl d_MO_findAlive_60 ?_
    refine lv_iload_n hx hb d_MO_findAlive_63 rfl (lv_at hl 3 rfl) ?_
    refine bdK hf (fun v4 h5 hf => ?_)
    refine r_iald hx hb hK hP 3 0 rfl rfl h5 d_MO_findAlive_64 ?_
    refine lv_ishl hx hb d_MO_findAlive_65 ?_
    refine lv_ior hx hb d_MO_findAlive_66 ?_
    refine lv_goto (tgt := 71) hx hb d_MO_findAlive_67 (by decide) ?_
    exact k_MO_findAlive_71 ha F hr hlk hK hT r2 hr2 r10 hr10 x1 x2 (y0 ||| ((1 : Int32) <<< (v4 &&& 31))) q1.2 q hf _ _ hP hS ls (lv_sub hl [1, 2, 3] rfl)
def b_MO_findAlive_10 (r2 : Int32 → SS → Option (SS)) : Nat → Int32 → Int32 → SS → Option (SS)
  | 0, _, _, _ => none
  | n + 1, x1, x2, σ =>
    (if (σ 21 0) ≤ x2 then r2 x1 σ else (f_MO_behind x2 σ).bind fun q2 => (f_MO_isWriter x2 q2.2).bind fun q4 => (if q4.1 = 0 then b_MO_findAlive_48 r2 (b_MO_findAlive_10 r2 n) x1 x2 q2.1 q4.2 else (ld (q4.2 1) 40 x2).bind fun v7 => b_MO_findAlive_48 r2 (b_MO_findAlive_10 r2 n) x1 x2 (q2.1 &&& (((1 : Int32) <<< (v7 &&& 31)) ^^^ (-1 : Int32))) q4.2))
set_option maxHeartbeats 4000000 in
set_option maxRecDepth 100000 in
theorem k_MO_findAlive_10 {p : Program} {l : Launch} {e : Env} {s : State} {m : MethodId} {args : Array Value} {below : List Frame} {meth : Method} {c : Code} {D : va_G} {a t : Nat → Nat} {cI cZ : ClassId} (ha : aMC a) (F : CallFix p m c b_MO_findAlive 4 s args gt R_MO) (hr : meth.sig.returnType = none) (hlk : meth.locks = false) (hK : va_K D vwCl [(cI, .int), (cZ, .boolean)] s) (hT : stM t (aM a) s s.heap) (r2 : Int32 → SS → Option (SS)) (hr2 : ∀ (x1 : Int32) (σ : SS) (q : SS), r2 x1 σ = some q → ∀ (H : Heap) (locs : List Loc), va_P D vwCl ((wM a cI cZ) σ) H → va_S (aM a) s.heap H locs → ∀ (ls : Array Slot), lv_has ls 4 [(0, .ref (a 0)), (1, .int x1)] → W p l e { frames := 2, cells := 0, slots := 0, locals := 43 } s m args below meth c H locs 0 0 (MQ below (va_Qv (fun u => u = q) (pW D (wM a cI cZ) [(cI, .int), (cZ, .boolean)] (stM t) (aM a)) (aM a)) args s 0 0 (aM a)) (F0 m 2 ls [])) :
    ∀ (n : Nat) (x1 x2 : Int32) (σ : SS) (q : SS), b_MO_findAlive_10 r2 n x1 x2 σ = some q → ∀ (H : Heap) (locs : List Loc), va_P D vwCl ((wM a cI cZ) σ) H → va_S (aM a) s.heap H locs → ∀ (ls : Array Slot), lv_has ls 4 [(0, .ref (a 0)), (1, .int x1), (2, .int x2)] → W p l e { frames := 2, cells := 0, slots := 0, locals := 43 } s m args below meth c H locs 0 0 (MQ below (va_Qv (fun u => u = q) (pW D (wM a cI cZ) [(cI, .int), (cZ, .boolean)] (stM t) (aM a)) (aM a)) args s 0 0 (aM a)) (F0 m 10 ls []) := by
  obtain ⟨hx, hb, hml, hown, hg⟩ := id F
  intro n
  induction n with
  | zero =>
    intro x1 x2 σ q hf
    rw [b_MO_findAlive_10] at hf
    cases hf
  | succ n ih =>
    intro x1 x2 σ q hf H locs hP hS ls hl
    rw [b_MO_findAlive_10] at hf
    refine lv_iload_n hx hb d_MO_findAlive_10 rfl (lv_at hl 2 rfl) ?_
    refine lv_aload_n hx hb d_MO_findAlive_11 rfl (lv_at hl 0 rfl) ?_
    refine va_get (D := D) (ci := 6) (v := .int (σ 21 0)) (C := R_MO) (T := T_MO) (N := 26) hx hb hg in_MO hown hK hP 0 rfl rfl 1 (by decide) (hg _ gw_584) (fun _ h9 => h9) rfl d_MO_findAlive_12 ?_
    refine lv_icmp_ge (tgt := 128) hx hb d_MO_findAlive_15 (by decide) (fun c1 => ?_) (fun c1 => ?_)
    · replace hf := (if_pos c1).symm.trans hf
      refine lv_goto (tgt := 2) hx hb d_MO_findAlive_128 (by decide) ?_
      exact hr2 x1 σ q hf _ _ hP hS ls (lv_sub hl [0, 1] rfl)
    · replace hf := (if_neg c1).symm.trans hf
      refine lv_aload_n hx hb d_MO_findAlive_18 rfl (lv_at hl 0 rfl) ?_
      refine lv_iload_n hx hb d_MO_findAlive_19 rfl (lv_at hl 2 rfl) ?_
      refine bdK hf (fun q2 h3 hf => ?_)
      refine rc_Vi (As := [.int x2]) (rest := []) (b := a 0) (stM_g t) F (c_MO_behind l ha x2 σ q2 h3) (cwV 1 hg gc_MO_114 rfl rfl rfl hs_MO_behind ⟨Nat.le_of_ble_eq_true rfl, Nat.le_of_ble_eq_true rfl⟩) hK hT hP hS (va_recv hK hP (ci := 6) (q0 := 0) rfl rfl) rfl hl.1 rfl (Nat.le_of_ble_eq_true rfl) d_MO_findAlive_20 ⟨Nat.zero_le _, Nat.zero_le _⟩ (fun H locs hP hS => ?_)
      refine lv_istore_n (lv' := [(3, .int q2.1), (0, .ref (a 0)), (1, .int x1), (2, .int x2)]) hx hb d_MO_findAlive_23 rfl hl (by decide) rfl (fun ls hl => ?_)
      refine lv_aload_n hx hb d_MO_findAlive_24 rfl (lv_at hl 1 rfl) ?_
      refine lv_iload_n hx hb d_MO_findAlive_25 rfl (lv_at hl 3 rfl) ?_
      refine bdK hf (fun q4 h5 hf => ?_)
      refine rc_Vi (As := [.int x2]) (rest := []) (b := a 0) (stM_g t) F (c_MO_isWriter l ha x2 q2.2 q4 h5) (cwV 1 hg gc_MO_98 rfl rfl rfl hs_MO_isWriter ⟨Nat.le_of_ble_eq_true rfl, Nat.le_of_ble_eq_true rfl⟩) hK hT hP hS (va_recv hK hP (ci := 6) (q0 := 0) rfl rfl) rfl hl.1 rfl (Nat.le_of_ble_eq_true rfl) d_MO_findAlive_26 ⟨Nat.zero_le _, Nat.zero_le _⟩ (fun H locs hP hS => ?_)
      refine lv_if_eq (tgt := 47) hx hb d_MO_findAlive_29 (by decide) (fun c6 => ?_) (fun c6 => ?_)
      · replace hf := (if_pos c6).symm.trans hf
        refine lv_iload_n hx hb d_MO_findAlive_47 rfl (lv_at hl 0 rfl) ?_
        exact k_MO_findAlive_48 ha F hr hlk hK hT r2 hr2 (b_MO_findAlive_10 r2 n) ih x1 x2 q2.1 q4.2 q hf _ _ hP hS ls (lv_sub hl [1, 2, 3] rfl)
      · replace hf := (if_neg c6).symm.trans hf
        refine lv_iload_n hx hb d_MO_findAlive_32 rfl (lv_at hl 0 rfl) ?_
        refine lv_iconst (v := (1 : Int32)) hx hb d_MO_findAlive_33 (by decide) ?_
        refine lv_aload_n hx hb d_MO_findAlive_34 rfl (lv_at hl 1 rfl) ?_
        refine va_get (D := D) (ci := 6) (v := .ref (a 2)) (C := R_MO) (T := T_MO) (N := 26) hx hb hg in_MO hown hK hP 0 rfl rfl 3 (by decide) (hg _ gw_586) (fun _ h9 => h9) rfl d_MO_findAlive_35 ?_
        refine lv_iload_n hx hb d_MO_findAlive_38 rfl (lv_at hl 3 rfl) ?_
        refine bdK hf (fun v7 h8 hf => ?_)
        refine r_iald hx hb hK hP 2 0 rfl rfl h8 d_MO_findAlive_39 ?_
        refine lv_ishl hx hb d_MO_findAlive_40 ?_
        refine lv_iconst (v := (-1 : Int32)) hx hb d_MO_findAlive_41 (by decide) ?_
        refine lv_ixor hx hb d_MO_findAlive_42 ?_
        refine lv_iand hx hb d_MO_findAlive_43 ?_
        refine lv_goto (tgt := 48) hx hb d_MO_findAlive_44 (by decide) ?_
        exact k_MO_findAlive_48 ha F hr hlk hK hT r2 hr2 (b_MO_findAlive_10 r2 n) ih x1 x2 (q2.1 &&& (((1 : Int32) <<< (v7 &&& 31)) ^^^ (-1 : Int32))) q4.2 q hf _ _ hP hS ls (lv_sub hl [1, 2, 3] rfl)
def b_MO_findAlive_2 : Nat → Int32 → SS → Option (SS)
  | 0, _, _ => none
  | n + 1, x1, σ =>
    (if x1 = 0 then some σ else b_MO_findAlive_10 (b_MO_findAlive_2 n) FU (0 : Int32) (0 : Int32) σ)
set_option maxHeartbeats 4000000 in
set_option maxRecDepth 100000 in
theorem k_MO_findAlive_2 {p : Program} {l : Launch} {e : Env} {s : State} {m : MethodId} {args : Array Value} {below : List Frame} {meth : Method} {c : Code} {D : va_G} {a t : Nat → Nat} {cI cZ : ClassId} (ha : aMC a) (F : CallFix p m c b_MO_findAlive 4 s args gt R_MO) (hr : meth.sig.returnType = none) (hlk : meth.locks = false) (hK : va_K D vwCl [(cI, .int), (cZ, .boolean)] s) (hT : stM t (aM a) s s.heap) :
    ∀ (n : Nat) (x1 : Int32) (σ : SS) (q : SS), b_MO_findAlive_2 n x1 σ = some q → ∀ (H : Heap) (locs : List Loc), va_P D vwCl ((wM a cI cZ) σ) H → va_S (aM a) s.heap H locs → ∀ (ls : Array Slot), lv_has ls 4 [(0, .ref (a 0)), (1, .int x1)] → W p l e { frames := 2, cells := 0, slots := 0, locals := 43 } s m args below meth c H locs 0 0 (MQ below (va_Qv (fun u => u = q) (pW D (wM a cI cZ) [(cI, .int), (cZ, .boolean)] (stM t) (aM a)) (aM a)) args s 0 0 (aM a)) (F0 m 2 ls []) := by
  obtain ⟨hx, hb, hml, hown, hg⟩ := id F
  intro n
  induction n with
  | zero =>
    intro x1 σ q hf
    rw [b_MO_findAlive_2] at hf
    cases hf
  | succ n ih =>
    intro x1 σ q hf H locs hP hS ls hl
    rw [b_MO_findAlive_2] at hf
    refine lv_iload_n hx hb d_MO_findAlive_2 rfl (lv_at hl 1 rfl) ?_
    refine lv_if_eq (tgt := 131) hx hb d_MO_findAlive_3 (by decide) (fun c1 => ?_) (fun c1 => ?_)
    · replace hf := (if_pos c1).symm.trans hf
      exact rr_v hx hb hr hlk (stM_g t) hK hT hP hS hf d_MO_findAlive_131
    · replace hf := (if_neg c1).symm.trans hf
      refine lv_iconst (v := (0 : Int32)) hx hb d_MO_findAlive_6 (by decide) ?_
      refine lv_istore_n (lv' := [(1, .int (0 : Int32)), (0, .ref (a 0))]) hx hb d_MO_findAlive_7 rfl hl (by decide) rfl (fun ls hl => ?_)
      refine lv_iconst (v := (0 : Int32)) hx hb d_MO_findAlive_8 (by decide) ?_
      refine lv_istore_n (lv' := [(2, .int (0 : Int32)), (1, .int (0 : Int32)), (0, .ref (a 0))]) hx hb d_MO_findAlive_9 rfl hl (by decide) rfl (fun ls hl => ?_)
      exact k_MO_findAlive_10 ha F hr hlk hK hT (b_MO_findAlive_2 n) ih FU (0 : Int32) (0 : Int32) σ q hf _ _ hP hS ls (lv_sub hl [2, 1, 0] rfl)
def f_MO_findAlive (σ : SS) : Option (SS) :=
  b_MO_findAlive_2 FU (1 : Int32) σ
set_option maxHeartbeats 4000000 in
set_option maxRecDepth 100000 in
theorem e_MO_findAlive {p : Program} {l : Launch} {e : Env} {s : State} {m : MethodId} {args : Array Value} {below : List Frame} {meth : Method} {c : Code} {D : va_G} {a t : Nat → Nat} {cI cZ : ClassId} (ha : aMC a) (F : CallFix p m c b_MO_findAlive 4 s args gt R_MO) (hr : meth.sig.returnType = none) (hlk : meth.locks = false) (hK : va_K D vwCl [(cI, .int), (cZ, .boolean)] s) (hT : stM t (aM a) s s.heap) :
    ∀ (σ : SS) (q : SS), f_MO_findAlive σ = some q → ∀ (H : Heap) (locs : List Loc), va_P D vwCl ((wM a cI cZ) σ) H → va_S (aM a) s.heap H locs → ∀ (ls : Array Slot), lv_has ls 4 [(0, .ref (a 0))] → W p l e { frames := 2, cells := 0, slots := 0, locals := 43 } s m args below meth c H locs 0 0 (MQ below (va_Qv (fun u => u = q) (pW D (wM a cI cZ) [(cI, .int), (cZ, .boolean)] (stM t) (aM a)) (aM a)) args s 0 0 (aM a)) (F0 m 0 ls []) := by
  obtain ⟨hx, hb, hml, hown, hg⟩ := id F
  intro σ q hf H locs hP hS ls hl
  unfold f_MO_findAlive at hf
  refine lv_iconst (v := (1 : Int32)) hx hb d_MO_findAlive_0 (by decide) ?_
  refine lv_istore_n (lv' := [(1, .int (1 : Int32)), (0, .ref (a 0))]) hx hb d_MO_findAlive_1 rfl hl (by decide) rfl (fun ls hl => ?_)
  exact k_MO_findAlive_2 ha F hr hlk hK hT FU (1 : Int32) σ q hf _ _ hP hS ls (lv_sub hl [1, 0] rfl)
set_option maxHeartbeats 4000000 in
set_option maxRecDepth 100000 in
theorem c_MO_findAlive (l : Launch) {D : va_G} {a t : Nat → Nat} {cI cZ : ClassId} (ha : aMC a) (σ : SS) (q : SS) (hf : f_MO_findAlive σ = some q) : Met l y_MO_findAlive ws_MO_findAlive { frames := 2, cells := 0, slots := 0, locals := 43 } (va_Pc [.ref (a 0)] (pW D (wM a cI cZ) [(cI, .int), (cZ, .boolean)] (stM t) (aM a) σ)) (va_Qv (fun u => u = q) (pW D (wM a cI cZ) [(cI, .int), (cZ, .boolean)] (stM t) (aM a)) (aM a)) 0 0 (aM a) := by
  refine Met.ofW (cc := b_MO_findAlive) (maxL := 4) (ret := none) (by decide) rfl ?_
  intro p e s m args below meth c s₁ B hml hv
  obtain ⟨rfl, hP, hK, hT⟩ := hv
  have hl := lv_entry ([.ref (a 0)]) (n := 4) (Nat.le_of_ble_eq_true rfl)
  rw [lg_entry_eq]
  generalize (lg_sl ([.ref (a 0)]) ++ List.replicate (4 - (lg_sl ([.ref (a 0)])).length) Slot.unset).toArray = ls at hl ⊢
  exact e_MO_findAlive ha ⟨B.exec, B.bytes, hml, findClass_of_methodNamed B.named, fun w h => atoms_spec (ws := ws_MO_findAlive) B.pre w (List.mem_cons_of_mem _ h)⟩ B.returns B.notSynchronized hK hT σ q hf s.heap [] hP va_S.rf ls hl
theorem d_MO_blockEnd_0 : decode b_MO_blockEnd 0 = .ok (.iload_n 1, 1) := by decide +kernel
theorem d_MO_blockEnd_1 : decode b_MO_blockEnd 1 = .ok (.istore_n 2, 1) := by decide +kernel
theorem d_MO_blockEnd_2 : decode b_MO_blockEnd 2 = .ok (.aload_n 0, 1) := by decide +kernel
theorem d_MO_blockEnd_3 : decode b_MO_blockEnd 3 = .ok (.getfield 22, 3) := by decide +kernel
theorem d_MO_blockEnd_6 : decode b_MO_blockEnd 6 = .ok (.iload_n 2, 1) := by decide +kernel
theorem d_MO_blockEnd_7 : decode b_MO_blockEnd 7 = .ok (.iconst 1, 1) := by decide +kernel
theorem d_MO_blockEnd_8 : decode b_MO_blockEnd 8 = .ok (.iadd, 1) := by decide +kernel
theorem d_MO_blockEnd_9 : decode b_MO_blockEnd 9 = .ok (.baload, 1) := by decide +kernel
theorem d_MO_blockEnd_10 : decode b_MO_blockEnd 10 = .ok (.ifCond .ne 10, 3) := by decide +kernel
theorem d_MO_blockEnd_13 : decode b_MO_blockEnd 13 = .ok (.iload_n 2, 1) := by decide +kernel
theorem d_MO_blockEnd_14 : decode b_MO_blockEnd 14 = .ok (.iconst 1, 1) := by decide +kernel
theorem d_MO_blockEnd_15 : decode b_MO_blockEnd 15 = .ok (.iadd, 1) := by decide +kernel
theorem d_MO_blockEnd_16 : decode b_MO_blockEnd 16 = .ok (.istore_n 2, 1) := by decide +kernel
theorem d_MO_blockEnd_17 : decode b_MO_blockEnd 17 = .ok (.goto (-15), 3) := by decide +kernel
theorem d_MO_blockEnd_20 : decode b_MO_blockEnd 20 = .ok (.iload_n 2, 1) := by decide +kernel
theorem d_MO_blockEnd_21 : decode b_MO_blockEnd 21 = .ok (.ireturn, 1) := by decide +kernel
def b_MO_blockEnd_2 : Nat → Int32 → SS → Option (Int32 × SS)
  | 0, _, _ => none
  | n + 1, x2, σ =>
    (ld (σ 4) 42 (x2 + (1 : Int32))).bind fun v1 => (if v1 = 0 then b_MO_blockEnd_2 n (x2 + (1 : Int32)) σ else some (x2, σ))
set_option maxHeartbeats 4000000 in
set_option maxRecDepth 100000 in
theorem k_MO_blockEnd_2 {p : Program} {l : Launch} {e : Env} {s : State} {m : MethodId} {args : Array Value} {below : List Frame} {meth : Method} {c : Code} {D : va_G} {a t : Nat → Nat} {cI cZ : ClassId} (ha : aMC a) (F : CallFix p m c b_MO_blockEnd 3 s args gt R_MO) (hr : meth.sig.returnType = some .int) (hlk : meth.locks = false) (hK : va_K D vwCl [(cI, .int), (cZ, .boolean)] s) (hT : stM t (aM a) s s.heap) :
    ∀ (n : Nat) (x2 : Int32) (σ : SS) (q : Int32 × SS), b_MO_blockEnd_2 n x2 σ = some q → ∀ (H : Heap) (locs : List Loc), va_P D vwCl ((wM a cI cZ) σ) H → va_S (aM a) s.heap H locs → ∀ (ls : Array Slot), lv_has ls 3 [(0, .ref (a 0)), (2, .int x2)] → W p l e { frames := 0, cells := 0, slots := 0, locals := 0 } s m args below meth c H locs 0 0 (MQ below (va_Qi (fun r u => r = q.1 ∧ u = q.2) (pW D (wM a cI cZ) [(cI, .int), (cZ, .boolean)] (stM t) (aM a)) (aM a)) args s 0 0 (aM a)) (F0 m 2 ls []) := by
  obtain ⟨hx, hb, hml, hown, hg⟩ := id F
  intro n
  induction n with
  | zero =>
    intro x2 σ q hf
    rw [b_MO_blockEnd_2] at hf
    cases hf
  | succ n ih =>
    intro x2 σ q hf H locs hP hS ls hl
    rw [b_MO_blockEnd_2] at hf
    refine lv_aload_n hx hb d_MO_blockEnd_2 rfl (lv_at hl 0 rfl) ?_
    refine va_get (D := D) (ci := 6) (v := .ref (a 5)) (C := R_MO) (T := T_MO) (N := 26) hx hb hg in_MO hown hK hP 0 rfl rfl 7 (by decide) (hg _ gw_590) (fun _ h9 => h9) rfl d_MO_blockEnd_3 ?_
    refine lv_iload_n hx hb d_MO_blockEnd_6 rfl (lv_at hl 1 rfl) ?_
    refine lv_iconst (v := (1 : Int32)) hx hb d_MO_blockEnd_7 (by decide) ?_
    refine lv_iadd hx hb d_MO_blockEnd_8 ?_
    refine bdK hf (fun v1 h2 hf => ?_)
    refine r_zald hx hb hK hP 5 1 rfl rfl h2 d_MO_blockEnd_9 ?_
    refine lv_if_ne (tgt := 20) hx hb d_MO_blockEnd_10 (by decide) (fun c3 => ?_) (fun c3 => ?_)
    · replace hf := (if_neg c3).symm.trans hf
      refine lv_iload_n hx hb d_MO_blockEnd_20 rfl (lv_at hl 1 rfl) ?_
      exact rr_i hx hb hr hlk (stM_g t) hK hT hP hS hf d_MO_blockEnd_21
    · replace hf := (if_pos c3).symm.trans hf
      refine lv_iload_n hx hb d_MO_blockEnd_13 rfl (lv_at hl 1 rfl) ?_
      refine lv_iconst (v := (1 : Int32)) hx hb d_MO_blockEnd_14 (by decide) ?_
      refine lv_iadd hx hb d_MO_blockEnd_15 ?_
      refine lv_istore_n (lv' := [(2, .int (x2 + (1 : Int32))), (0, .ref (a 0))]) hx hb d_MO_blockEnd_16 rfl hl (by decide) rfl (fun ls hl => ?_)
      refine lv_goto (tgt := 2) hx hb d_MO_blockEnd_17 (by decide) ?_
      exact ih (x2 + (1 : Int32)) σ q hf _ _ hP hS ls (lv_sub hl [1, 0] rfl)
def f_MO_blockEnd (x1 : Int32) (σ : SS) : Option (Int32 × SS) :=
  b_MO_blockEnd_2 FU x1 σ
set_option maxHeartbeats 4000000 in
set_option maxRecDepth 100000 in
theorem e_MO_blockEnd {p : Program} {l : Launch} {e : Env} {s : State} {m : MethodId} {args : Array Value} {below : List Frame} {meth : Method} {c : Code} {D : va_G} {a t : Nat → Nat} {cI cZ : ClassId} (ha : aMC a) (F : CallFix p m c b_MO_blockEnd 3 s args gt R_MO) (hr : meth.sig.returnType = some .int) (hlk : meth.locks = false) (hK : va_K D vwCl [(cI, .int), (cZ, .boolean)] s) (hT : stM t (aM a) s s.heap) :
    ∀ (x1 : Int32) (σ : SS) (q : Int32 × SS), f_MO_blockEnd x1 σ = some q → ∀ (H : Heap) (locs : List Loc), va_P D vwCl ((wM a cI cZ) σ) H → va_S (aM a) s.heap H locs → ∀ (ls : Array Slot), lv_has ls 3 [(0, .ref (a 0)), (1, .int x1)] → W p l e { frames := 0, cells := 0, slots := 0, locals := 0 } s m args below meth c H locs 0 0 (MQ below (va_Qi (fun r u => r = q.1 ∧ u = q.2) (pW D (wM a cI cZ) [(cI, .int), (cZ, .boolean)] (stM t) (aM a)) (aM a)) args s 0 0 (aM a)) (F0 m 0 ls []) := by
  obtain ⟨hx, hb, hml, hown, hg⟩ := id F
  intro x1 σ q hf H locs hP hS ls hl
  unfold f_MO_blockEnd at hf
  refine lv_iload_n hx hb d_MO_blockEnd_0 rfl (lv_at hl 1 rfl) ?_
  refine lv_istore_n (lv' := [(2, .int x1), (0, .ref (a 0)), (1, .int x1)]) hx hb d_MO_blockEnd_1 rfl hl (by decide) rfl (fun ls hl => ?_)
  exact k_MO_blockEnd_2 ha F hr hlk hK hT FU x1 σ q hf _ _ hP hS ls (lv_sub hl [1, 0] rfl)
set_option maxHeartbeats 4000000 in
set_option maxRecDepth 100000 in
theorem c_MO_blockEnd (l : Launch) {D : va_G} {a t : Nat → Nat} {cI cZ : ClassId} (ha : aMC a) (x1 : Int32) (σ : SS) (q : Int32 × SS) (hf : f_MO_blockEnd x1 σ = some q) : Met l y_MO_blockEnd ws_MO_blockEnd { frames := 0, cells := 0, slots := 0, locals := 0 } (va_Pc [.ref (a 0), .int x1] (pW D (wM a cI cZ) [(cI, .int), (cZ, .boolean)] (stM t) (aM a) σ)) (va_Qi (fun r u => r = q.1 ∧ u = q.2) (pW D (wM a cI cZ) [(cI, .int), (cZ, .boolean)] (stM t) (aM a)) (aM a)) 0 0 (aM a) := by
  refine Met.ofW (cc := b_MO_blockEnd) (maxL := 3) (ret := some .int) (by decide) rfl ?_
  intro p e s m args below meth c s₁ B hml hv
  obtain ⟨rfl, hP, hK, hT⟩ := hv
  have hl := lv_entry ([.ref (a 0), .int x1]) (n := 3) (Nat.le_of_ble_eq_true rfl)
  rw [lg_entry_eq]
  generalize (lg_sl ([.ref (a 0), .int x1]) ++ List.replicate (3 - (lg_sl ([.ref (a 0), .int x1])).length) Slot.unset).toArray = ls at hl ⊢
  exact e_MO_blockEnd ha ⟨B.exec, B.bytes, hml, findClass_of_methodNamed B.named, fun w h => atoms_spec (ws := ws_MO_blockEnd) B.pre w (List.mem_cons_of_mem _ h)⟩ B.returns B.notSynchronized hK hT x1 σ q hf s.heap [] hP va_S.rf ls hl
theorem d_MO_writerBefore_0 : decode b_MO_writerBefore 0 = .ok (.iload_n 1, 1) := by decide +kernel
theorem d_MO_writerBefore_1 : decode b_MO_writerBefore 1 = .ok (.istore_n 3, 1) := by decide +kernel
theorem d_MO_writerBefore_2 : decode b_MO_writerBefore 2 = .ok (.aload_n 0, 1) := by decide +kernel
theorem d_MO_writerBefore_3 : decode b_MO_writerBefore 3 = .ok (.getfield 22, 3) := by decide +kernel
theorem d_MO_writerBefore_6 : decode b_MO_writerBefore 6 = .ok (.iload_n 3, 1) := by decide +kernel
theorem d_MO_writerBefore_7 : decode b_MO_writerBefore 7 = .ok (.baload, 1) := by decide +kernel
theorem d_MO_writerBefore_8 : decode b_MO_writerBefore 8 = .ok (.ifCond .ne 18, 3) := by decide +kernel
theorem d_MO_writerBefore_11 : decode b_MO_writerBefore 11 = .ok (.iload_n 3, 1) := by decide +kernel
theorem d_MO_writerBefore_12 : decode b_MO_writerBefore 12 = .ok (.iconst 1, 1) := by decide +kernel
theorem d_MO_writerBefore_13 : decode b_MO_writerBefore 13 = .ok (.isub, 1) := by decide +kernel
theorem d_MO_writerBefore_14 : decode b_MO_writerBefore 14 = .ok (.istore_n 3, 1) := by decide +kernel
theorem d_MO_writerBefore_15 : decode b_MO_writerBefore 15 = .ok (.aload_n 0, 1) := by decide +kernel
theorem d_MO_writerBefore_16 : decode b_MO_writerBefore 16 = .ok (.iload_n 3, 1) := by decide +kernel
theorem d_MO_writerBefore_17 : decode b_MO_writerBefore 17 = .ok (.iload_n 2, 1) := by decide +kernel
theorem d_MO_writerBefore_18 : decode b_MO_writerBefore 18 = .ok (.invokevirtual 117, 3) := by decide +kernel
theorem d_MO_writerBefore_21 : decode b_MO_writerBefore 21 = .ok (.ifCond .eq (-19), 3) := by decide +kernel
theorem d_MO_writerBefore_24 : decode b_MO_writerBefore 24 = .ok (.iload_n 3, 1) := by decide +kernel
theorem d_MO_writerBefore_25 : decode b_MO_writerBefore 25 = .ok (.ireturn, 1) := by decide +kernel
theorem d_MO_writerBefore_26 : decode b_MO_writerBefore 26 = .ok (.iconst (-1), 1) := by decide +kernel
theorem d_MO_writerBefore_27 : decode b_MO_writerBefore 27 = .ok (.ireturn, 1) := by decide +kernel
theorem gc_MO_117 : GoodIn gt (wsV R_MO 117 R_MO y_MO_writes ws_MO_writes) := gd_V gw_739 gw_741 gs_46 gw_7 gw_742
def b_MO_writerBefore_2 : Nat → Int32 → Int32 → SS → Option (Int32 × SS)
  | 0, _, _, _ => none
  | n + 1, x2, x3, σ =>
    (ld (σ 4) 42 x3).bind fun v1 => (if v1 = 0 then (f_MO_writes (x3 - (1 : Int32)) x2 σ).bind fun q4 => (if q4.1 = 0 then b_MO_writerBefore_2 n x2 (x3 - (1 : Int32)) q4.2 else some ((x3 - (1 : Int32)), q4.2)) else some ((-1 : Int32), σ))
set_option maxHeartbeats 4000000 in
set_option maxRecDepth 100000 in
theorem k_MO_writerBefore_2 {p : Program} {l : Launch} {e : Env} {s : State} {m : MethodId} {args : Array Value} {below : List Frame} {meth : Method} {c : Code} {D : va_G} {a t : Nat → Nat} {cI cZ : ClassId} (ha : aMC a) (F : CallFix p m c b_MO_writerBefore 4 s args gt R_MO) (hr : meth.sig.returnType = some .int) (hlk : meth.locks = false) (hK : va_K D vwCl [(cI, .int), (cZ, .boolean)] s) (hT : stM t (aM a) s s.heap) :
    ∀ (n : Nat) (x2 x3 : Int32) (σ : SS) (q : Int32 × SS), b_MO_writerBefore_2 n x2 x3 σ = some q → ∀ (H : Heap) (locs : List Loc), va_P D vwCl ((wM a cI cZ) σ) H → va_S (aM a) s.heap H locs → ∀ (ls : Array Slot), lv_has ls 4 [(0, .ref (a 0)), (2, .int x2), (3, .int x3)] → W p l e { frames := 2, cells := 0, slots := 0, locals := 43 } s m args below meth c H locs 0 0 (MQ below (va_Qi (fun r u => r = q.1 ∧ u = q.2) (pW D (wM a cI cZ) [(cI, .int), (cZ, .boolean)] (stM t) (aM a)) (aM a)) args s 0 0 (aM a)) (F0 m 2 ls []) := by
  obtain ⟨hx, hb, hml, hown, hg⟩ := id F
  intro n
  induction n with
  | zero =>
    intro x2 x3 σ q hf
    rw [b_MO_writerBefore_2] at hf
    cases hf
  | succ n ih =>
    intro x2 x3 σ q hf H locs hP hS ls hl
    rw [b_MO_writerBefore_2] at hf
    refine lv_aload_n hx hb d_MO_writerBefore_2 rfl (lv_at hl 0 rfl) ?_
    refine va_get (D := D) (ci := 6) (v := .ref (a 5)) (C := R_MO) (T := T_MO) (N := 26) hx hb hg in_MO hown hK hP 0 rfl rfl 7 (by decide) (hg _ gw_590) (fun _ h9 => h9) rfl d_MO_writerBefore_3 ?_
    refine lv_iload_n hx hb d_MO_writerBefore_6 rfl (lv_at hl 2 rfl) ?_
    refine bdK hf (fun v1 h2 hf => ?_)
    refine r_zald hx hb hK hP 5 1 rfl rfl h2 d_MO_writerBefore_7 ?_
    refine lv_if_ne (tgt := 26) hx hb d_MO_writerBefore_8 (by decide) (fun c3 => ?_) (fun c3 => ?_)
    · replace hf := (if_neg c3).symm.trans hf
      refine lv_iconst (v := (-1 : Int32)) hx hb d_MO_writerBefore_26 (by decide) ?_
      exact rr_i hx hb hr hlk (stM_g t) hK hT hP hS hf d_MO_writerBefore_27
    · replace hf := (if_pos c3).symm.trans hf
      refine lv_iload_n hx hb d_MO_writerBefore_11 rfl (lv_at hl 2 rfl) ?_
      refine lv_iconst (v := (1 : Int32)) hx hb d_MO_writerBefore_12 (by decide) ?_
      refine lv_isub hx hb d_MO_writerBefore_13 ?_
      refine lv_istore_n (lv' := [(3, .int (x3 - (1 : Int32))), (0, .ref (a 0)), (2, .int x2)]) hx hb d_MO_writerBefore_14 rfl hl (by decide) rfl (fun ls hl => ?_)
      refine lv_aload_n hx hb d_MO_writerBefore_15 rfl (lv_at hl 1 rfl) ?_
      refine lv_iload_n hx hb d_MO_writerBefore_16 rfl (lv_at hl 0 rfl) ?_
      refine lv_iload_n hx hb d_MO_writerBefore_17 rfl (lv_at hl 2 rfl) ?_
      refine bdK hf (fun q4 h5 hf => ?_)
      refine rc_Vi (As := [.int (x3 - (1 : Int32)), .int x2]) (rest := []) (b := a 0) (stM_g t) F (c_MO_writes l ha (x3 - (1 : Int32)) x2 σ q4 h5) (cwV 2 hg gc_MO_117 rfl rfl rfl hs_MO_writes ⟨Nat.le_of_ble_eq_true rfl, Nat.le_of_ble_eq_true rfl⟩) hK hT hP hS (va_recv hK hP (ci := 6) (q0 := 0) rfl rfl) rfl hl.1 rfl (Nat.le_of_ble_eq_true rfl) d_MO_writerBefore_18 ⟨Nat.zero_le _, Nat.zero_le _⟩ (fun H locs hP hS => ?_)
      refine lv_if_eq (tgt := 2) hx hb d_MO_writerBefore_21 (by decide) (fun c6 => ?_) (fun c6 => ?_)
      · replace hf := (if_pos c6).symm.trans hf
        exact ih x2 (x3 - (1 : Int32)) q4.2 q hf _ _ hP hS ls (lv_sub hl [1, 2, 0] rfl)
      · replace hf := (if_neg c6).symm.trans hf
        refine lv_iload_n hx hb d_MO_writerBefore_24 rfl (lv_at hl 0 rfl) ?_
        exact rr_i hx hb hr hlk (stM_g t) hK hT hP hS hf d_MO_writerBefore_25
def f_MO_writerBefore (x1 x2 : Int32) (σ : SS) : Option (Int32 × SS) :=
  b_MO_writerBefore_2 FU x2 x1 σ
set_option maxHeartbeats 4000000 in
set_option maxRecDepth 100000 in
theorem e_MO_writerBefore {p : Program} {l : Launch} {e : Env} {s : State} {m : MethodId} {args : Array Value} {below : List Frame} {meth : Method} {c : Code} {D : va_G} {a t : Nat → Nat} {cI cZ : ClassId} (ha : aMC a) (F : CallFix p m c b_MO_writerBefore 4 s args gt R_MO) (hr : meth.sig.returnType = some .int) (hlk : meth.locks = false) (hK : va_K D vwCl [(cI, .int), (cZ, .boolean)] s) (hT : stM t (aM a) s s.heap) :
    ∀ (x1 x2 : Int32) (σ : SS) (q : Int32 × SS), f_MO_writerBefore x1 x2 σ = some q → ∀ (H : Heap) (locs : List Loc), va_P D vwCl ((wM a cI cZ) σ) H → va_S (aM a) s.heap H locs → ∀ (ls : Array Slot), lv_has ls 4 [(0, .ref (a 0)), (1, .int x1), (2, .int x2)] → W p l e { frames := 2, cells := 0, slots := 0, locals := 43 } s m args below meth c H locs 0 0 (MQ below (va_Qi (fun r u => r = q.1 ∧ u = q.2) (pW D (wM a cI cZ) [(cI, .int), (cZ, .boolean)] (stM t) (aM a)) (aM a)) args s 0 0 (aM a)) (F0 m 0 ls []) := by
  obtain ⟨hx, hb, hml, hown, hg⟩ := id F
  intro x1 x2 σ q hf H locs hP hS ls hl
  unfold f_MO_writerBefore at hf
  refine lv_iload_n hx hb d_MO_writerBefore_0 rfl (lv_at hl 1 rfl) ?_
  refine lv_istore_n (lv' := [(3, .int x1), (0, .ref (a 0)), (1, .int x1), (2, .int x2)]) hx hb d_MO_writerBefore_1 rfl hl (by decide) rfl (fun ls hl => ?_)
  exact k_MO_writerBefore_2 ha F hr hlk hK hT FU x2 x1 σ q hf _ _ hP hS ls (lv_sub hl [1, 3, 0] rfl)
set_option maxHeartbeats 4000000 in
set_option maxRecDepth 100000 in
theorem c_MO_writerBefore (l : Launch) {D : va_G} {a t : Nat → Nat} {cI cZ : ClassId} (ha : aMC a) (x1 x2 : Int32) (σ : SS) (q : Int32 × SS) (hf : f_MO_writerBefore x1 x2 σ = some q) : Met l y_MO_writerBefore ws_MO_writerBefore { frames := 2, cells := 0, slots := 0, locals := 43 } (va_Pc [.ref (a 0), .int x1, .int x2] (pW D (wM a cI cZ) [(cI, .int), (cZ, .boolean)] (stM t) (aM a) σ)) (va_Qi (fun r u => r = q.1 ∧ u = q.2) (pW D (wM a cI cZ) [(cI, .int), (cZ, .boolean)] (stM t) (aM a)) (aM a)) 0 0 (aM a) := by
  refine Met.ofW (cc := b_MO_writerBefore) (maxL := 4) (ret := some .int) (by decide) rfl ?_
  intro p e s m args below meth c s₁ B hml hv
  obtain ⟨rfl, hP, hK, hT⟩ := hv
  have hl := lv_entry ([.ref (a 0), .int x1, .int x2]) (n := 4) (Nat.le_of_ble_eq_true rfl)
  rw [lg_entry_eq]
  generalize (lg_sl ([.ref (a 0), .int x1, .int x2]) ++ List.replicate (4 - (lg_sl ([.ref (a 0), .int x1, .int x2])).length) Slot.unset).toArray = ls at hl ⊢
  exact e_MO_writerBefore ha ⟨B.exec, B.bytes, hml, findClass_of_methodNamed B.named, fun w h => atoms_spec (ws := ws_MO_writerBefore) B.pre w (List.mem_cons_of_mem _ h)⟩ B.returns B.notSynchronized hK hT x1 x2 σ q hf s.heap [] hP va_S.rf ls hl
theorem d_MO_nextWriter_0 : decode b_MO_nextWriter 0 = .ok (.aload_n 0, 1) := by decide +kernel
theorem d_MO_nextWriter_1 : decode b_MO_nextWriter 1 = .ok (.iload_n 1, 1) := by decide +kernel
theorem d_MO_nextWriter_2 : decode b_MO_nextWriter 2 = .ok (.invokevirtual 121, 3) := by decide +kernel
theorem d_MO_nextWriter_5 : decode b_MO_nextWriter 5 = .ok (.istore_n 2, 1) := by decide +kernel
theorem d_MO_nextWriter_6 : decode b_MO_nextWriter 6 = .ok (.iconst (-1), 1) := by decide +kernel
theorem d_MO_nextWriter_7 : decode b_MO_nextWriter 7 = .ok (.istore_n 3, 1) := by decide +kernel
theorem d_MO_nextWriter_8 : decode b_MO_nextWriter 8 = .ok (.iload_n 2, 1) := by decide +kernel
theorem d_MO_nextWriter_9 : decode b_MO_nextWriter 9 = .ok (.istore 4, 2) := by decide +kernel
theorem d_MO_nextWriter_11 : decode b_MO_nextWriter 11 = .ok (.iload 4, 2) := by decide +kernel
theorem d_MO_nextWriter_13 : decode b_MO_nextWriter 13 = .ok (.iload_n 1, 1) := by decide +kernel
theorem d_MO_nextWriter_14 : decode b_MO_nextWriter 14 = .ok (.if_icmp .le 31, 3) := by decide +kernel
theorem d_MO_nextWriter_17 : decode b_MO_nextWriter 17 = .ok (.aload_n 0, 1) := by decide +kernel
theorem d_MO_nextWriter_18 : decode b_MO_nextWriter 18 = .ok (.iload 4, 2) := by decide +kernel
theorem d_MO_nextWriter_20 : decode b_MO_nextWriter 20 = .ok (.aload_n 0, 1) := by decide +kernel
theorem d_MO_nextWriter_21 : decode b_MO_nextWriter 21 = .ok (.getfield 13, 3) := by decide +kernel
theorem d_MO_nextWriter_24 : decode b_MO_nextWriter 24 = .ok (.iload_n 1, 1) := by decide +kernel
theorem d_MO_nextWriter_25 : decode b_MO_nextWriter 25 = .ok (.iaload, 1) := by decide +kernel
theorem d_MO_nextWriter_26 : decode b_MO_nextWriter 26 = .ok (.invokevirtual 117, 3) := by decide +kernel
theorem d_MO_nextWriter_29 : decode b_MO_nextWriter 29 = .ok (.ifCond .eq 8, 3) := by decide +kernel
theorem d_MO_nextWriter_32 : decode b_MO_nextWriter 32 = .ok (.iload 4, 2) := by decide +kernel
theorem d_MO_nextWriter_34 : decode b_MO_nextWriter 34 = .ok (.goto 4, 3) := by decide +kernel
theorem d_MO_nextWriter_37 : decode b_MO_nextWriter 37 = .ok (.iload_n 3, 1) := by decide +kernel
theorem d_MO_nextWriter_38 : decode b_MO_nextWriter 38 = .ok (.istore_n 3, 1) := by decide +kernel
theorem d_MO_nextWriter_39 : decode b_MO_nextWriter 39 = .ok (.iinc 4 (-1), 3) := by decide +kernel
theorem d_MO_nextWriter_42 : decode b_MO_nextWriter 42 = .ok (.goto (-31), 3) := by decide +kernel
theorem d_MO_nextWriter_45 : decode b_MO_nextWriter 45 = .ok (.iload_n 3, 1) := by decide +kernel
theorem d_MO_nextWriter_46 : decode b_MO_nextWriter 46 = .ok (.ireturn, 1) := by decide +kernel
theorem gc_MO_121 : GoodIn gt (wsV R_MO 121 R_MO y_MO_blockEnd ws_MO_blockEnd) := gd_V gw_751 gw_753 gs_49 gw_7 gw_754
def b_MO_nextWriter_11 : Nat → Int32 → Int32 → Int32 → SS → Option (Int32 × SS)
  | 0, _, _, _, _ => none
  | n + 1, x1, x3, x4, σ =>
    (if x4 ≤ x1 then some (x3, σ) else (ld (σ 1) 40 x1).bind fun v2 => (f_MO_writes x4 v2 σ).bind fun q4 => (if q4.1 = 0 then b_MO_nextWriter_11 n x1 x3 (x4 + (-1 : Int32)) q4.2 else b_MO_nextWriter_11 n x1 x4 (x4 + (-1 : Int32)) q4.2))
set_option maxHeartbeats 4000000 in
set_option maxRecDepth 100000 in
theorem k_MO_nextWriter_11 {p : Program} {l : Launch} {e : Env} {s : State} {m : MethodId} {args : Array Value} {below : List Frame} {meth : Method} {c : Code} {D : va_G} {a t : Nat → Nat} {cI cZ : ClassId} (ha : aMC a) (F : CallFix p m c b_MO_nextWriter 5 s args gt R_MO) (hr : meth.sig.returnType = some .int) (hlk : meth.locks = false) (hK : va_K D vwCl [(cI, .int), (cZ, .boolean)] s) (hT : stM t (aM a) s s.heap) :
    ∀ (n : Nat) (x1 x3 x4 : Int32) (σ : SS) (q : Int32 × SS), b_MO_nextWriter_11 n x1 x3 x4 σ = some q → ∀ (H : Heap) (locs : List Loc), va_P D vwCl ((wM a cI cZ) σ) H → va_S (aM a) s.heap H locs → ∀ (ls : Array Slot), lv_has ls 5 [(0, .ref (a 0)), (1, .int x1), (3, .int x3), (4, .int x4)] → W p l e { frames := 2, cells := 0, slots := 0, locals := 43 } s m args below meth c H locs 0 0 (MQ below (va_Qi (fun r u => r = q.1 ∧ u = q.2) (pW D (wM a cI cZ) [(cI, .int), (cZ, .boolean)] (stM t) (aM a)) (aM a)) args s 0 0 (aM a)) (F0 m 11 ls []) := by
  obtain ⟨hx, hb, hml, hown, hg⟩ := id F
  intro n
  induction n with
  | zero =>
    intro x1 x3 x4 σ q hf
    rw [b_MO_nextWriter_11] at hf
    cases hf
  | succ n ih =>
    intro x1 x3 x4 σ q hf H locs hP hS ls hl
    rw [b_MO_nextWriter_11] at hf
    refine lv_iload hx hb d_MO_nextWriter_11 (lv_at hl 3 rfl) ?_
    refine lv_iload_n hx hb d_MO_nextWriter_13 rfl (lv_at hl 1 rfl) ?_
    refine lv_icmp_le (tgt := 45) hx hb d_MO_nextWriter_14 (by decide) (fun c1 => ?_) (fun c1 => ?_)
    · replace hf := (if_pos c1).symm.trans hf
      refine lv_iload_n hx hb d_MO_nextWriter_45 rfl (lv_at hl 2 rfl) ?_
      exact rr_i hx hb hr hlk (stM_g t) hK hT hP hS hf d_MO_nextWriter_46
    · replace hf := (if_neg c1).symm.trans hf
      refine lv_aload_n hx hb d_MO_nextWriter_17 rfl (lv_at hl 0 rfl) ?_
      refine lv_iload hx hb d_MO_nextWriter_18 (lv_at hl 3 rfl) ?_
      refine lv_aload_n hx hb d_MO_nextWriter_20 rfl (lv_at hl 0 rfl) ?_
      refine va_get (D := D) (ci := 6) (v := .ref (a 2)) (C := R_MO) (T := T_MO) (N := 26) hx hb hg in_MO hown hK hP 0 rfl rfl 3 (by decide) (hg _ gw_586) (fun _ h9 => h9) rfl d_MO_nextWriter_21 ?_
      refine lv_iload_n hx hb d_MO_nextWriter_24 rfl (lv_at hl 1 rfl) ?_
      refine bdK hf (fun v2 h3 hf => ?_)
      refine r_iald hx hb hK hP 2 0 rfl rfl h3 d_MO_nextWriter_25 ?_
      refine bdK hf (fun q4 h5 hf => ?_)
      refine rc_Vi (As := [.int x4, .int v2]) (rest := []) (b := a 0) (stM_g t) F (c_MO_writes l ha x4 v2 σ q4 h5) (cwV 2 hg gc_MO_117 rfl rfl rfl hs_MO_writes ⟨Nat.le_of_ble_eq_true rfl, Nat.le_of_ble_eq_true rfl⟩) hK hT hP hS (va_recv hK hP (ci := 6) (q0 := 0) rfl rfl) rfl hl.1 rfl (Nat.le_of_ble_eq_true rfl) d_MO_nextWriter_26 ⟨Nat.zero_le _, Nat.zero_le _⟩ (fun H locs hP hS => ?_)
      refine lv_if_eq (tgt := 37) hx hb d_MO_nextWriter_29 (by decide) (fun c6 => ?_) (fun c6 => ?_)
      · replace hf := (if_pos c6).symm.trans hf
        refine lv_iload_n hx hb d_MO_nextWriter_37 rfl (lv_at hl 2 rfl) ?_
        refine lv_istore_n (lv' := [(3, .int x3), (0, .ref (a 0)), (1, .int x1), (4, .int x4)]) hx hb d_MO_nextWriter_38 rfl hl (by decide) rfl (fun ls hl => ?_)
        refine lv_iinc (v := (x4 + (-1 : Int32))) (lv' := [(4, .int (x4 + (-1 : Int32))), (3, .int x3), (0, .ref (a 0)), (1, .int x1)]) hx hb d_MO_nextWriter_39 hl (k := 3) rfl (by rfl) (by decide) rfl (fun ls hl => ?_)
        refine lv_goto (tgt := 11) hx hb d_MO_nextWriter_42 (by decide) ?_
        exact ih x1 x3 (x4 + (-1 : Int32)) q4.2 q hf _ _ hP hS ls (lv_sub hl [2, 3, 1, 0] rfl)
      · replace hf := (if_neg c6).symm.trans hf
        refine lv_iload hx hb d_MO_nextWriter_32 (lv_at hl 3 rfl) ?_
        refine lv_goto (tgt := 38) hx hb d_MO_nextWriter_34 (by decide) ?_
        refine lv_istore_n (lv' := [(3, .int x4), (0, .ref (a 0)), (1, .int x1), (4, .int x4)]) hx hb d_MO_nextWriter_38 rfl hl (by decide) rfl (fun ls hl => ?_)
        refine lv_iinc (v := (x4 + (-1 : Int32))) (lv' := [(4, .int (x4 + (-1 : Int32))), (3, .int x4), (0, .ref (a 0)), (1, .int x1)]) hx hb d_MO_nextWriter_39 hl (k := 3) rfl (by rfl) (by decide) rfl (fun ls hl => ?_)
        refine lv_goto (tgt := 11) hx hb d_MO_nextWriter_42 (by decide) ?_
        exact ih x1 x4 (x4 + (-1 : Int32)) q4.2 q hf _ _ hP hS ls (lv_sub hl [2, 3, 1, 0] rfl)
def f_MO_nextWriter (x1 : Int32) (σ : SS) : Option (Int32 × SS) :=
  (f_MO_blockEnd x1 σ).bind fun q1 => b_MO_nextWriter_11 FU x1 (-1 : Int32) q1.1 q1.2
set_option maxHeartbeats 4000000 in
set_option maxRecDepth 100000 in
theorem e_MO_nextWriter {p : Program} {l : Launch} {e : Env} {s : State} {m : MethodId} {args : Array Value} {below : List Frame} {meth : Method} {c : Code} {D : va_G} {a t : Nat → Nat} {cI cZ : ClassId} (ha : aMC a) (F : CallFix p m c b_MO_nextWriter 5 s args gt R_MO) (hr : meth.sig.returnType = some .int) (hlk : meth.locks = false) (hK : va_K D vwCl [(cI, .int), (cZ, .boolean)] s) (hT : stM t (aM a) s s.heap) :
    ∀ (x1 : Int32) (σ : SS) (q : Int32 × SS), f_MO_nextWriter x1 σ = some q → ∀ (H : Heap) (locs : List Loc), va_P D vwCl ((wM a cI cZ) σ) H → va_S (aM a) s.heap H locs → ∀ (ls : Array Slot), lv_has ls 5 [(0, .ref (a 0)), (1, .int x1)] → W p l e { frames := 2, cells := 0, slots := 0, locals := 43 } s m args below meth c H locs 0 0 (MQ below (va_Qi (fun r u => r = q.1 ∧ u = q.2) (pW D (wM a cI cZ) [(cI, .int), (cZ, .boolean)] (stM t) (aM a)) (aM a)) args s 0 0 (aM a)) (F0 m 0 ls []) := by
  obtain ⟨hx, hb, hml, hown, hg⟩ := id F
  intro x1 σ q hf H locs hP hS ls hl
  unfold f_MO_nextWriter at hf
  refine lv_aload_n hx hb d_MO_nextWriter_0 rfl (lv_at hl 0 rfl) ?_
  refine lv_iload_n hx hb d_MO_nextWriter_1 rfl (lv_at hl 1 rfl) ?_
  refine bdK hf (fun q1 h2 hf => ?_)
  refine rc_Vi (As := [.int x1]) (rest := []) (b := a 0) (stM_g t) F (c_MO_blockEnd l ha x1 σ q1 h2) (cwV 1 hg gc_MO_121 rfl rfl rfl hs_MO_blockEnd ⟨Nat.le_of_ble_eq_true rfl, Nat.le_of_ble_eq_true rfl⟩) hK hT hP hS (va_recv hK hP (ci := 6) (q0 := 0) rfl rfl) rfl hl.1 rfl (Nat.le_of_ble_eq_true rfl) d_MO_nextWriter_2 ⟨Nat.zero_le _, Nat.zero_le _⟩ (fun H locs hP hS => ?_)
  refine lv_istore_n (lv' := [(2, .int q1.1), (0, .ref (a 0)), (1, .int x1)]) hx hb d_MO_nextWriter_5 rfl hl (by decide) rfl (fun ls hl => ?_)
  refine lv_iconst (v := (-1 : Int32)) hx hb d_MO_nextWriter_6 (by decide) ?_
  refine lv_istore_n (lv' := [(3, .int (-1 : Int32)), (2, .int q1.1), (0, .ref (a 0)), (1, .int x1)]) hx hb d_MO_nextWriter_7 rfl hl (by decide) rfl (fun ls hl => ?_)
  refine lv_iload_n hx hb d_MO_nextWriter_8 rfl (lv_at hl 1 rfl) ?_
  refine lv_istore (lv' := [(4, .int q1.1), (3, .int (-1 : Int32)), (2, .int q1.1), (0, .ref (a 0)), (1, .int x1)]) hx hb d_MO_nextWriter_9 hl (by decide) rfl (fun ls hl => ?_)
  exact k_MO_nextWriter_11 ha F hr hlk hK hT FU x1 (-1 : Int32) q1.1 q1.2 q hf _ _ hP hS ls (lv_sub hl [3, 4, 1, 0] rfl)
set_option maxHeartbeats 4000000 in
set_option maxRecDepth 100000 in
theorem c_MO_nextWriter (l : Launch) {D : va_G} {a t : Nat → Nat} {cI cZ : ClassId} (ha : aMC a) (x1 : Int32) (σ : SS) (q : Int32 × SS) (hf : f_MO_nextWriter x1 σ = some q) : Met l y_MO_nextWriter ws_MO_nextWriter { frames := 2, cells := 0, slots := 0, locals := 43 } (va_Pc [.ref (a 0), .int x1] (pW D (wM a cI cZ) [(cI, .int), (cZ, .boolean)] (stM t) (aM a) σ)) (va_Qi (fun r u => r = q.1 ∧ u = q.2) (pW D (wM a cI cZ) [(cI, .int), (cZ, .boolean)] (stM t) (aM a)) (aM a)) 0 0 (aM a) := by
  refine Met.ofW (cc := b_MO_nextWriter) (maxL := 5) (ret := some .int) (by decide) rfl ?_
  intro p e s m args below meth c s₁ B hml hv
  obtain ⟨rfl, hP, hK, hT⟩ := hv
  have hl := lv_entry ([.ref (a 0), .int x1]) (n := 5) (Nat.le_of_ble_eq_true rfl)
  rw [lg_entry_eq]
  generalize (lg_sl ([.ref (a 0), .int x1]) ++ List.replicate (5 - (lg_sl ([.ref (a 0), .int x1])).length) Slot.unset).toArray = ls at hl ⊢
  exact e_MO_nextWriter ha ⟨B.exec, B.bytes, hml, findClass_of_methodNamed B.named, fun w h => atoms_spec (ws := ws_MO_nextWriter) B.pre w (List.mem_cons_of_mem _ h)⟩ B.returns B.notSynchronized hK hT x1 σ q hf s.heap [] hP va_S.rf ls hl
theorem d_MO_canCarry_0 : decode b_MO_canCarry 0 = .ok (.aload_n 0, 1) := by decide +kernel
theorem d_MO_canCarry_1 : decode b_MO_canCarry 1 = .ok (.getfield 13, 3) := by decide +kernel
theorem d_MO_canCarry_4 : decode b_MO_canCarry 4 = .ok (.iload_n 1, 1) := by decide +kernel
theorem d_MO_canCarry_5 : decode b_MO_canCarry 5 = .ok (.iaload, 1) := by decide +kernel
theorem d_MO_canCarry_6 : decode b_MO_canCarry 6 = .ok (.istore_n 3, 1) := by decide +kernel
theorem d_MO_canCarry_7 : decode b_MO_canCarry 7 = .ok (.aload_n 0, 1) := by decide +kernel
theorem d_MO_canCarry_8 : decode b_MO_canCarry 8 = .ok (.iload_n 1, 1) := by decide +kernel
theorem d_MO_canCarry_9 : decode b_MO_canCarry 9 = .ok (.invokevirtual 124, 3) := by decide +kernel
theorem d_MO_canCarry_12 : decode b_MO_canCarry 12 = .ok (.istore 4, 2) := by decide +kernel
theorem d_MO_canCarry_14 : decode b_MO_canCarry 14 = .ok (.iload 4, 2) := by decide +kernel
theorem d_MO_canCarry_16 : decode b_MO_canCarry 16 = .ok (.ifCond .lt 8, 3) := by decide +kernel
theorem d_MO_canCarry_19 : decode b_MO_canCarry 19 = .ok (.iload 4, 2) := by decide +kernel
theorem d_MO_canCarry_21 : decode b_MO_canCarry 21 = .ok (.goto 8, 3) := by decide +kernel
theorem d_MO_canCarry_24 : decode b_MO_canCarry 24 = .ok (.aload_n 0, 1) := by decide +kernel
theorem d_MO_canCarry_25 : decode b_MO_canCarry 25 = .ok (.iload_n 1, 1) := by decide +kernel
theorem d_MO_canCarry_26 : decode b_MO_canCarry 26 = .ok (.invokevirtual 121, 3) := by decide +kernel
theorem d_MO_canCarry_29 : decode b_MO_canCarry 29 = .ok (.istore 5, 2) := by decide +kernel
theorem d_MO_canCarry_31 : decode b_MO_canCarry 31 = .ok (.aload_n 0, 1) := by decide +kernel
theorem d_MO_canCarry_32 : decode b_MO_canCarry 32 = .ok (.iload_n 2, 1) := by decide +kernel
theorem d_MO_canCarry_33 : decode b_MO_canCarry 33 = .ok (.iload_n 3, 1) := by decide +kernel
theorem d_MO_canCarry_34 : decode b_MO_canCarry 34 = .ok (.invokevirtual 127, 3) := by decide +kernel
theorem d_MO_canCarry_37 : decode b_MO_canCarry 37 = .ok (.iconst 1, 1) := by decide +kernel
theorem d_MO_canCarry_38 : decode b_MO_canCarry 38 = .ok (.if_icmp .ne 18, 3) := by decide +kernel
theorem d_MO_canCarry_41 : decode b_MO_canCarry 41 = .ok (.iload 4, 2) := by decide +kernel
theorem d_MO_canCarry_43 : decode b_MO_canCarry 43 = .ok (.ifCond .lt 9, 3) := by decide +kernel
theorem d_MO_canCarry_46 : decode b_MO_canCarry 46 = .ok (.iload 4, 2) := by decide +kernel
theorem d_MO_canCarry_48 : decode b_MO_canCarry 48 = .ok (.iload_n 2, 1) := by decide +kernel
theorem d_MO_canCarry_49 : decode b_MO_canCarry 49 = .ok (.if_icmp .lt 7, 3) := by decide +kernel
theorem d_MO_canCarry_52 : decode b_MO_canCarry 52 = .ok (.iconst 1, 1) := by decide +kernel
theorem d_MO_canCarry_53 : decode b_MO_canCarry 53 = .ok (.goto 4, 3) := by decide +kernel
theorem d_MO_canCarry_56 : decode b_MO_canCarry 56 = .ok (.iconst 0, 1) := by decide +kernel
theorem d_MO_canCarry_57 : decode b_MO_canCarry 57 = .ok (.istore 6, 2) := by decide +kernel
theorem d_MO_canCarry_59 : decode b_MO_canCarry 59 = .ok (.iload_n 1, 1) := by decide +kernel
theorem d_MO_canCarry_60 : decode b_MO_canCarry 60 = .ok (.iconst 1, 1) := by decide +kernel
theorem d_MO_canCarry_61 : decode b_MO_canCarry 61 = .ok (.iadd, 1) := by decide +kernel
theorem d_MO_canCarry_62 : decode b_MO_canCarry 62 = .ok (.istore 7, 2) := by decide +kernel
theorem d_MO_canCarry_64 : decode b_MO_canCarry 64 = .ok (.iload 7, 2) := by decide +kernel
theorem d_MO_canCarry_66 : decode b_MO_canCarry 66 = .ok (.iload 5, 2) := by decide +kernel
theorem d_MO_canCarry_68 : decode b_MO_canCarry 68 = .ok (.if_icmp .gt 37, 3) := by decide +kernel
theorem d_MO_canCarry_71 : decode b_MO_canCarry 71 = .ok (.iload 6, 2) := by decide +kernel
theorem d_MO_canCarry_73 : decode b_MO_canCarry 73 = .ok (.ifCond .eq 23, 3) := by decide +kernel
theorem d_MO_canCarry_76 : decode b_MO_canCarry 76 = .ok (.iload 7, 2) := by decide +kernel
theorem d_MO_canCarry_78 : decode b_MO_canCarry 78 = .ok (.iload_n 2, 1) := by decide +kernel
theorem d_MO_canCarry_79 : decode b_MO_canCarry 79 = .ok (.if_icmp .eq 13, 3) := by decide +kernel
theorem d_MO_canCarry_82 : decode b_MO_canCarry 82 = .ok (.aload_n 0, 1) := by decide +kernel
theorem d_MO_canCarry_83 : decode b_MO_canCarry 83 = .ok (.iload 7, 2) := by decide +kernel
theorem d_MO_canCarry_85 : decode b_MO_canCarry 85 = .ok (.iload_n 3, 1) := by decide +kernel
theorem d_MO_canCarry_86 : decode b_MO_canCarry 86 = .ok (.invokevirtual 127, 3) := by decide +kernel
theorem d_MO_canCarry_89 : decode b_MO_canCarry 89 = .ok (.ifCond .ne 7, 3) := by decide +kernel
theorem d_MO_canCarry_92 : decode b_MO_canCarry 92 = .ok (.iconst 1, 1) := by decide +kernel
theorem d_MO_canCarry_93 : decode b_MO_canCarry 93 = .ok (.goto 4, 3) := by decide +kernel
theorem d_MO_canCarry_96 : decode b_MO_canCarry 96 = .ok (.iconst 0, 1) := by decide +kernel
theorem d_MO_canCarry_97 : decode b_MO_canCarry 97 = .ok (.istore 6, 2) := by decide +kernel
theorem d_MO_canCarry_99 : decode b_MO_canCarry 99 = .ok (.iinc 7 1, 3) := by decide +kernel
theorem d_MO_canCarry_102 : decode b_MO_canCarry 102 = .ok (.goto (-38), 3) := by decide +kernel
theorem d_MO_canCarry_105 : decode b_MO_canCarry 105 = .ok (.iload 6, 2) := by decide +kernel
theorem d_MO_canCarry_107 : decode b_MO_canCarry 107 = .ok (.ifCond .eq 28, 3) := by decide +kernel
theorem d_MO_canCarry_110 : decode b_MO_canCarry 110 = .ok (.iload 4, 2) := by decide +kernel
theorem d_MO_canCarry_112 : decode b_MO_canCarry 112 = .ok (.ifCond .ge 19, 3) := by decide +kernel
theorem d_MO_canCarry_115 : decode b_MO_canCarry 115 = .ok (.aload_n 0, 1) := by decide +kernel
theorem d_MO_canCarry_116 : decode b_MO_canCarry 116 = .ok (.aload_n 0, 1) := by decide +kernel
theorem d_MO_canCarry_117 : decode b_MO_canCarry 117 = .ok (.iload_n 1, 1) := by decide +kernel
theorem d_MO_canCarry_118 : decode b_MO_canCarry 118 = .ok (.invokevirtual 121, 3) := by decide +kernel
theorem d_MO_canCarry_121 : decode b_MO_canCarry 121 = .ok (.invokevirtual 114, 3) := by decide +kernel
theorem d_MO_canCarry_124 : decode b_MO_canCarry 124 = .ok (.iload_n 3, 1) := by decide +kernel
theorem d_MO_canCarry_125 : decode b_MO_canCarry 125 = .ok (.ishr, 1) := by decide +kernel
theorem d_MO_canCarry_126 : decode b_MO_canCarry 126 = .ok (.iconst 1, 1) := by decide +kernel
theorem d_MO_canCarry_127 : decode b_MO_canCarry 127 = .ok (.iand, 1) := by decide +kernel
theorem d_MO_canCarry_128 : decode b_MO_canCarry 128 = .ok (.ifCond .ne 7, 3) := by decide +kernel
theorem d_MO_canCarry_131 : decode b_MO_canCarry 131 = .ok (.iconst 1, 1) := by decide +kernel
theorem d_MO_canCarry_132 : decode b_MO_canCarry 132 = .ok (.goto 4, 3) := by decide +kernel
theorem d_MO_canCarry_135 : decode b_MO_canCarry 135 = .ok (.iconst 0, 1) := by decide +kernel
theorem d_MO_canCarry_136 : decode b_MO_canCarry 136 = .ok (.istore 6, 2) := by decide +kernel
theorem d_MO_canCarry_138 : decode b_MO_canCarry 138 = .ok (.iload_n 1, 1) := by decide +kernel
theorem d_MO_canCarry_139 : decode b_MO_canCarry 139 = .ok (.iconst 1, 1) := by decide +kernel
theorem d_MO_canCarry_140 : decode b_MO_canCarry 140 = .ok (.iadd, 1) := by decide +kernel
theorem d_MO_canCarry_141 : decode b_MO_canCarry 141 = .ok (.istore 7, 2) := by decide +kernel
theorem d_MO_canCarry_143 : decode b_MO_canCarry 143 = .ok (.iload 7, 2) := by decide +kernel
theorem d_MO_canCarry_145 : decode b_MO_canCarry 145 = .ok (.iload_n 2, 1) := by decide +kernel
theorem d_MO_canCarry_146 : decode b_MO_canCarry 146 = .ok (.if_icmp .ge 71, 3) := by decide +kernel
theorem d_MO_canCarry_149 : decode b_MO_canCarry 149 = .ok (.iload 6, 2) := by decide +kernel
theorem d_MO_canCarry_151 : decode b_MO_canCarry 151 = .ok (.ifCond .eq 57, 3) := by decide +kernel
theorem d_MO_canCarry_154 : decode b_MO_canCarry 154 = .ok (.aload_n 0, 1) := by decide +kernel
theorem d_MO_canCarry_155 : decode b_MO_canCarry 155 = .ok (.iload 7, 2) := by decide +kernel
theorem d_MO_canCarry_157 : decode b_MO_canCarry 157 = .ok (.invokevirtual 98, 3) := by decide +kernel
theorem d_MO_canCarry_160 : decode b_MO_canCarry 160 = .ok (.ifCond .eq 23, 3) := by decide +kernel
theorem d_MO_canCarry_163 : decode b_MO_canCarry 163 = .ok (.aload_n 0, 1) := by decide +kernel
theorem d_MO_canCarry_164 : decode b_MO_canCarry 164 = .ok (.getfield 41, 3) := by decide +kernel
theorem d_MO_canCarry_167 : decode b_MO_canCarry 167 = .ok (.iload_n 1, 1) := by decide +kernel
theorem d_MO_canCarry_168 : decode b_MO_canCarry 168 = .ok (.iaload, 1) := by decide +kernel
theorem d_MO_canCarry_169 : decode b_MO_canCarry 169 = .ok (.aload_n 0, 1) := by decide +kernel
theorem d_MO_canCarry_170 : decode b_MO_canCarry 170 = .ok (.getfield 13, 3) := by decide +kernel
theorem d_MO_canCarry_173 : decode b_MO_canCarry 173 = .ok (.iload 7, 2) := by decide +kernel
theorem d_MO_canCarry_175 : decode b_MO_canCarry 175 = .ok (.iaload, 1) := by decide +kernel
theorem d_MO_canCarry_176 : decode b_MO_canCarry 176 = .ok (.ishr, 1) := by decide +kernel
theorem d_MO_canCarry_177 : decode b_MO_canCarry 177 = .ok (.iconst 1, 1) := by decide +kernel
theorem d_MO_canCarry_178 : decode b_MO_canCarry 178 = .ok (.iand, 1) := by decide +kernel
theorem d_MO_canCarry_179 : decode b_MO_canCarry 179 = .ok (.iconst 1, 1) := by decide +kernel
theorem d_MO_canCarry_180 : decode b_MO_canCarry 180 = .ok (.if_icmp .eq 28, 3) := by decide +kernel
theorem d_MO_canCarry_183 : decode b_MO_canCarry 183 = .ok (.aload_n 0, 1) := by decide +kernel
theorem d_MO_canCarry_184 : decode b_MO_canCarry 184 = .ok (.getfield 44, 3) := by decide +kernel
theorem d_MO_canCarry_187 : decode b_MO_canCarry 187 = .ok (.iload_n 1, 1) := by decide +kernel
theorem d_MO_canCarry_188 : decode b_MO_canCarry 188 = .ok (.baload, 1) := by decide +kernel
theorem d_MO_canCarry_189 : decode b_MO_canCarry 189 = .ok (.ifCond .eq 15, 3) := by decide +kernel
theorem d_MO_canCarry_192 : decode b_MO_canCarry 192 = .ok (.aload_n 0, 1) := by decide +kernel
theorem d_MO_canCarry_193 : decode b_MO_canCarry 193 = .ok (.getfield 7, 3) := by decide +kernel
theorem d_MO_canCarry_196 : decode b_MO_canCarry 196 = .ok (.iload 7, 2) := by decide +kernel
theorem d_MO_canCarry_198 : decode b_MO_canCarry 198 = .ok (.iaload, 1) := by decide +kernel
theorem d_MO_canCarry_199 : decode b_MO_canCarry 199 = .ok (.bipush 7, 2) := by decide +kernel
theorem d_MO_canCarry_201 : decode b_MO_canCarry 201 = .ok (.if_icmp .eq 7, 3) := by decide +kernel
theorem d_MO_canCarry_204 : decode b_MO_canCarry 204 = .ok (.iconst 1, 1) := by decide +kernel
theorem d_MO_canCarry_205 : decode b_MO_canCarry 205 = .ok (.goto 4, 3) := by decide +kernel
theorem d_MO_canCarry_208 : decode b_MO_canCarry 208 = .ok (.iconst 0, 1) := by decide +kernel
theorem d_MO_canCarry_209 : decode b_MO_canCarry 209 = .ok (.istore 6, 2) := by decide +kernel
theorem d_MO_canCarry_211 : decode b_MO_canCarry 211 = .ok (.iinc 7 1, 3) := by decide +kernel
theorem d_MO_canCarry_214 : decode b_MO_canCarry 214 = .ok (.goto (-71), 3) := by decide +kernel
theorem d_MO_canCarry_217 : decode b_MO_canCarry 217 = .ok (.iload 6, 2) := by decide +kernel
theorem d_MO_canCarry_219 : decode b_MO_canCarry 219 = .ok (.ireturn, 1) := by decide +kernel
theorem gc_MO_127 : GoodIn gt (wsV R_MO 127 R_MO y_MO_times ws_MO_times) := gd_V gw_755 gw_757 gs_50 gw_7 gw_758
theorem gc_MO_124 : GoodIn gt (wsV R_MO 124 R_MO y_MO_nextWriter ws_MO_nextWriter) := gd_V gw_747 gw_749 gs_48 gw_7 gw_750
def b_MO_canCarry_183 (r143 : Int32 → Int32 → Int32 → Int32 → SS → Option (Int32 × SS)) (x1 x2 x7 : Int32) (σ : SS) : Option (Int32 × SS) :=
  (ld (σ 11) 40 x1).bind fun v1 => (if v1 = 0 then r143 x1 x2 (1 : Int32) (x7 + (1 : Int32)) σ else (ld (σ 0) 40 x7).bind fun v4 => (if v4 = (7 : Int32) then r143 x1 x2 (0 : Int32) (x7 + (1 : Int32)) σ else r143 x1 x2 (1 : Int32) (x7 + (1 : Int32)) σ))
set_option maxHeartbeats 4000000 in
set_option maxRecDepth 100000 in
theorem k_MO_canCarry_183 {p : Program} {l : Launch} {e : Env} {s : State} {m : MethodId} {args : Array Value} {below : List Frame} {meth : Method} {c : Code} {D : va_G} {a t : Nat → Nat} {cI cZ : ClassId} (ha : aMC a) (F : CallFix p m c b_MO_canCarry 8 s args gt R_MO) (hr : meth.sig.returnType = some .boolean) (hlk : meth.locks = false) (hK : va_K D vwCl [(cI, .int), (cZ, .boolean)] s) (hT : stM t (aM a) s s.heap) (r143 : Int32 → Int32 → Int32 → Int32 → SS → Option (Int32 × SS)) (hr143 : ∀ (x1 x2 x6 x7 : Int32) (σ : SS) (q : Int32 × SS), r143 x1 x2 x6 x7 σ = some q → ∀ (H : Heap) (locs : List Loc), va_P D vwCl ((wM a cI cZ) σ) H → va_S (aM a) s.heap H locs → ∀ (ls : Array Slot), lv_has ls 8 [(0, .ref (a 0)), (1, .int x1), (2, .int x2), (6, .int x6), (7, .int x7)] → W p l e { frames := 3, cells := 0, slots := 0, locals := 67 } s m args below meth c H locs 0 0 (MQ below (va_Qi (fun r u => r = q.1 ∧ u = q.2) (pW D (wM a cI cZ) [(cI, .int), (cZ, .boolean)] (stM t) (aM a)) (aM a)) args s 0 0 (aM a)) (F0 m 143 ls [])) :
    ∀ (x1 x2 x7 : Int32) (σ : SS) (q : Int32 × SS), b_MO_canCarry_183 r143 x1 x2 x7 σ = some q → ∀ (H : Heap) (locs : List Loc), va_P D vwCl ((wM a cI cZ) σ) H → va_S (aM a) s.heap H locs → ∀ (ls : Array Slot), lv_has ls 8 [(0, .ref (a 0)), (1, .int x1), (2, .int x2), (7, .int x7)] → W p l e { frames := 3, cells := 0, slots := 0, locals := 67 } s m args below meth c H locs 0 0 (MQ below (va_Qi (fun r u => r = q.1 ∧ u = q.2) (pW D (wM a cI cZ) [(cI, .int), (cZ, .boolean)] (stM t) (aM a)) (aM a)) args s 0 0 (aM a)) (F0 m 183 ls []) := by
  obtain ⟨hx, hb, hml, hown, hg⟩ := id F
  intro x1 x2 x7 σ q hf H locs hP hS ls hl
  unfold b_MO_canCarry_183 at hf
  refine lv_aload_n hx hb d_MO_canCarry_183 rfl (lv_at hl 0 rfl) ?_
  refine va_get (D := D) (ci := 6) (v := .ref (a 12)) (C := R_MO) (T := T_MO) (N := 26) hx hb hg in_MO hown hK hP 0 rfl rfl 14 (by decide) (hg _ gw_597) (fun _ h9 => h9) rfl d_MO_canCarry_184 ?_
  refine lv_iload_n hx hb d_MO_canCarry_187 rfl (lv_at hl 1 rfl) ?_
  refine bdK hf (fun v1 h2 hf => ?_)
  refine r_zald hx hb hK hP 12 1 rfl rfl h2 d_MO_canCarry_188 ?_
  refine lv_if_eq (tgt := 204) hx hb d_MO_canCarry_189 (by decide) (fun c3 => ?_) (fun c3 => ?_)
  · replace hf := (if_pos c3).symm.trans hf
    refine lv_iconst (v := (1 : Int32)) hx hb d_MO_canCarry_204 (by decide) ?_
    refine lv_goto (tgt := 209) hx hb d_MO_canCarry_205 (by decide) ?_
    refine lv_istore (lv' := [(6, .int (1 : Int32)), (0, .ref (a 0)), (1, .int x1), (2, .int x2), (7, .int x7)]) hx hb d_MO_canCarry_209 hl (by decide) rfl (fun ls hl => ?_)
    refine lv_iinc (v := (x7 + (1 : Int32))) (lv' := [(7, .int (x7 + (1 : Int32))), (6, .int (1 : Int32)), (0, .ref (a 0)), (1, .int x1), (2, .int x2)]) hx hb d_MO_canCarry_211 hl (k := 4) rfl (by rfl) (by decide) rfl (fun ls hl => ?_)
    refine lv_goto (tgt := 143) hx hb d_MO_canCarry_214 (by decide) ?_
    exact hr143 x1 x2 (1 : Int32) (x7 + (1 : Int32)) σ q hf _ _ hP hS ls (lv_sub hl [2, 3, 4, 1, 0] rfl)
  · replace hf := (if_neg c3).symm.trans hf
    refine lv_aload_n hx hb d_MO_canCarry_192 rfl (lv_at hl 0 rfl) ?_
    refine va_get (D := D) (ci := 6) (v := .ref (a 1)) (C := R_MO) (T := T_MO) (N := 26) hx hb hg in_MO hown hK hP 0 rfl rfl 2 (by decide) (hg _ gw_585) (fun _ h9 => h9) rfl d_MO_canCarry_193 ?_
    refine lv_iload hx hb d_MO_canCarry_196 (lv_at hl 3 rfl) ?_
    refine bdK hf (fun v4 h5 hf => ?_)
    refine r_iald hx hb hK hP 1 0 rfl rfl h5 d_MO_canCarry_198 ?_
    refine lv_bipush (v := (7 : Int32)) hx hb d_MO_canCarry_199 (by decide) ?_
    refine lv_icmp_eq (tgt := 208) hx hb d_MO_canCarry_201 (by decide) (fun c6 => ?_) (fun c6 => ?_)
    · replace hf := (if_pos c6).symm.trans hf
      refine lv_iconst (v := (0 : Int32)) hx hb d_MO_canCarry_208 (by decide) ?_
      refine lv_istore (lv' := [(6, .int (0 : Int32)), (0, .ref (a 0)), (1, .int x1), (2, .int x2), (7, .int x7)]) hx hb d_MO_canCarry_209 hl (by decide) rfl (fun ls hl => ?_)
      refine lv_iinc (v := (x7 + (1 : Int32))) (lv' := [(7, .int (x7 + (1 : Int32))), (6, .int (0 : Int32)), (0, .ref (a 0)), (1, .int x1), (2, .int x2)]) hx hb d_MO_canCarry_211 hl (k := 4) rfl (by rfl) (by decide) rfl (fun ls hl => ?_)
      refine lv_goto (tgt := 143) hx hb d_MO_canCarry_214 (by decide) ?_
      exact hr143 x1 x2 (0 : Int32) (x7 + (1 : Int32)) σ q hf _ _ hP hS ls (lv_sub hl [2, 3, 4, 1, 0] rfl)
    · replace hf := (if_neg c6).symm.trans hf
      refine lv_iconst (v := (1 : Int32)) hx hb d_MO_canCarry_204 (by decide) ?_
      refine lv_goto (tgt := 209) hx hb d_MO_canCarry_205 (by decide) ?_
      refine lv_istore (lv' := [(6, .int (1 : Int32)), (0, .ref (a 0)), (1, .int x1), (2, .int x2), (7, .int x7)]) hx hb d_MO_canCarry_209 hl (by decide) rfl (fun ls hl => ?_)
      refine lv_iinc (v := (x7 + (1 : Int32))) (lv' := [(7, .int (x7 + (1 : Int32))), (6, .int (1 : Int32)), (0, .ref (a 0)), (1, .int x1), (2, .int x2)]) hx hb d_MO_canCarry_211 hl (k := 4) rfl (by rfl) (by decide) rfl (fun ls hl => ?_)
      refine lv_goto (tgt := 143) hx hb d_MO_canCarry_214 (by decide) ?_
      exact hr143 x1 x2 (1 : Int32) (x7 + (1 : Int32)) σ q hf _ _ hP hS ls (lv_sub hl [2, 3, 4, 1, 0] rfl)
def b_MO_canCarry_143 : Nat → Int32 → Int32 → Int32 → Int32 → SS → Option (Int32 × SS)
  | 0, _, _, _, _, _ => none
  | n + 1, x1, x2, x6, x7, σ =>
    (if x2 ≤ x7 then rz x6 σ else (if x6 = 0 then b_MO_canCarry_143 n x1 x2 (0 : Int32) (x7 + (1 : Int32)) σ else (f_MO_isWriter x7 σ).bind fun q3 => (if q3.1 = 0 then b_MO_canCarry_183 (b_MO_canCarry_143 n) x1 x2 x7 q3.2 else (ld (q3.2 10) 40 x1).bind fun v6 => (ld (q3.2 1) 40 x7).bind fun v8 => (if ((v6 >>> (v8 &&& 31)) &&& (1 : Int32)) = (1 : Int32) then b_MO_canCarry_143 n x1 x2 (0 : Int32) (x7 + (1 : Int32)) q3.2 else b_MO_canCarry_183 (b_MO_canCarry_143 n) x1 x2 x7 q3.2))))
set_option maxHeartbeats 4000000 in
set_option maxRecDepth 100000 in
theorem k_MO_canCarry_143 {p : Program} {l : Launch} {e : Env} {s : State} {m : MethodId} {args : Array Value} {below : List Frame} {meth : Method} {c : Code} {D : va_G} {a t : Nat → Nat} {cI cZ : ClassId} (ha : aMC a) (F : CallFix p m c b_MO_canCarry 8 s args gt R_MO) (hr : meth.sig.returnType = some .boolean) (hlk : meth.locks = false) (hK : va_K D vwCl [(cI, .int), (cZ, .boolean)] s) (hT : stM t (aM a) s s.heap) :
    ∀ (n : Nat) (x1 x2 x6 x7 : Int32) (σ : SS) (q : Int32 × SS), b_MO_canCarry_143 n x1 x2 x6 x7 σ = some q → ∀ (H : Heap) (locs : List Loc), va_P D vwCl ((wM a cI cZ) σ) H → va_S (aM a) s.heap H locs → ∀ (ls : Array Slot), lv_has ls 8 [(0, .ref (a 0)), (1, .int x1), (2, .int x2), (6, .int x6), (7, .int x7)] → W p l e { frames := 3, cells := 0, slots := 0, locals := 67 } s m args below meth c H locs 0 0 (MQ below (va_Qi (fun r u => r = q.1 ∧ u = q.2) (pW D (wM a cI cZ) [(cI, .int), (cZ, .boolean)] (stM t) (aM a)) (aM a)) args s 0 0 (aM a)) (F0 m 143 ls []) := by
  obtain ⟨hx, hb, hml, hown, hg⟩ := id F
  intro n
  induction n with
  | zero =>
    intro x1 x2 x6 x7 σ q hf
    rw [b_MO_canCarry_143] at hf
    cases hf
  | succ n ih =>
    intro x1 x2 x6 x7 σ q hf H locs hP hS ls hl
    rw [b_MO_canCarry_143] at hf
    refine lv_iload hx hb d_MO_canCarry_143 (lv_at hl 4 rfl) ?_
    refine lv_iload_n hx hb d_MO_canCarry_145 rfl (lv_at hl 2 rfl) ?_
    refine lv_icmp_ge (tgt := 217) hx hb d_MO_canCarry_146 (by decide) (fun c1 => ?_) (fun c1 => ?_)
    · replace hf := (if_pos c1).symm.trans hf
      refine lv_iload hx hb d_MO_canCarry_217 (lv_at hl 3 rfl) ?_
      exact rr_zg hx hb hr hlk (stM_g t) hK hT hP hS hf d_MO_canCarry_219
    · replace hf := (if_neg c1).symm.trans hf
      refine lv_iload hx hb d_MO_canCarry_149 (lv_at hl 3 rfl) ?_
      refine lv_if_eq (tgt := 208) hx hb d_MO_canCarry_151 (by decide) (fun c2 => ?_) (fun c2 => ?_)
      · replace hf := (if_pos c2).symm.trans hf
        refine lv_iconst (v := (0 : Int32)) hx hb d_MO_canCarry_208 (by decide) ?_
        refine lv_istore (lv' := [(6, .int (0 : Int32)), (0, .ref (a 0)), (1, .int x1), (2, .int x2), (7, .int x7)]) hx hb d_MO_canCarry_209 hl (by decide) rfl (fun ls hl => ?_)
        refine lv_iinc (v := (x7 + (1 : Int32))) (lv' := [(7, .int (x7 + (1 : Int32))), (6, .int (0 : Int32)), (0, .ref (a 0)), (1, .int x1), (2, .int x2)]) hx hb d_MO_canCarry_211 hl (k := 4) rfl (by rfl) (by decide) rfl (fun ls hl => ?_)
        refine lv_goto (tgt := 143) hx hb d_MO_canCarry_214 (by decide) ?_
        exact ih x1 x2 (0 : Int32) (x7 + (1 : Int32)) σ q hf _ _ hP hS ls (lv_sub hl [2, 3, 4, 1, 0] rfl)
      · replace hf := (if_neg c2).symm.trans hf
        refine lv_aload_n hx hb d_MO_canCarry_154 rfl (lv_at hl 0 rfl) ?_
        refine lv_iload hx hb d_MO_canCarry_155 (lv_at hl 4 rfl) ?_
        refine bdK hf (fun q3 h4 hf => ?_)
        refine rc_Vi (As := [.int x7]) (rest := []) (b := a 0) (stM_g t) F (c_MO_isWriter l ha x7 σ q3 h4) (cwV 1 hg gc_MO_98 rfl rfl rfl hs_MO_isWriter ⟨Nat.le_of_ble_eq_true rfl, Nat.le_of_ble_eq_true rfl⟩) hK hT hP hS (va_recv hK hP (ci := 6) (q0 := 0) rfl rfl) rfl hl.1 rfl (Nat.le_of_ble_eq_true rfl) d_MO_canCarry_157 ⟨Nat.zero_le _, Nat.zero_le _⟩ (fun H locs hP hS => ?_)
        refine lv_if_eq (tgt := 183) hx hb d_MO_canCarry_160 (by decide) (fun c5 => ?_) (fun c5 => ?_)
        · replace hf := (if_pos c5).symm.trans hf
          exact k_MO_canCarry_183 ha F hr hlk hK hT (b_MO_canCarry_143 n) ih x1 x2 x7 q3.2 q hf _ _ hP hS ls (lv_sub hl [0, 1, 2, 4] rfl)
        · replace hf := (if_neg c5).symm.trans hf
          refine lv_aload_n hx hb d_MO_canCarry_163 rfl (lv_at hl 0 rfl) ?_
          refine va_get (D := D) (ci := 6) (v := .ref (a 11)) (C := R_MO) (T := T_MO) (N := 26) hx hb hg in_MO hown hK hP 0 rfl rfl 13 (by decide) (hg _ gw_596) (fun _ h9 => h9) rfl d_MO_canCarry_164 ?_
          refine lv_iload_n hx hb d_MO_canCarry_167 rfl (lv_at hl 1 rfl) ?_
          refine bdK hf (fun v6 h7 hf => ?_)
          refine r_iald hx hb hK hP 11 0 rfl rfl h7 d_MO_canCarry_168 ?_
          refine lv_aload_n hx hb d_MO_canCarry_169 rfl (lv_at hl 0 rfl) ?_
          refine va_get (D := D) (ci := 6) (v := .ref (a 2)) (C := R_MO) (T := T_MO) (N := 26) hx hb hg in_MO hown hK hP 0 rfl rfl 3 (by decide) (hg _ gw_586) (fun _ h9 => h9) rfl d_MO_canCarry_170 ?_
          refine lv_iload hx hb d_MO_canCarry_173 (lv_at hl 4 rfl) ?_
          refine bdK hf (fun v8 h9 hf => ?_)
          refine r_iald hx hb hK hP 2 0 rfl rfl h9 d_MO_canCarry_175 ?_
          refine lv_ishr hx hb d_MO_canCarry_176 ?_
          refine lv_iconst (v := (1 : Int32)) hx hb d_MO_canCarry_177 (by decide) ?_
          refine lv_iand hx hb d_MO_canCarry_178 ?_
          refine lv_iconst (v := (1 : Int32)) hx hb d_MO_canCarry_179 (by decide) ?_
          refine lv_icmp_eq (tgt := 208) hx hb d_MO_canCarry_180 (by decide) (fun c10 => ?_) (fun c10 => ?_)
          · replace hf := (if_pos c10).symm.trans hf
            refine lv_iconst (v := (0 : Int32)) hx hb d_MO_canCarry_208 (by decide) ?_
            refine lv_istore (lv' := [(6, .int (0 : Int32)), (0, .ref (a 0)), (1, .int x1), (2, .int x2), (7, .int x7)]) hx hb d_MO_canCarry_209 hl (by decide) rfl (fun ls hl => ?_)
            refine lv_iinc (v := (x7 + (1 : Int32))) (lv' := [(7, .int (x7 + (1 : Int32))), (6, .int (0 : Int32)), (0, .ref (a 0)), (1, .int x1), (2, .int x2)]) hx hb d_MO_canCarry_211 hl (k := 4) rfl (by rfl) (by decide) rfl (fun ls hl => ?_)
            refine lv_goto (tgt := 143) hx hb d_MO_canCarry_214 (by decide) ?_
            exact ih x1 x2 (0 : Int32) (x7 + (1 : Int32)) q3.2 q hf _ _ hP hS ls (lv_sub hl [2, 3, 4, 1, 0] rfl)
          · replace hf := (if_neg c10).symm.trans hf
            exact k_MO_canCarry_183 ha F hr hlk hK hT (b_MO_canCarry_143 n) ih x1 x2 x7 q3.2 q hf _ _ hP hS ls (lv_sub hl [0, 1, 2, 4] rfl)
def b_MO_canCarry_64 : Nat → Int32 → Int32 → Int32 → Int32 → Int32 → Int32 → Int32 → SS → Option (Int32 × SS)
  | 0, _, _, _, _, _, _, _, _ => none
  | n + 1, x1, x2, x3, x4, x5, x6, x7, σ =>
    (if x5 < x7 then (if x6 = 0 then b_MO_canCarry_143 FU x1 x2 (0 : Int32) (x1 + (1 : Int32)) σ else (if 0 ≤ x4 then b_MO_canCarry_143 FU x1 x2 (1 : Int32) (x1 + (1 : Int32)) σ else (f_MO_blockEnd x1 σ).bind fun q4 => (f_MO_behind q4.1 q4.2).bind fun q6 => (if ((q6.1 >>> (x3 &&& 31)) &&& (1 : Int32)) = 0 then b_MO_canCarry_143 FU x1 x2 (1 : Int32) (x1 + (1 : Int32)) q6.2 else b_MO_canCarry_143 FU x1 x2 (0 : Int32) (x1 + (1 : Int32)) q6.2))) else (if x6 = 0 then b_MO_canCarry_64 n x1 x2 x3 x4 x5 (0 : Int32) (x7 + (1 : Int32)) σ else (if x7 = x2 then b_MO_canCarry_64 n x1 x2 x3 x4 x5 (1 : Int32) (x7 + (1 : Int32)) σ else (f_MO_times x7 x3 σ).bind fun q11 => (if q11.1 = 0 then b_MO_canCarry_64 n x1 x2 x3 x4 x5 (1 : Int32) (x7 + (1 : Int32)) q11.2 else b_MO_canCarry_64 n x1 x2 x3 x4 x5 (0 : Int32) (x7 + (1 : Int32)) q11.2))))
set_option maxHeartbeats 4000000 in
set_option maxRecDepth 100000 in
theorem k_MO_canCarry_64 {p : Program} {l : Launch} {e : Env} {s : State} {m : MethodId} {args : Array Value} {below : List Frame} {meth : Method} {c : Code} {D : va_G} {a t : Nat → Nat} {cI cZ : ClassId} (ha : aMC a) (F : CallFix p m c b_MO_canCarry 8 s args gt R_MO) (hr : meth.sig.returnType = some .boolean) (hlk : meth.locks = false) (hK : va_K D vwCl [(cI, .int), (cZ, .boolean)] s) (hT : stM t (aM a) s s.heap) :
    ∀ (n : Nat) (x1 x2 x3 x4 x5 x6 x7 : Int32) (σ : SS) (q : Int32 × SS), b_MO_canCarry_64 n x1 x2 x3 x4 x5 x6 x7 σ = some q → ∀ (H : Heap) (locs : List Loc), va_P D vwCl ((wM a cI cZ) σ) H → va_S (aM a) s.heap H locs → ∀ (ls : Array Slot), lv_has ls 8 [(0, .ref (a 0)), (1, .int x1), (2, .int x2), (3, .int x3), (4, .int x4), (5, .int x5), (6, .int x6), (7, .int x7)] → W p l e { frames := 3, cells := 0, slots := 0, locals := 67 } s m args below meth c H locs 0 0 (MQ below (va_Qi (fun r u => r = q.1 ∧ u = q.2) (pW D (wM a cI cZ) [(cI, .int), (cZ, .boolean)] (stM t) (aM a)) (aM a)) args s 0 0 (aM a)) (F0 m 64 ls []) := by
  obtain ⟨hx, hb, hml, hown, hg⟩ := id F
  intro n
  induction n with
  | zero =>
    intro x1 x2 x3 x4 x5 x6 x7 σ q hf
    rw [b_MO_canCarry_64] at hf
    cases hf
  | succ n ih =>
    intro x1 x2 x3 x4 x5 x6 x7 σ q hf H locs hP hS ls hl
    rw [b_MO_canCarry_64] at hf
    refine lv_iload hx hb d_MO_canCarry_64 (lv_at hl 7 rfl) ?_
    refine lv_iload hx hb d_MO_canCarry_66 (lv_at hl 5 rfl) ?_
    refine lv_icmp_gt (tgt := 105) hx hb d_MO_canCarry_68 (by decide) (fun c1 => ?_) (fun c1 => ?_)
    · replace hf := (if_pos c1).symm.trans hf
      refine lv_iload hx hb d_MO_canCarry_105 (lv_at hl 6 rfl) ?_
      refine lv_if_eq (tgt := 135) hx hb d_MO_canCarry_107 (by decide) (fun c2 => ?_) (fun c2 => ?_)
      · replace hf := (if_pos c2).symm.trans hf
        refine lv_iconst (v := (0 : Int32)) hx hb d_MO_canCarry_135 (by decide) ?_
        refine lv_istore (lv' := [(6, .int (0 : Int32)), (0, .ref (a 0)), (1, .int x1), (2, .int x2), (3, .int x3), (4, .int x4), (5, .int x5), (7, .int x7)]) hx hb d_MO_canCarry_136 hl (by decide) rfl (fun ls hl => ?_)
        refine lv_iload_n hx hb d_MO_canCarry_138 rfl (lv_at hl 2 rfl) ?_
        refine lv_iconst (v := (1 : Int32)) hx hb d_MO_canCarry_139 (by decide) ?_
        refine lv_iadd hx hb d_MO_canCarry_140 ?_
        refine lv_istore (lv' := [(7, .int (x1 + (1 : Int32))), (6, .int (0 : Int32)), (0, .ref (a 0)), (1, .int x1), (2, .int x2), (3, .int x3), (4, .int x4), (5, .int x5)]) hx hb d_MO_canCarry_141 hl (by decide) rfl (fun ls hl => ?_)
        exact k_MO_canCarry_143 ha F hr hlk hK hT FU x1 x2 (0 : Int32) (x1 + (1 : Int32)) σ q hf _ _ hP hS ls (lv_sub hl [2, 3, 4, 1, 0] rfl)
      · replace hf := (if_neg c2).symm.trans hf
        refine lv_iload hx hb d_MO_canCarry_110 (lv_at hl 4 rfl) ?_
        refine lv_if_ge (tgt := 131) hx hb d_MO_canCarry_112 (by decide) (fun c3 => ?_) (fun c3 => ?_)
        · replace hf := (if_pos c3).symm.trans hf
          refine lv_iconst (v := (1 : Int32)) hx hb d_MO_canCarry_131 (by decide) ?_
          refine lv_goto (tgt := 136) hx hb d_MO_canCarry_132 (by decide) ?_
          refine lv_istore (lv' := [(6, .int (1 : Int32)), (0, .ref (a 0)), (1, .int x1), (2, .int x2), (3, .int x3), (4, .int x4), (5, .int x5), (7, .int x7)]) hx hb d_MO_canCarry_136 hl (by decide) rfl (fun ls hl => ?_)
          refine lv_iload_n hx hb d_MO_canCarry_138 rfl (lv_at hl 2 rfl) ?_
          refine lv_iconst (v := (1 : Int32)) hx hb d_MO_canCarry_139 (by decide) ?_
          refine lv_iadd hx hb d_MO_canCarry_140 ?_
          refine lv_istore (lv' := [(7, .int (x1 + (1 : Int32))), (6, .int (1 : Int32)), (0, .ref (a 0)), (1, .int x1), (2, .int x2), (3, .int x3), (4, .int x4), (5, .int x5)]) hx hb d_MO_canCarry_141 hl (by decide) rfl (fun ls hl => ?_)
          exact k_MO_canCarry_143 ha F hr hlk hK hT FU x1 x2 (1 : Int32) (x1 + (1 : Int32)) σ q hf _ _ hP hS ls (lv_sub hl [2, 3, 4, 1, 0] rfl)
        · replace hf := (if_neg c3).symm.trans hf
          refine lv_aload_n hx hb d_MO_canCarry_115 rfl (lv_at hl 0 rfl) ?_
          refine lv_aload_n hx hb d_MO_canCarry_116 rfl (lv_at hl 0 rfl) ?_
          refine lv_iload_n hx hb d_MO_canCarry_117 rfl (lv_at hl 1 rfl) ?_
          refine bdK hf (fun q4 h5 hf => ?_)
          refine rc_Vi (As := [.int x1]) (rest := [.ref (a 0)]) (b := a 0) (stM_g t) F (c_MO_blockEnd l ha x1 σ q4 h5) (cwV 1 hg gc_MO_121 rfl rfl rfl hs_MO_blockEnd ⟨Nat.le_of_ble_eq_true rfl, Nat.le_of_ble_eq_true rfl⟩) hK hT hP hS (va_recv hK hP (ci := 6) (q0 := 0) rfl rfl) rfl hl.1 rfl (Nat.le_of_ble_eq_true rfl) d_MO_canCarry_118 ⟨Nat.zero_le _, Nat.zero_le _⟩ (fun H locs hP hS => ?_)
          refine bdK hf (fun q6 h7 hf => ?_)
          refine rc_Vi (As := [.int q4.1]) (rest := []) (b := a 0) (stM_g t) F (c_MO_behind l ha q4.1 q4.2 q6 h7) (cwV 1 hg gc_MO_114 rfl rfl rfl hs_MO_behind ⟨Nat.le_of_ble_eq_true rfl, Nat.le_of_ble_eq_true rfl⟩) hK hT hP hS (va_recv hK hP (ci := 6) (q0 := 0) rfl rfl) rfl hl.1 rfl (Nat.le_of_ble_eq_true rfl) d_MO_canCarry_121 ⟨Nat.zero_le _, Nat.zero_le _⟩ (fun H locs hP hS => ?_)
          refine lv_iload_n hx hb d_MO_canCarry_124 rfl (lv_at hl 3 rfl) ?_
          refine lv_ishr hx hb d_MO_canCarry_125 ?_
          refine lv_iconst (v := (1 : Int32)) hx hb d_MO_canCarry_126 (by decide) ?_
          refine lv_iand hx hb d_MO_canCarry_127 ?_
          refine lv_if_ne (tgt := 135) hx hb d_MO_canCarry_128 (by decide) (fun c8 => ?_) (fun c8 => ?_)
          · replace hf := (if_neg c8).symm.trans hf
            refine lv_iconst (v := (0 : Int32)) hx hb d_MO_canCarry_135 (by decide) ?_
            refine lv_istore (lv' := [(6, .int (0 : Int32)), (0, .ref (a 0)), (1, .int x1), (2, .int x2), (3, .int x3), (4, .int x4), (5, .int x5), (7, .int x7)]) hx hb d_MO_canCarry_136 hl (by decide) rfl (fun ls hl => ?_)
            refine lv_iload_n hx hb d_MO_canCarry_138 rfl (lv_at hl 2 rfl) ?_
            refine lv_iconst (v := (1 : Int32)) hx hb d_MO_canCarry_139 (by decide) ?_
            refine lv_iadd hx hb d_MO_canCarry_140 ?_
            refine lv_istore (lv' := [(7, .int (x1 + (1 : Int32))), (6, .int (0 : Int32)), (0, .ref (a 0)), (1, .int x1), (2, .int x2), (3, .int x3), (4, .int x4), (5, .int x5)]) hx hb d_MO_canCarry_141 hl (by decide) rfl (fun ls hl => ?_)
            exact k_MO_canCarry_143 ha F hr hlk hK hT FU x1 x2 (0 : Int32) (x1 + (1 : Int32)) q6.2 q hf _ _ hP hS ls (lv_sub hl [2, 3, 4, 1, 0] rfl)
          · replace hf := (if_pos c8).symm.trans hf
            refine lv_iconst (v := (1 : Int32)) hx hb d_MO_canCarry_131 (by decide) ?_
            refine lv_goto (tgt := 136) hx hb d_MO_canCarry_132 (by decide) ?_
            refine lv_istore (lv' := [(6, .int (1 : Int32)), (0, .ref (a 0)), (1, .int x1), (2, .int x2), (3, .int x3), (4, .int x4), (5, .int x5), (7, .int x7)]) hx hb d_MO_canCarry_136 hl (by decide) rfl (fun ls hl => ?_)
            refine lv_iload_n hx hb d_MO_canCarry_138 rfl (lv_at hl 2 rfl) ?_
            refine lv_iconst (v := (1 : Int32)) hx hb d_MO_canCarry_139 (by decide) ?_
            refine lv_iadd hx hb d_MO_canCarry_140 ?_
            refine lv_istore (lv' := [(7, .int (x1 + (1 : Int32))), (6, .int (1 : Int32)), (0, .ref (a 0)), (1, .int x1), (2, .int x2), (3, .int x3), (4, .int x4), (5, .int x5)]) hx hb d_MO_canCarry_141 hl (by decide) rfl (fun ls hl => ?_)
            exact k_MO_canCarry_143 ha F hr hlk hK hT FU x1 x2 (1 : Int32) (x1 + (1 : Int32)) q6.2 q hf _ _ hP hS ls (lv_sub hl [2, 3, 4, 1, 0] rfl)
    · replace hf := (if_neg c1).symm.trans hf
      refine lv_iload hx hb d_MO_canCarry_71 (lv_at hl 6 rfl) ?_
      refine lv_if_eq (tgt := 96) hx hb d_MO_canCarry_73 (by decide) (fun c9 => ?_) (fun c9 => ?_)
      · replace hf := (if_pos c9).symm.trans hf
        refine lv_iconst (v := (0 : Int32)) hx hb d_MO_canCarry_96 (by decide) ?_
        refine lv_istore (lv' := [(6, .int (0 : Int32)), (0, .ref (a 0)), (1, .int x1), (2, .int x2), (3, .int x3), (4, .int x4), (5, .int x5), (7, .int x7)]) hx hb d_MO_canCarry_97 hl (by decide) rfl (fun ls hl => ?_)
        refine lv_iinc (v := (x7 + (1 : Int32))) (lv' := [(7, .int (x7 + (1 : Int32))), (6, .int (0 : Int32)), (0, .ref (a 0)), (1, .int x1), (2, .int x2), (3, .int x3), (4, .int x4), (5, .int x5)]) hx hb d_MO_canCarry_99 hl (k := 7) rfl (by rfl) (by decide) rfl (fun ls hl => ?_)
        refine lv_goto (tgt := 64) hx hb d_MO_canCarry_102 (by decide) ?_
        exact ih x1 x2 x3 x4 x5 (0 : Int32) (x7 + (1 : Int32)) σ q hf _ _ hP hS ls (lv_sub hl [2, 3, 4, 5, 6, 7, 1, 0] rfl)
      · replace hf := (if_neg c9).symm.trans hf
        refine lv_iload hx hb d_MO_canCarry_76 (lv_at hl 7 rfl) ?_
        refine lv_iload_n hx hb d_MO_canCarry_78 rfl (lv_at hl 2 rfl) ?_
        refine lv_icmp_eq (tgt := 92) hx hb d_MO_canCarry_79 (by decide) (fun c10 => ?_) (fun c10 => ?_)
        · replace hf := (if_pos c10).symm.trans hf
          refine lv_iconst (v := (1 : Int32)) hx hb d_MO_canCarry_92 (by decide) ?_
          refine lv_goto (tgt := 97) hx hb d_MO_canCarry_93 (by decide) ?_
          refine lv_istore (lv' := [(6, .int (1 : Int32)), (0, .ref (a 0)), (1, .int x1), (2, .int x2), (3, .int x3), (4, .int x4), (5, .int x5), (7, .int x7)]) hx hb d_MO_canCarry_97 hl (by decide) rfl (fun ls hl => ?_)
          refine lv_iinc (v := (x7 + (1 : Int32))) (lv' := [(7, .int (x7 + (1 : Int32))), (6, .int (1 : Int32)), (0, .ref (a 0)), (1, .int x1), (2, .int x2), (3, .int x3), (4, .int x4), (5, .int x5)]) hx hb d_MO_canCarry_99 hl (k := 7) rfl (by rfl) (by decide) rfl (fun ls hl => ?_)
          refine lv_goto (tgt := 64) hx hb d_MO_canCarry_102 (by decide) ?_
          exact ih x1 x2 x3 x4 x5 (1 : Int32) (x7 + (1 : Int32)) σ q hf _ _ hP hS ls (lv_sub hl [2, 3, 4, 5, 6, 7, 1, 0] rfl)
        · replace hf := (if_neg c10).symm.trans hf
          refine lv_aload_n hx hb d_MO_canCarry_82 rfl (lv_at hl 0 rfl) ?_
          refine lv_iload hx hb d_MO_canCarry_83 (lv_at hl 7 rfl) ?_
          refine lv_iload_n hx hb d_MO_canCarry_85 rfl (lv_at hl 3 rfl) ?_
          refine bdK hf (fun q11 h12 hf => ?_)
          refine rc_Vi (As := [.int x7, .int x3]) (rest := []) (b := a 0) (stM_g t) F (c_MO_times l ha x7 x3 σ q11 h12) (cwV 2 hg gc_MO_127 rfl rfl rfl hs_MO_times ⟨Nat.le_of_ble_eq_true rfl, Nat.le_of_ble_eq_true rfl⟩) hK hT hP hS (va_recv hK hP (ci := 6) (q0 := 0) rfl rfl) rfl hl.1 rfl (Nat.le_of_ble_eq_true rfl) d_MO_canCarry_86 ⟨Nat.zero_le _, Nat.zero_le _⟩ (fun H locs hP hS => ?_)
          refine lv_if_ne (tgt := 96) hx hb d_MO_canCarry_89 (by decide) (fun c13 => ?_) (fun c13 => ?_)
          · replace hf := (if_neg c13).symm.trans hf
            refine lv_iconst (v := (0 : Int32)) hx hb d_MO_canCarry_96 (by decide) ?_
            refine lv_istore (lv' := [(6, .int (0 : Int32)), (0, .ref (a 0)), (1, .int x1), (2, .int x2), (3, .int x3), (4, .int x4), (5, .int x5), (7, .int x7)]) hx hb d_MO_canCarry_97 hl (by decide) rfl (fun ls hl => ?_)
            refine lv_iinc (v := (x7 + (1 : Int32))) (lv' := [(7, .int (x7 + (1 : Int32))), (6, .int (0 : Int32)), (0, .ref (a 0)), (1, .int x1), (2, .int x2), (3, .int x3), (4, .int x4), (5, .int x5)]) hx hb d_MO_canCarry_99 hl (k := 7) rfl (by rfl) (by decide) rfl (fun ls hl => ?_)
            refine lv_goto (tgt := 64) hx hb d_MO_canCarry_102 (by decide) ?_
            exact ih x1 x2 x3 x4 x5 (0 : Int32) (x7 + (1 : Int32)) q11.2 q hf _ _ hP hS ls (lv_sub hl [2, 3, 4, 5, 6, 7, 1, 0] rfl)
          · replace hf := (if_pos c13).symm.trans hf
            refine lv_iconst (v := (1 : Int32)) hx hb d_MO_canCarry_92 (by decide) ?_
            refine lv_goto (tgt := 97) hx hb d_MO_canCarry_93 (by decide) ?_
            refine lv_istore (lv' := [(6, .int (1 : Int32)), (0, .ref (a 0)), (1, .int x1), (2, .int x2), (3, .int x3), (4, .int x4), (5, .int x5), (7, .int x7)]) hx hb d_MO_canCarry_97 hl (by decide) rfl (fun ls hl => ?_)
            refine lv_iinc (v := (x7 + (1 : Int32))) (lv' := [(7, .int (x7 + (1 : Int32))), (6, .int (1 : Int32)), (0, .ref (a 0)), (1, .int x1), (2, .int x2), (3, .int x3), (4, .int x4), (5, .int x5)]) hx hb d_MO_canCarry_99 hl (k := 7) rfl (by rfl) (by decide) rfl (fun ls hl => ?_)
            refine lv_goto (tgt := 64) hx hb d_MO_canCarry_102 (by decide) ?_
            exact ih x1 x2 x3 x4 x5 (1 : Int32) (x7 + (1 : Int32)) q11.2 q hf _ _ hP hS ls (lv_sub hl [2, 3, 4, 5, 6, 7, 1, 0] rfl)
def b_MO_canCarry_29 (x1 x2 x3 x4 y0 : Int32) (σ : SS) : Option (Int32 × SS) :=
  (f_MO_times x2 x3 σ).bind fun q1 => (if q1.1 = (1 : Int32) then (if x4 < 0 then b_MO_canCarry_64 FU x1 x2 x3 x4 y0 (1 : Int32) (x1 + (1 : Int32)) q1.2 else (if x4 < x2 then b_MO_canCarry_64 FU x1 x2 x3 x4 y0 (0 : Int32) (x1 + (1 : Int32)) q1.2 else b_MO_canCarry_64 FU x1 x2 x3 x4 y0 (1 : Int32) (x1 + (1 : Int32)) q1.2)) else b_MO_canCarry_64 FU x1 x2 x3 x4 y0 (0 : Int32) (x1 + (1 : Int32)) q1.2)
set_option maxHeartbeats 4000000 in
set_option maxRecDepth 100000 in
theorem k_MO_canCarry_29 {p : Program} {l : Launch} {e : Env} {s : State} {m : MethodId} {args : Array Value} {below : List Frame} {meth : Method} {c : Code} {D : va_G} {a t : Nat → Nat} {cI cZ : ClassId} (ha : aMC a) (F : CallFix p m c b_MO_canCarry 8 s args gt R_MO) (hr : meth.sig.returnType = some .boolean) (hlk : meth.locks = false) (hK : va_K D vwCl [(cI, .int), (cZ, .boolean)] s) (hT : stM t (aM a) s s.heap) :
    ∀ (x1 x2 x3 x4 y0 : Int32) (σ : SS) (q : Int32 × SS), b_MO_canCarry_29 x1 x2 x3 x4 y0 σ = some q → ∀ (H : Heap) (locs : List Loc), va_P D vwCl ((wM a cI cZ) σ) H → va_S (aM a) s.heap H locs → ∀ (ls : Array Slot), lv_has ls 8 [(0, .ref (a 0)), (1, .int x1), (2, .int x2), (3, .int x3), (4, .int x4)] → W p l e { frames := 3, cells := 0, slots := 0, locals := 67 } s m args below meth c H locs 0 0 (MQ below (va_Qi (fun r u => r = q.1 ∧ u = q.2) (pW D (wM a cI cZ) [(cI, .int), (cZ, .boolean)] (stM t) (aM a)) (aM a)) args s 0 0 (aM a)) (F0 m 29 ls [.int y0]) := by
  obtain ⟨hx, hb, hml, hown, hg⟩ := id F
  intro x1 x2 x3 x4 y0 σ q hf H locs hP hS ls hl
  unfold b_MO_canCarry_29 at hf
  refine lv_istore (lv' := [(5, .int y0), (0, .ref (a 0)), (1, .int x1), (2, .int x2), (3, .int x3), (4, .int x4)]) hx hb d_MO_canCarry_29 hl (by decide) rfl (fun ls hl => ?_)
  refine lv_aload_n hx hb d_MO_canCarry_31 rfl (lv_at hl 1 rfl) ?_
  refine lv_iload_n hx hb d_MO_canCarry_32 rfl (lv_at hl 3 rfl) ?_
  refine lv_iload_n hx hb d_MO_canCarry_33 rfl (lv_at hl 4 rfl) ?_
  refine bdK hf (fun q1 h2 hf => ?_)
  refine rc_Vi (As := [.int x2, .int x3]) (rest := []) (b := a 0) (stM_g t) F (c_MO_times l ha x2 x3 σ q1 h2) (cwV 2 hg gc_MO_127 rfl rfl rfl hs_MO_times ⟨Nat.le_of_ble_eq_true rfl, Nat.le_of_ble_eq_true rfl⟩) hK hT hP hS (va_recv hK hP (ci := 6) (q0 := 0) rfl rfl) rfl hl.1 rfl (Nat.le_of_ble_eq_true rfl) d_MO_canCarry_34 ⟨Nat.zero_le _, Nat.zero_le _⟩ (fun H locs hP hS => ?_)
  refine lv_iconst (v := (1 : Int32)) hx hb d_MO_canCarry_37 (by decide) ?_
  refine lv_icmp_ne (tgt := 56) hx hb d_MO_canCarry_38 (by decide) (fun c3 => ?_) (fun c3 => ?_)
  · replace hf := (if_neg c3).symm.trans hf
    refine lv_iconst (v := (0 : Int32)) hx hb d_MO_canCarry_56 (by decide) ?_
    refine lv_istore (lv' := [(6, .int (0 : Int32)), (5, .int y0), (0, .ref (a 0)), (1, .int x1), (2, .int x2), (3, .int x3), (4, .int x4)]) hx hb d_MO_canCarry_57 hl (by decide) rfl (fun ls hl => ?_)
    refine lv_iload_n hx hb d_MO_canCarry_59 rfl (lv_at hl 3 rfl) ?_
    refine lv_iconst (v := (1 : Int32)) hx hb d_MO_canCarry_60 (by decide) ?_
    refine lv_iadd hx hb d_MO_canCarry_61 ?_
    refine lv_istore (lv' := [(7, .int (x1 + (1 : Int32))), (6, .int (0 : Int32)), (5, .int y0), (0, .ref (a 0)), (1, .int x1), (2, .int x2), (3, .int x3), (4, .int x4)]) hx hb d_MO_canCarry_62 hl (by decide) rfl (fun ls hl => ?_)
    exact k_MO_canCarry_64 ha F hr hlk hK hT FU x1 x2 x3 x4 y0 (0 : Int32) (x1 + (1 : Int32)) q1.2 q hf _ _ hP hS ls (lv_sub hl [3, 4, 5, 6, 7, 2, 1, 0] rfl)
  · replace hf := (if_pos c3).symm.trans hf
    refine lv_iload hx hb d_MO_canCarry_41 (lv_at hl 5 rfl) ?_
    refine lv_if_lt (tgt := 52) hx hb d_MO_canCarry_43 (by decide) (fun c4 => ?_) (fun c4 => ?_)
    · replace hf := (if_pos c4).symm.trans hf
      refine lv_iconst (v := (1 : Int32)) hx hb d_MO_canCarry_52 (by decide) ?_
      refine lv_goto (tgt := 57) hx hb d_MO_canCarry_53 (by decide) ?_
      refine lv_istore (lv' := [(6, .int (1 : Int32)), (5, .int y0), (0, .ref (a 0)), (1, .int x1), (2, .int x2), (3, .int x3), (4, .int x4)]) hx hb d_MO_canCarry_57 hl (by decide) rfl (fun ls hl => ?_)
      refine lv_iload_n hx hb d_MO_canCarry_59 rfl (lv_at hl 3 rfl) ?_
      refine lv_iconst (v := (1 : Int32)) hx hb d_MO_canCarry_60 (by decide) ?_
      refine lv_iadd hx hb d_MO_canCarry_61 ?_
      refine lv_istore (lv' := [(7, .int (x1 + (1 : Int32))), (6, .int (1 : Int32)), (5, .int y0), (0, .ref (a 0)), (1, .int x1), (2, .int x2), (3, .int x3), (4, .int x4)]) hx hb d_MO_canCarry_62 hl (by decide) rfl (fun ls hl => ?_)
      exact k_MO_canCarry_64 ha F hr hlk hK hT FU x1 x2 x3 x4 y0 (1 : Int32) (x1 + (1 : Int32)) q1.2 q hf _ _ hP hS ls (lv_sub hl [3, 4, 5, 6, 7, 2, 1, 0] rfl)
    · replace hf := (if_neg c4).symm.trans hf
      refine lv_iload hx hb d_MO_canCarry_46 (lv_at hl 5 rfl) ?_
      refine lv_iload_n hx hb d_MO_canCarry_48 rfl (lv_at hl 3 rfl) ?_
      refine lv_icmp_lt (tgt := 56) hx hb d_MO_canCarry_49 (by decide) (fun c5 => ?_) (fun c5 => ?_)
      · replace hf := (if_pos c5).symm.trans hf
        refine lv_iconst (v := (0 : Int32)) hx hb d_MO_canCarry_56 (by decide) ?_
        refine lv_istore (lv' := [(6, .int (0 : Int32)), (5, .int y0), (0, .ref (a 0)), (1, .int x1), (2, .int x2), (3, .int x3), (4, .int x4)]) hx hb d_MO_canCarry_57 hl (by decide) rfl (fun ls hl => ?_)
        refine lv_iload_n hx hb d_MO_canCarry_59 rfl (lv_at hl 3 rfl) ?_
        refine lv_iconst (v := (1 : Int32)) hx hb d_MO_canCarry_60 (by decide) ?_
        refine lv_iadd hx hb d_MO_canCarry_61 ?_
        refine lv_istore (lv' := [(7, .int (x1 + (1 : Int32))), (6, .int (0 : Int32)), (5, .int y0), (0, .ref (a 0)), (1, .int x1), (2, .int x2), (3, .int x3), (4, .int x4)]) hx hb d_MO_canCarry_62 hl (by decide) rfl (fun ls hl => ?_)
        exact k_MO_canCarry_64 ha F hr hlk hK hT FU x1 x2 x3 x4 y0 (0 : Int32) (x1 + (1 : Int32)) q1.2 q hf _ _ hP hS ls (lv_sub hl [3, 4, 5, 6, 7, 2, 1, 0] rfl)
      · replace hf := (if_neg c5).symm.trans hf
        refine lv_iconst (v := (1 : Int32)) hx hb d_MO_canCarry_52 (by decide) ?_
        refine lv_goto (tgt := 57) hx hb d_MO_canCarry_53 (by decide) ?_
        refine lv_istore (lv' := [(6, .int (1 : Int32)), (5, .int y0), (0, .ref (a 0)), (1, .int x1), (2, .int x2), (3, .int x3), (4, .int x4)]) hx hb d_MO_canCarry_57 hl (by decide) rfl (fun ls hl => ?_)
        refine lv_iload_n hx hb d_MO_canCarry_59 rfl (lv_at hl 3 rfl) ?_
        refine lv_iconst (v := (1 : Int32)) hx hb d_MO_canCarry_60 (by decide) ?_
        refine lv_iadd hx hb d_MO_canCarry_61 ?_
        refine lv_istore (lv' := [(7, .int (x1 + (1 : Int32))), (6, .int (1 : Int32)), (5, .int y0), (0, .ref (a 0)), (1, .int x1), (2, .int x2), (3, .int x3), (4, .int x4)]) hx hb d_MO_canCarry_62 hl (by decide) rfl (fun ls hl => ?_)
        exact k_MO_canCarry_64 ha F hr hlk hK hT FU x1 x2 x3 x4 y0 (1 : Int32) (x1 + (1 : Int32)) q1.2 q hf _ _ hP hS ls (lv_sub hl [3, 4, 5, 6, 7, 2, 1, 0] rfl)
def f_MO_canCarry (x1 x2 : Int32) (σ : SS) : Option (Int32 × SS) :=
  (ld (σ 1) 40 x1).bind fun v1 => (f_MO_nextWriter x1 σ).bind fun q3 => (if q3.1 < 0 then (f_MO_blockEnd x1 q3.2).bind fun q6 => b_MO_canCarry_29 x1 x2 v1 q3.1 q6.1 q6.2 else b_MO_canCarry_29 x1 x2 v1 q3.1 q3.1 q3.2)
set_option maxHeartbeats 4000000 in
set_option maxRecDepth 100000 in
theorem e_MO_canCarry {p : Program} {l : Launch} {e : Env} {s : State} {m : MethodId} {args : Array Value} {below : List Frame} {meth : Method} {c : Code} {D : va_G} {a t : Nat → Nat} {cI cZ : ClassId} (ha : aMC a) (F : CallFix p m c b_MO_canCarry 8 s args gt R_MO) (hr : meth.sig.returnType = some .boolean) (hlk : meth.locks = false) (hK : va_K D vwCl [(cI, .int), (cZ, .boolean)] s) (hT : stM t (aM a) s s.heap) :
    ∀ (x1 x2 : Int32) (σ : SS) (q : Int32 × SS), f_MO_canCarry x1 x2 σ = some q → ∀ (H : Heap) (locs : List Loc), va_P D vwCl ((wM a cI cZ) σ) H → va_S (aM a) s.heap H locs → ∀ (ls : Array Slot), lv_has ls 8 [(0, .ref (a 0)), (1, .int x1), (2, .int x2)] → W p l e { frames := 3, cells := 0, slots := 0, locals := 67 } s m args below meth c H locs 0 0 (MQ below (va_Qi (fun r u => r = q.1 ∧ u = q.2) (pW D (wM a cI cZ) [(cI, .int), (cZ, .boolean)] (stM t) (aM a)) (aM a)) args s 0 0 (aM a)) (F0 m 0 ls []) := by
  obtain ⟨hx, hb, hml, hown, hg⟩ := id F
  intro x1 x2 σ q hf H locs hP hS ls hl
  unfold f_MO_canCarry at hf
  refine lv_aload_n hx hb d_MO_canCarry_0 rfl (lv_at hl 0 rfl) ?_
  refine va_get (D := D) (ci := 6) (v := .ref (a 2)) (C := R_MO) (T := T_MO) (N := 26) hx hb hg in_MO hown hK hP 0 rfl rfl 3 (by decide) (hg _ gw_586) (fun _ h9 => h9) rfl d_MO_canCarry_1 ?_
  refine lv_iload_n hx hb d_MO_canCarry_4 rfl (lv_at hl 1 rfl) ?_
  refine bdK hf (fun v1 h2 hf => ?_)
  refine r_iald hx hb hK hP 2 0 rfl rfl h2 d_MO_canCarry_5 ?_
  refine lv_istore_n (lv' := [(3, .int v1), (0, .ref (a 0)), (1, .int x1), (2, .int x2)]) hx hb d_MO_canCarry_6 rfl hl (by decide) rfl (fun ls hl => ?_)
  refine lv_aload_n hx hb d_MO_canCarry_7 rfl (lv_at hl 1 rfl) ?_
  refine lv_iload_n hx hb d_MO_canCarry_8 rfl (lv_at hl 2 rfl) ?_
  refine bdK hf (fun q3 h4 hf => ?_)
  refine rc_Vi (As := [.int x1]) (rest := []) (b := a 0) (stM_g t) F (c_MO_nextWriter l ha x1 σ q3 h4) (cwV 1 hg gc_MO_124 rfl rfl rfl hs_MO_nextWriter ⟨Nat.le_of_ble_eq_true rfl, Nat.le_of_ble_eq_true rfl⟩) hK hT hP hS (va_recv hK hP (ci := 6) (q0 := 0) rfl rfl) rfl hl.1 rfl (Nat.le_of_ble_eq_true rfl) d_MO_canCarry_9 ⟨Nat.zero_le _, Nat.zero_le _⟩ (fun H locs hP hS => ?_)
  refine lv_istore (lv' := [(4, .int q3.1), (3, .int v1), (0, .ref (a 0)), (1, .int x1), (2, .int x2)]) hx hb d_MO_canCarry_12 hl (by decide) rfl (fun ls hl => ?_)
  refine lv_iload hx hb d_MO_canCarry_14 (lv_at hl 0 rfl) ?_
  refine lv_if_lt (tgt := 24) hx hb d_MO_canCarry_16 (by decide) (fun c5 => ?_) (fun c5 => ?_)
  · replace hf := (if_pos c5).symm.trans hf
    refine lv_aload_n hx hb d_MO_canCarry_24 rfl (lv_at hl 2 rfl) ?_
    refine lv_iload_n hx hb d_MO_canCarry_25 rfl (lv_at hl 3 rfl) ?_
    refine bdK hf (fun q6 h7 hf => ?_)
    refine rc_Vi (As := [.int x1]) (rest := []) (b := a 0) (stM_g t) F (c_MO_blockEnd l ha x1 q3.2 q6 h7) (cwV 1 hg gc_MO_121 rfl rfl rfl hs_MO_blockEnd ⟨Nat.le_of_ble_eq_true rfl, Nat.le_of_ble_eq_true rfl⟩) hK hT hP hS (va_recv hK hP (ci := 6) (q0 := 0) rfl rfl) rfl hl.1 rfl (Nat.le_of_ble_eq_true rfl) d_MO_canCarry_26 ⟨Nat.zero_le _, Nat.zero_le _⟩ (fun H locs hP hS => ?_)
    exact k_MO_canCarry_29 ha F hr hlk hK hT x1 x2 v1 q3.1 q6.1 q6.2 q hf _ _ hP hS ls (lv_sub hl [2, 3, 4, 1, 0] rfl)
  · replace hf := (if_neg c5).symm.trans hf
    refine lv_iload hx hb d_MO_canCarry_19 (lv_at hl 0 rfl) ?_
    refine lv_goto (tgt := 29) hx hb d_MO_canCarry_21 (by decide) ?_
    exact k_MO_canCarry_29 ha F hr hlk hK hT x1 x2 v1 q3.1 q3.1 q3.2 q hf _ _ hP hS ls (lv_sub hl [2, 3, 4, 1, 0] rfl)
set_option maxHeartbeats 4000000 in
set_option maxRecDepth 100000 in
theorem c_MO_canCarry (l : Launch) {D : va_G} {a t : Nat → Nat} {cI cZ : ClassId} (ha : aMC a) (x1 x2 : Int32) (σ : SS) (q : Int32 × SS) (hf : f_MO_canCarry x1 x2 σ = some q) : Met l y_MO_canCarry ws_MO_canCarry { frames := 3, cells := 0, slots := 0, locals := 67 } (va_Pc [.ref (a 0), .int x1, .int x2] (pW D (wM a cI cZ) [(cI, .int), (cZ, .boolean)] (stM t) (aM a) σ)) (va_Qi (fun r u => r = q.1 ∧ u = q.2) (pW D (wM a cI cZ) [(cI, .int), (cZ, .boolean)] (stM t) (aM a)) (aM a)) 0 0 (aM a) := by
  refine Met.ofW (cc := b_MO_canCarry) (maxL := 8) (ret := some .boolean) (by decide) rfl ?_
  intro p e s m args below meth c s₁ B hml hv
  obtain ⟨rfl, hP, hK, hT⟩ := hv
  have hl := lv_entry ([.ref (a 0), .int x1, .int x2]) (n := 8) (Nat.le_of_ble_eq_true rfl)
  rw [lg_entry_eq]
  generalize (lg_sl ([.ref (a 0), .int x1, .int x2]) ++ List.replicate (8 - (lg_sl ([.ref (a 0), .int x1, .int x2])).length) Slot.unset).toArray = ls at hl ⊢
  exact e_MO_canCarry ha ⟨B.exec, B.bytes, hml, findClass_of_methodNamed B.named, fun w h => atoms_spec (ws := ws_MO_canCarry) B.pre w (List.mem_cons_of_mem _ h)⟩ B.returns B.notSynchronized hK hT x1 x2 σ q hf s.heap [] hP va_S.rf ls hl
