theorem d_CA_isReadByNoneBut_0 : decode b_CA_isReadByNoneBut 0 = .ok (.aload_n 0, 1) := by decide +kernel
theorem d_CA_isReadByNoneBut_1 : decode b_CA_isReadByNoneBut 1 = .ok (.getfield 31, 3) := by decide +kernel
theorem d_CA_isReadByNoneBut_4 : decode b_CA_isReadByNoneBut 4 = .ok (.iload_n 2, 1) := by decide +kernel
theorem d_CA_isReadByNoneBut_5 : decode b_CA_isReadByNoneBut 5 = .ok (.invokevirtual 99, 3) := by decide +kernel
theorem d_CA_isReadByNoneBut_8 : decode b_CA_isReadByNoneBut 8 = .ok (.istore_n 3, 1) := by decide +kernel
theorem d_CA_isReadByNoneBut_9 : decode b_CA_isReadByNoneBut 9 = .ok (.iload_n 2, 1) := by decide +kernel
theorem d_CA_isReadByNoneBut_10 : decode b_CA_isReadByNoneBut 10 = .ok (.istore 4, 2) := by decide +kernel
theorem d_CA_isReadByNoneBut_12 : decode b_CA_isReadByNoneBut 12 = .ok (.iload_n 2, 1) := by decide +kernel
theorem d_CA_isReadByNoneBut_13 : decode b_CA_isReadByNoneBut 13 = .ok (.iconst 1, 1) := by decide +kernel
theorem d_CA_isReadByNoneBut_14 : decode b_CA_isReadByNoneBut 14 = .ok (.iadd, 1) := by decide +kernel
theorem d_CA_isReadByNoneBut_15 : decode b_CA_isReadByNoneBut 15 = .ok (.istore 5, 2) := by decide +kernel
theorem d_CA_isReadByNoneBut_17 : decode b_CA_isReadByNoneBut 17 = .ok (.iload 5, 2) := by decide +kernel
theorem d_CA_isReadByNoneBut_19 : decode b_CA_isReadByNoneBut 19 = .ok (.aload_n 0, 1) := by decide +kernel
theorem d_CA_isReadByNoneBut_20 : decode b_CA_isReadByNoneBut 20 = .ok (.getfield 31, 3) := by decide +kernel
theorem d_CA_isReadByNoneBut_23 : decode b_CA_isReadByNoneBut 23 = .ok (.invokevirtual 43, 3) := by decide +kernel
theorem d_CA_isReadByNoneBut_26 : decode b_CA_isReadByNoneBut 26 = .ok (.if_icmp .ge 61, 3) := by decide +kernel
theorem d_CA_isReadByNoneBut_29 : decode b_CA_isReadByNoneBut 29 = .ok (.aload_n 0, 1) := by decide +kernel
theorem d_CA_isReadByNoneBut_30 : decode b_CA_isReadByNoneBut 30 = .ok (.getfield 35, 3) := by decide +kernel
theorem d_CA_isReadByNoneBut_33 : decode b_CA_isReadByNoneBut 33 = .ok (.iload 5, 2) := by decide +kernel
theorem d_CA_isReadByNoneBut_35 : decode b_CA_isReadByNoneBut 35 = .ok (.invokevirtual 94, 3) := by decide +kernel
theorem d_CA_isReadByNoneBut_38 : decode b_CA_isReadByNoneBut 38 = .ok (.ifCond .ne 49, 3) := by decide +kernel
theorem d_CA_isReadByNoneBut_41 : decode b_CA_isReadByNoneBut 41 = .ok (.iload 5, 2) := by decide +kernel
theorem d_CA_isReadByNoneBut_43 : decode b_CA_isReadByNoneBut 43 = .ok (.iload_n 1, 1) := by decide +kernel
theorem d_CA_isReadByNoneBut_44 : decode b_CA_isReadByNoneBut 44 = .ok (.if_icmp .eq 18, 3) := by decide +kernel
theorem d_CA_isReadByNoneBut_47 : decode b_CA_isReadByNoneBut 47 = .ok (.aload_n 0, 1) := by decide +kernel
theorem d_CA_isReadByNoneBut_48 : decode b_CA_isReadByNoneBut 48 = .ok (.getfield 31, 3) := by decide +kernel
theorem d_CA_isReadByNoneBut_51 : decode b_CA_isReadByNoneBut 51 = .ok (.iload 5, 2) := by decide +kernel
theorem d_CA_isReadByNoneBut_53 : decode b_CA_isReadByNoneBut 53 = .ok (.iload_n 3, 1) := by decide +kernel
theorem d_CA_isReadByNoneBut_54 : decode b_CA_isReadByNoneBut 54 = .ok (.invokevirtual 102, 3) := by decide +kernel
theorem d_CA_isReadByNoneBut_57 : decode b_CA_isReadByNoneBut 57 = .ok (.ifCond .eq 5, 3) := by decide +kernel
theorem d_CA_isReadByNoneBut_60 : decode b_CA_isReadByNoneBut 60 = .ok (.iconst 0, 1) := by decide +kernel
theorem d_CA_isReadByNoneBut_61 : decode b_CA_isReadByNoneBut 61 = .ok (.ireturn, 1) := by decide +kernel
theorem d_CA_isReadByNoneBut_62 : decode b_CA_isReadByNoneBut 62 = .ok (.aload_n 0, 1) := by decide +kernel
theorem d_CA_isReadByNoneBut_63 : decode b_CA_isReadByNoneBut 63 = .ok (.getfield 31, 3) := by decide +kernel
theorem d_CA_isReadByNoneBut_66 : decode b_CA_isReadByNoneBut 66 = .ok (.iload 5, 2) := by decide +kernel
theorem d_CA_isReadByNoneBut_68 : decode b_CA_isReadByNoneBut 68 = .ok (.invokevirtual 99, 3) := by decide +kernel
theorem d_CA_isReadByNoneBut_71 : decode b_CA_isReadByNoneBut 71 = .ok (.iload_n 3, 1) := by decide +kernel
theorem d_CA_isReadByNoneBut_72 : decode b_CA_isReadByNoneBut 72 = .ok (.if_icmp .ne 5, 3) := by decide +kernel
theorem d_CA_isReadByNoneBut_75 : decode b_CA_isReadByNoneBut 75 = .ok (.iconst 1, 1) := by decide +kernel
theorem d_CA_isReadByNoneBut_76 : decode b_CA_isReadByNoneBut 76 = .ok (.ireturn, 1) := by decide +kernel
theorem d_CA_isReadByNoneBut_77 : decode b_CA_isReadByNoneBut 77 = .ok (.iload 5, 2) := by decide +kernel
theorem d_CA_isReadByNoneBut_79 : decode b_CA_isReadByNoneBut 79 = .ok (.istore 4, 2) := by decide +kernel
theorem d_CA_isReadByNoneBut_81 : decode b_CA_isReadByNoneBut 81 = .ok (.iinc 5 1, 3) := by decide +kernel
theorem d_CA_isReadByNoneBut_84 : decode b_CA_isReadByNoneBut 84 = .ok (.goto (-67), 3) := by decide +kernel
theorem d_CA_isReadByNoneBut_87 : decode b_CA_isReadByNoneBut 87 = .ok (.aload_n 0, 1) := by decide +kernel
theorem d_CA_isReadByNoneBut_88 : decode b_CA_isReadByNoneBut 88 = .ok (.getfield 35, 3) := by decide +kernel
theorem d_CA_isReadByNoneBut_91 : decode b_CA_isReadByNoneBut 91 = .ok (.iload 4, 2) := by decide +kernel
theorem d_CA_isReadByNoneBut_93 : decode b_CA_isReadByNoneBut 93 = .ok (.invokevirtual 105, 3) := by decide +kernel
theorem d_CA_isReadByNoneBut_96 : decode b_CA_isReadByNoneBut 96 = .ok (.iload_n 3, 1) := by decide +kernel
theorem d_CA_isReadByNoneBut_97 : decode b_CA_isReadByNoneBut 97 = .ok (.invokestatic 108, 3) := by decide +kernel
theorem d_CA_isReadByNoneBut_100 : decode b_CA_isReadByNoneBut 100 = .ok (.iand, 1) := by decide +kernel
theorem d_CA_isReadByNoneBut_101 : decode b_CA_isReadByNoneBut 101 = .ok (.ifCond .ne 7, 3) := by decide +kernel
theorem d_CA_isReadByNoneBut_104 : decode b_CA_isReadByNoneBut 104 = .ok (.iconst 1, 1) := by decide +kernel
theorem d_CA_isReadByNoneBut_105 : decode b_CA_isReadByNoneBut 105 = .ok (.goto 4, 3) := by decide +kernel
theorem d_CA_isReadByNoneBut_108 : decode b_CA_isReadByNoneBut 108 = .ok (.iconst 0, 1) := by decide +kernel
theorem d_CA_isReadByNoneBut_109 : decode b_CA_isReadByNoneBut 109 = .ok (.ireturn, 1) := by decide +kernel
theorem gc_CA_105 : GoodIn gt (wsV R_CA 105 R_FL y_FL_liveAfter ws_FL_liveAfter) := gd_V gw_324 gw_325 gw_326 gw_3 gw_327
theorem gc_CA_108 : GoodIn gt (va_wsS R_CA 108 y_FL_setOf ws_FL_setOf) := gd_T gw_328 gw_279 gw_3 gw_280
theorem gc_CA_43 : GoodIn gt (wsV R_CA 43 R_RC y_RC_count ws_RC_count) := gd_V gw_293 gw_189 gw_190 gw_2 gw_191
theorem gc_CA_102 : GoodIn gt (wsV R_CA 102 R_RC y_RC_reads ws_RC_reads) := gd_V gw_320 gw_321 gw_322 gw_2 gw_323
def b_CA_isReadByNoneBut_87 (x3 x4 : Int32) (σ : SS) : Option (Int32 × SS) :=
  (f_FL_liveAfter x4 σ).bind fun q1 => (f_FL_setOf x3 q1.2).bind fun q3 => (if (q1.1 &&& q3.1) = 0 then some ((1 : Int32), q3.2) else some ((0 : Int32), q3.2))
set_option maxHeartbeats 4000000 in
set_option maxRecDepth 100000 in
theorem k_CA_isReadByNoneBut_87 {p : Program} {l : Launch} {e : Env} {s : State} {m : MethodId} {args : Array Value} {below : List Frame} {meth : Method} {c : Code} {D : va_G} {a t : Nat → Nat} {cI cZ : ClassId} (ha : aCC a) (F : CallFix p m c b_CA_isReadByNoneBut 6 s args gt R_CA) (hr : meth.sig.returnType = some .boolean) (hlk : meth.locks = false) (hK : va_K D vwCl [(cI, .int), (cZ, .boolean)] s) (hT : stC t (aC a) s s.heap) :
    ∀ (x3 x4 : Int32) (σ : SS) (q : Int32 × SS), b_CA_isReadByNoneBut_87 x3 x4 σ = some q → ∀ (H : Heap) (locs : List Loc), va_P D vwCl ((wC a cI cZ) σ) H → va_S (aC a) s.heap H locs → ∀ (ls : Array Slot), lv_has ls 6 [(0, .ref (a 3)), (3, .int x3), (4, .int x4)] → W p l e { frames := 1, cells := 0, slots := 0, locals := 22 } s m args below meth c H locs 0 0 (MQ below (va_Qi (fun r u => r = q.1 ∧ u = q.2) (pW D (wC a cI cZ) [(cI, .int), (cZ, .boolean)] (stC t) (aC a)) (aC a)) args s 0 0 (aC a)) (F0 m 87 ls []) := by
  obtain ⟨hx, hb, hml, hown, hg⟩ := id F
  intro x3 x4 σ q hf H locs hP hS ls hl
  unfold b_CA_isReadByNoneBut_87 at hf
  refine lv_aload_n hx hb d_CA_isReadByNoneBut_87 rfl (lv_at hl 0 rfl) ?_
  refine va_get (D := D) (ci := 3) (v := .ref (a 2)) (C := R_CA) (T := T_CA) (N := 9) hx hb hg in_CA hown hK hP 3 rfl rfl 1 (by decide) (hg _ gw_76) (fun _ h9 => h9) rfl d_CA_isReadByNoneBut_88 ?_
  refine lv_iload hx hb d_CA_isReadByNoneBut_91 (lv_at hl 2 rfl) ?_
  refine bdK hf (fun q1 h2 hf => ?_)
  refine rc_Vi (As := [.int x4]) (rest := []) (b := a 2) (stC_g t) F (c_FL_liveAfter l ha x4 σ q1 h2) (cwV 1 hg gc_CA_105 rfl rfl rfl hs_FL_liveAfter ⟨Nat.le_of_ble_eq_true rfl, Nat.le_of_ble_eq_true rfl⟩) hK hT hP hS (va_recv hK hP (ci := 2) (q0 := 2) rfl rfl) rfl hl.1 rfl (Nat.le_of_ble_eq_true rfl) d_CA_isReadByNoneBut_93 ⟨Nat.zero_le _, Nat.zero_le _⟩ (fun H locs hP hS => ?_)
  refine lv_iload_n hx hb d_CA_isReadByNoneBut_96 rfl (lv_at hl 1 rfl) ?_
  refine bdK hf (fun q3 h4 hf => ?_)
  refine rc_Si (As := [.int x3]) (rest := [.int q1.1]) (stC_g t) F (c_FL_setOf l ha x3 q1.2 q3 h4) (va_cwS 1 hg gc_CA_108 rfl rfl rfl ht_FL_setOf ⟨Nat.le_of_ble_eq_true rfl, Nat.le_of_ble_eq_true rfl⟩) hK hT hP hS rfl hl.1 rfl (Nat.le_of_ble_eq_true rfl) d_CA_isReadByNoneBut_97 ⟨Nat.zero_le _, Nat.zero_le _⟩ (fun H locs hP hS => ?_)
  refine lv_iand hx hb d_CA_isReadByNoneBut_100 ?_
  refine lv_if_ne (tgt := 108) hx hb d_CA_isReadByNoneBut_101 (by decide) (fun c5 => ?_) (fun c5 => ?_)
  · replace hf := (if_neg c5).symm.trans hf
    refine lv_iconst (v := (0 : Int32)) hx hb d_CA_isReadByNoneBut_108 (by decide) ?_
    exact rr_z hx hb hr hlk (stC_g t) hK hT hP hS (Or.inl rfl) hf d_CA_isReadByNoneBut_109
  · replace hf := (if_pos c5).symm.trans hf
    refine lv_iconst (v := (1 : Int32)) hx hb d_CA_isReadByNoneBut_104 (by decide) ?_
    refine lv_goto (tgt := 109) hx hb d_CA_isReadByNoneBut_105 (by decide) ?_
    exact rr_z hx hb hr hlk (stC_g t) hK hT hP hS (Or.inr rfl) hf d_CA_isReadByNoneBut_109
def b_CA_isReadByNoneBut_17 : Nat → Int32 → Int32 → Int32 → Int32 → SS → Option (Int32 × SS)
  | 0, _, _, _, _, _ => none
  | n + 1, x1, x3, x4, x5, σ =>
    (f_RC_count σ).bind fun q1 => (if q1.1 ≤ x5 then b_CA_isReadByNoneBut_87 x3 x4 q1.2 else (f_FL_beginsBlock x5 q1.2).bind fun q4 => (if q4.1 = 0 then (if x5 = x1 then (f_RC_writtenBy x5 q4.2).bind fun q8 => (if q8.1 = x3 then some ((1 : Int32), q8.2) else b_CA_isReadByNoneBut_17 n x1 x3 x5 (x5 + (1 : Int32)) q8.2) else (f_RC_reads x5 x3 q4.2).bind fun q11 => (if q11.1 = 0 then (f_RC_writtenBy x5 q11.2).bind fun q14 => (if q14.1 = x3 then some ((1 : Int32), q14.2) else b_CA_isReadByNoneBut_17 n x1 x3 x5 (x5 + (1 : Int32)) q14.2) else some ((0 : Int32), q11.2))) else b_CA_isReadByNoneBut_87 x3 x4 q4.2))
set_option maxHeartbeats 4000000 in
set_option maxRecDepth 100000 in
theorem k_CA_isReadByNoneBut_17 {p : Program} {l : Launch} {e : Env} {s : State} {m : MethodId} {args : Array Value} {below : List Frame} {meth : Method} {c : Code} {D : va_G} {a t : Nat → Nat} {cI cZ : ClassId} (ha : aCC a) (F : CallFix p m c b_CA_isReadByNoneBut 6 s args gt R_CA) (hr : meth.sig.returnType = some .boolean) (hlk : meth.locks = false) (hK : va_K D vwCl [(cI, .int), (cZ, .boolean)] s) (hT : stC t (aC a) s s.heap) :
    ∀ (n : Nat) (x1 x3 x4 x5 : Int32) (σ : SS) (q : Int32 × SS), b_CA_isReadByNoneBut_17 n x1 x3 x4 x5 σ = some q → ∀ (H : Heap) (locs : List Loc), va_P D vwCl ((wC a cI cZ) σ) H → va_S (aC a) s.heap H locs → ∀ (ls : Array Slot), lv_has ls 6 [(0, .ref (a 3)), (1, .int x1), (3, .int x3), (4, .int x4), (5, .int x5)] → W p l e { frames := 1, cells := 0, slots := 0, locals := 22 } s m args below meth c H locs 0 0 (MQ below (va_Qi (fun r u => r = q.1 ∧ u = q.2) (pW D (wC a cI cZ) [(cI, .int), (cZ, .boolean)] (stC t) (aC a)) (aC a)) args s 0 0 (aC a)) (F0 m 17 ls []) := by
  obtain ⟨hx, hb, hml, hown, hg⟩ := id F
  intro n
  induction n with
  | zero =>
    intro x1 x3 x4 x5 σ q hf
    rw [b_CA_isReadByNoneBut_17] at hf
    cases hf
  | succ n ih =>
    intro x1 x3 x4 x5 σ q hf H locs hP hS ls hl
    rw [b_CA_isReadByNoneBut_17] at hf
    refine lv_iload hx hb d_CA_isReadByNoneBut_17 (lv_at hl 4 rfl) ?_
    refine lv_aload_n hx hb d_CA_isReadByNoneBut_19 rfl (lv_at hl 0 rfl) ?_
    refine va_get (D := D) (ci := 3) (v := .ref (a 1)) (C := R_CA) (T := T_CA) (N := 9) hx hb hg in_CA hown hK hP 3 rfl rfl 0 (by decide) (hg _ gw_75) (fun _ h9 => h9) rfl d_CA_isReadByNoneBut_20 ?_
    refine bdK hf (fun q1 h2 hf => ?_)
    refine rc_Vi (As := []) (rest := [.int x5]) (b := a 1) (stC_g t) F (c_RC_count l ha σ q1 h2) (cwV 0 hg gc_CA_43 rfl rfl rfl hs_RC_count ⟨Nat.le_of_ble_eq_true rfl, Nat.le_of_ble_eq_true rfl⟩) hK hT hP hS (va_recv hK hP (ci := 1) (q0 := 1) rfl rfl) rfl hl.1 rfl (Nat.le_of_ble_eq_true rfl) d_CA_isReadByNoneBut_23 ⟨Nat.zero_le _, Nat.zero_le _⟩ (fun H locs hP hS => ?_)
    refine lv_icmp_ge (tgt := 87) hx hb d_CA_isReadByNoneBut_26 (by decide) (fun c3 => ?_) (fun c3 => ?_)
    · replace hf := (if_pos c3).symm.trans hf
      exact k_CA_isReadByNoneBut_87 ha F hr hlk hK hT x3 x4 q1.2 q hf _ _ hP hS ls (lv_sub hl [0, 2, 3] rfl)
    · replace hf := (if_neg c3).symm.trans hf
      refine lv_aload_n hx hb d_CA_isReadByNoneBut_29 rfl (lv_at hl 0 rfl) ?_
      refine va_get (D := D) (ci := 3) (v := .ref (a 2)) (C := R_CA) (T := T_CA) (N := 9) hx hb hg in_CA hown hK hP 3 rfl rfl 1 (by decide) (hg _ gw_76) (fun _ h9 => h9) rfl d_CA_isReadByNoneBut_30 ?_
      refine lv_iload hx hb d_CA_isReadByNoneBut_33 (lv_at hl 4 rfl) ?_
      refine bdK hf (fun q4 h5 hf => ?_)
      refine rc_Vi (As := [.int x5]) (rest := []) (b := a 2) (stC_g t) F (c_FL_beginsBlock l ha x5 q1.2 q4 h5) (cwV 1 hg gc_CA_94 rfl rfl rfl hs_FL_beginsBlock ⟨Nat.le_of_ble_eq_true rfl, Nat.le_of_ble_eq_true rfl⟩) hK hT hP hS (va_recv hK hP (ci := 2) (q0 := 2) rfl rfl) rfl hl.1 rfl (Nat.le_of_ble_eq_true rfl) d_CA_isReadByNoneBut_35 ⟨Nat.zero_le _, Nat.zero_le _⟩ (fun H locs hP hS => ?_)
      refine lv_if_ne (tgt := 87) hx hb d_CA_isReadByNoneBut_38 (by decide) (fun c6 => ?_) (fun c6 => ?_)
      · replace hf := (if_neg c6).symm.trans hf
        exact k_CA_isReadByNoneBut_87 ha F hr hlk hK hT x3 x4 q4.2 q hf _ _ hP hS ls (lv_sub hl [0, 2, 3] rfl)
      · replace hf := (if_pos c6).symm.trans hf
        refine lv_iload hx hb d_CA_isReadByNoneBut_41 (lv_at hl 4 rfl) ?_
        refine lv_iload_n hx hb d_CA_isReadByNoneBut_43 rfl (lv_at hl 1 rfl) ?_
        refine lv_icmp_eq (tgt := 62) hx hb d_CA_isReadByNoneBut_44 (by decide) (fun c7 => ?_) (fun c7 => ?_)
        · replace hf := (if_pos c7).symm.trans hf
          refine lv_aload_n hx hb d_CA_isReadByNoneBut_62 rfl (lv_at hl 0 rfl) ?_
          refine va_get (D := D) (ci := 3) (v := .ref (a 1)) (C := R_CA) (T := T_CA) (N := 9) hx hb hg in_CA hown hK hP 3 rfl rfl 0 (by decide) (hg _ gw_75) (fun _ h9 => h9) rfl d_CA_isReadByNoneBut_63 ?_
          refine lv_iload hx hb d_CA_isReadByNoneBut_66 (lv_at hl 4 rfl) ?_
          refine bdK hf (fun q8 h9 hf => ?_)
          refine rc_Vi (As := [.int x5]) (rest := []) (b := a 1) (stC_g t) F (c_RC_writtenBy l ha x5 q4.2 q8 h9) (cwV 1 hg gc_CA_99 rfl rfl rfl hs_RC_writtenBy ⟨Nat.le_of_ble_eq_true rfl, Nat.le_of_ble_eq_true rfl⟩) hK hT hP hS (va_recv hK hP (ci := 1) (q0 := 1) rfl rfl) rfl hl.1 rfl (Nat.le_of_ble_eq_true rfl) d_CA_isReadByNoneBut_68 ⟨Nat.zero_le _, Nat.zero_le _⟩ (fun H locs hP hS => ?_)
          refine lv_iload_n hx hb d_CA_isReadByNoneBut_71 rfl (lv_at hl 2 rfl) ?_
          refine lv_icmp_ne (tgt := 77) hx hb d_CA_isReadByNoneBut_72 (by decide) (fun c10 => ?_) (fun c10 => ?_)
          · replace hf := (if_neg c10).symm.trans hf
            refine lv_iload hx hb d_CA_isReadByNoneBut_77 (lv_at hl 4 rfl) ?_
            refine lv_istore (lv' := [(4, .int x5), (0, .ref (a 3)), (1, .int x1), (3, .int x3), (5, .int x5)]) hx hb d_CA_isReadByNoneBut_79 hl (by decide) rfl (fun ls hl => ?_)
            refine lv_iinc (v := (x5 + (1 : Int32))) (lv' := [(5, .int (x5 + (1 : Int32))), (4, .int x5), (0, .ref (a 3)), (1, .int x1), (3, .int x3)]) hx hb d_CA_isReadByNoneBut_81 hl (k := 4) rfl (by rfl) (by decide) rfl (fun ls hl => ?_)
            refine lv_goto (tgt := 17) hx hb d_CA_isReadByNoneBut_84 (by decide) ?_
            exact ih x1 x3 x5 (x5 + (1 : Int32)) q8.2 q hf _ _ hP hS ls (lv_sub hl [2, 3, 4, 1, 0] rfl)
          · replace hf := (if_pos c10).symm.trans hf
            refine lv_iconst (v := (1 : Int32)) hx hb d_CA_isReadByNoneBut_75 (by decide) ?_
            exact rr_z hx hb hr hlk (stC_g t) hK hT hP hS (Or.inr rfl) hf d_CA_isReadByNoneBut_76
        · replace hf := (if_neg c7).symm.trans hf
          refine lv_aload_n hx hb d_CA_isReadByNoneBut_47 rfl (lv_at hl 0 rfl) ?_
          refine va_get (D := D) (ci := 3) (v := .ref (a 1)) (C := R_CA) (T := T_CA) (N := 9) hx hb hg in_CA hown hK hP 3 rfl rfl 0 (by decide) (hg _ gw_75) (fun _ h9 => h9) rfl d_CA_isReadByNoneBut_48 ?_
          refine lv_iload hx hb d_CA_isReadByNoneBut_51 (lv_at hl 4 rfl) ?_
          refine lv_iload_n hx hb d_CA_isReadByNoneBut_53 rfl (lv_at hl 2 rfl) ?_
          refine bdK hf (fun q11 h12 hf => ?_)
          refine rc_Vi (As := [.int x5, .int x3]) (rest := []) (b := a 1) (stC_g t) F (c_RC_reads l ha x5 x3 q4.2 q11 h12) (cwV 2 hg gc_CA_102 rfl rfl rfl hs_RC_reads ⟨Nat.le_of_ble_eq_true rfl, Nat.le_of_ble_eq_true rfl⟩) hK hT hP hS (va_recv hK hP (ci := 1) (q0 := 1) rfl rfl) rfl hl.1 rfl (Nat.le_of_ble_eq_true rfl) d_CA_isReadByNoneBut_54 ⟨Nat.zero_le _, Nat.zero_le _⟩ (fun H locs hP hS => ?_)
          refine lv_if_eq (tgt := 62) hx hb d_CA_isReadByNoneBut_57 (by decide) (fun c13 => ?_) (fun c13 => ?_)
          · replace hf := (if_pos c13).symm.trans hf
            refine lv_aload_n hx hb d_CA_isReadByNoneBut_62 rfl (lv_at hl 0 rfl) ?_
            refine va_get (D := D) (ci := 3) (v := .ref (a 1)) (C := R_CA) (T := T_CA) (N := 9) hx hb hg in_CA hown hK hP 3 rfl rfl 0 (by decide) (hg _ gw_75) (fun _ h9 => h9) rfl d_CA_isReadByNoneBut_63 ?_
            refine lv_iload hx hb d_CA_isReadByNoneBut_66 (lv_at hl 4 rfl) ?_
            refine bdK hf (fun q14 h15 hf => ?_)
            refine rc_Vi (As := [.int x5]) (rest := []) (b := a 1) (stC_g t) F (c_RC_writtenBy l ha x5 q11.2 q14 h15) (cwV 1 hg gc_CA_99 rfl rfl rfl hs_RC_writtenBy ⟨Nat.le_of_ble_eq_true rfl, Nat.le_of_ble_eq_true rfl⟩) hK hT hP hS (va_recv hK hP (ci := 1) (q0 := 1) rfl rfl) rfl hl.1 rfl (Nat.le_of_ble_eq_true rfl) d_CA_isReadByNoneBut_68 ⟨Nat.zero_le _, Nat.zero_le _⟩ (fun H locs hP hS => ?_)
            refine lv_iload_n hx hb d_CA_isReadByNoneBut_71 rfl (lv_at hl 2 rfl) ?_
            refine lv_icmp_ne (tgt := 77) hx hb d_CA_isReadByNoneBut_72 (by decide) (fun c16 => ?_) (fun c16 => ?_)
            · replace hf := (if_neg c16).symm.trans hf
              refine lv_iload hx hb d_CA_isReadByNoneBut_77 (lv_at hl 4 rfl) ?_
              refine lv_istore (lv' := [(4, .int x5), (0, .ref (a 3)), (1, .int x1), (3, .int x3), (5, .int x5)]) hx hb d_CA_isReadByNoneBut_79 hl (by decide) rfl (fun ls hl => ?_)
              refine lv_iinc (v := (x5 + (1 : Int32))) (lv' := [(5, .int (x5 + (1 : Int32))), (4, .int x5), (0, .ref (a 3)), (1, .int x1), (3, .int x3)]) hx hb d_CA_isReadByNoneBut_81 hl (k := 4) rfl (by rfl) (by decide) rfl (fun ls hl => ?_)
              refine lv_goto (tgt := 17) hx hb d_CA_isReadByNoneBut_84 (by decide) ?_
              exact ih x1 x3 x5 (x5 + (1 : Int32)) q14.2 q hf _ _ hP hS ls (lv_sub hl [2, 3, 4, 1, 0] rfl)
            · replace hf := (if_pos c16).symm.trans hf
              refine lv_iconst (v := (1 : Int32)) hx hb d_CA_isReadByNoneBut_75 (by decide) ?_
              exact rr_z hx hb hr hlk (stC_g t) hK hT hP hS (Or.inr rfl) hf d_CA_isReadByNoneBut_76
          · replace hf := (if_neg c13).symm.trans hf
            refine lv_iconst (v := (0 : Int32)) hx hb d_CA_isReadByNoneBut_60 (by decide) ?_
            exact rr_z hx hb hr hlk (stC_g t) hK hT hP hS (Or.inl rfl) hf d_CA_isReadByNoneBut_61
def f_CA_isReadByNoneBut (x1 x2 : Int32) (σ : SS) : Option (Int32 × SS) :=
  (f_RC_writtenBy x2 σ).bind fun q1 => b_CA_isReadByNoneBut_17 FU x1 q1.1 x2 (x2 + (1 : Int32)) q1.2
set_option maxHeartbeats 4000000 in
set_option maxRecDepth 100000 in
theorem e_CA_isReadByNoneBut {p : Program} {l : Launch} {e : Env} {s : State} {m : MethodId} {args : Array Value} {below : List Frame} {meth : Method} {c : Code} {D : va_G} {a t : Nat → Nat} {cI cZ : ClassId} (ha : aCC a) (F : CallFix p m c b_CA_isReadByNoneBut 6 s args gt R_CA) (hr : meth.sig.returnType = some .boolean) (hlk : meth.locks = false) (hK : va_K D vwCl [(cI, .int), (cZ, .boolean)] s) (hT : stC t (aC a) s s.heap) :
    ∀ (x1 x2 : Int32) (σ : SS) (q : Int32 × SS), f_CA_isReadByNoneBut x1 x2 σ = some q → ∀ (H : Heap) (locs : List Loc), va_P D vwCl ((wC a cI cZ) σ) H → va_S (aC a) s.heap H locs → ∀ (ls : Array Slot), lv_has ls 6 [(0, .ref (a 3)), (1, .int x1), (2, .int x2)] → W p l e { frames := 1, cells := 0, slots := 0, locals := 22 } s m args below meth c H locs 0 0 (MQ below (va_Qi (fun r u => r = q.1 ∧ u = q.2) (pW D (wC a cI cZ) [(cI, .int), (cZ, .boolean)] (stC t) (aC a)) (aC a)) args s 0 0 (aC a)) (F0 m 0 ls []) := by
  obtain ⟨hx, hb, hml, hown, hg⟩ := id F
  intro x1 x2 σ q hf H locs hP hS ls hl
  unfold f_CA_isReadByNoneBut at hf
  refine lv_aload_n hx hb d_CA_isReadByNoneBut_0 rfl (lv_at hl 0 rfl) ?_
  refine va_get (D := D) (ci := 3) (v := .ref (a 1)) (C := R_CA) (T := T_CA) (N := 9) hx hb hg in_CA hown hK hP 3 rfl rfl 0 (by decide) (hg _ gw_75) (fun _ h9 => h9) rfl d_CA_isReadByNoneBut_1 ?_
  refine lv_iload_n hx hb d_CA_isReadByNoneBut_4 rfl (lv_at hl 2 rfl) ?_
  refine bdK hf (fun q1 h2 hf => ?_)
  refine rc_Vi (As := [.int x2]) (rest := []) (b := a 1) (stC_g t) F (c_RC_writtenBy l ha x2 σ q1 h2) (cwV 1 hg gc_CA_99 rfl rfl rfl hs_RC_writtenBy ⟨Nat.le_of_ble_eq_true rfl, Nat.le_of_ble_eq_true rfl⟩) hK hT hP hS (va_recv hK hP (ci := 1) (q0 := 1) rfl rfl) rfl hl.1 rfl (Nat.le_of_ble_eq_true rfl) d_CA_isReadByNoneBut_5 ⟨Nat.zero_le _, Nat.zero_le _⟩ (fun H locs hP hS => ?_)
  refine lv_istore_n (lv' := [(3, .int q1.1), (0, .ref (a 3)), (1, .int x1), (2, .int x2)]) hx hb d_CA_isReadByNoneBut_8 rfl hl (by decide) rfl (fun ls hl => ?_)
  refine lv_iload_n hx hb d_CA_isReadByNoneBut_9 rfl (lv_at hl 3 rfl) ?_
  refine lv_istore (lv' := [(4, .int x2), (3, .int q1.1), (0, .ref (a 3)), (1, .int x1), (2, .int x2)]) hx hb d_CA_isReadByNoneBut_10 hl (by decide) rfl (fun ls hl => ?_)
  refine lv_iload_n hx hb d_CA_isReadByNoneBut_12 rfl (lv_at hl 4 rfl) ?_
  refine lv_iconst (v := (1 : Int32)) hx hb d_CA_isReadByNoneBut_13 (by decide) ?_
  refine lv_iadd hx hb d_CA_isReadByNoneBut_14 ?_
  refine lv_istore (lv' := [(5, .int (x2 + (1 : Int32))), (4, .int x2), (3, .int q1.1), (0, .ref (a 3)), (1, .int x1), (2, .int x2)]) hx hb d_CA_isReadByNoneBut_15 hl (by decide) rfl (fun ls hl => ?_)
  exact k_CA_isReadByNoneBut_17 ha F hr hlk hK hT FU x1 q1.1 x2 (x2 + (1 : Int32)) q1.2 q hf _ _ hP hS ls (lv_sub hl [3, 4, 2, 1, 0] rfl)
set_option maxHeartbeats 4000000 in
set_option maxRecDepth 100000 in
theorem c_CA_isReadByNoneBut (l : Launch) {D : va_G} {a t : Nat → Nat} {cI cZ : ClassId} (ha : aCC a) (x1 x2 : Int32) (σ : SS) (q : Int32 × SS) (hf : f_CA_isReadByNoneBut x1 x2 σ = some q) : Met l y_CA_isReadByNoneBut ws_CA_isReadByNoneBut { frames := 1, cells := 0, slots := 0, locals := 22 } (va_Pc [.ref (a 3), .int x1, .int x2] (pW D (wC a cI cZ) [(cI, .int), (cZ, .boolean)] (stC t) (aC a) σ)) (va_Qi (fun r u => r = q.1 ∧ u = q.2) (pW D (wC a cI cZ) [(cI, .int), (cZ, .boolean)] (stC t) (aC a)) (aC a)) 0 0 (aC a) := by
  refine Met.ofW (cc := b_CA_isReadByNoneBut) (maxL := 6) (ret := some .boolean) (by decide) rfl ?_
  intro p e s m args below meth c s₁ B hml hv
  obtain ⟨rfl, hP, hK, hT⟩ := hv
  have hl := lv_entry ([.ref (a 3), .int x1, .int x2]) (n := 6) (Nat.le_of_ble_eq_true rfl)
  rw [lg_entry_eq]
  generalize (lg_sl ([.ref (a 3), .int x1, .int x2]) ++ List.replicate (6 - (lg_sl ([.ref (a 3), .int x1, .int x2])).length) Slot.unset).toArray = ls at hl ⊢
  exact e_CA_isReadByNoneBut ha ⟨B.exec, B.bytes, hml, findClass_of_methodNamed B.named, fun w h => atoms_spec (ws := ws_CA_isReadByNoneBut) B.pre w (List.mem_cons_of_mem _ h)⟩ B.returns B.notSynchronized hK hT x1 x2 σ q hf s.heap [] hP va_S.rf ls hl
theorem d_CA_canWait_0 : decode b_CA_canWait 0 = .ok (.iload_n 1, 1) := by decide +kernel
theorem d_CA_canWait_1 : decode b_CA_canWait 1 = .ok (.iconst 1, 1) := by decide +kernel
theorem d_CA_canWait_2 : decode b_CA_canWait 2 = .ok (.iadd, 1) := by decide +kernel
theorem d_CA_canWait_3 : decode b_CA_canWait 3 = .ok (.istore_n 3, 1) := by decide +kernel
theorem d_CA_canWait_4 : decode b_CA_canWait 4 = .ok (.iload_n 3, 1) := by decide +kernel
theorem d_CA_canWait_5 : decode b_CA_canWait 5 = .ok (.iload_n 2, 1) := by decide +kernel
theorem d_CA_canWait_6 : decode b_CA_canWait 6 = .ok (.if_icmp .ge 56, 3) := by decide +kernel
theorem d_CA_canWait_9 : decode b_CA_canWait 9 = .ok (.aload_n 0, 1) := by decide +kernel
theorem d_CA_canWait_10 : decode b_CA_canWait 10 = .ok (.getfield 24, 3) := by decide +kernel
theorem d_CA_canWait_13 : decode b_CA_canWait 13 = .ok (.iload_n 1, 1) := by decide +kernel
theorem d_CA_canWait_14 : decode b_CA_canWait 14 = .ok (.iaload, 1) := by decide +kernel
theorem d_CA_canWait_15 : decode b_CA_canWait 15 = .ok (.aload_n 0, 1) := by decide +kernel
theorem d_CA_canWait_16 : decode b_CA_canWait 16 = .ok (.getfield 31, 3) := by decide +kernel
theorem d_CA_canWait_19 : decode b_CA_canWait 19 = .ok (.iload_n 3, 1) := by decide +kernel
theorem d_CA_canWait_20 : decode b_CA_canWait 20 = .ok (.invokevirtual 99, 3) := by decide +kernel
theorem d_CA_canWait_23 : decode b_CA_canWait 23 = .ok (.invokestatic 108, 3) := by decide +kernel
theorem d_CA_canWait_26 : decode b_CA_canWait 26 = .ok (.iand, 1) := by decide +kernel
theorem d_CA_canWait_27 : decode b_CA_canWait 27 = .ok (.ifCond .eq 5, 3) := by decide +kernel
theorem d_CA_canWait_30 : decode b_CA_canWait 30 = .ok (.iconst 0, 1) := by decide +kernel
theorem d_CA_canWait_31 : decode b_CA_canWait 31 = .ok (.ireturn, 1) := by decide +kernel
theorem d_CA_canWait_32 : decode b_CA_canWait 32 = .ok (.aload_n 0, 1) := by decide +kernel
theorem d_CA_canWait_33 : decode b_CA_canWait 33 = .ok (.getfield 27, 3) := by decide +kernel
theorem d_CA_canWait_36 : decode b_CA_canWait 36 = .ok (.iload_n 1, 1) := by decide +kernel
theorem d_CA_canWait_37 : decode b_CA_canWait 37 = .ok (.baload, 1) := by decide +kernel
theorem d_CA_canWait_38 : decode b_CA_canWait 38 = .ok (.ifCond .eq 18, 3) := by decide +kernel
theorem d_CA_canWait_41 : decode b_CA_canWait 41 = .ok (.aload_n 0, 1) := by decide +kernel
theorem d_CA_canWait_42 : decode b_CA_canWait 42 = .ok (.getfield 31, 3) := by decide +kernel
theorem d_CA_canWait_45 : decode b_CA_canWait 45 = .ok (.iload_n 3, 1) := by decide +kernel
theorem d_CA_canWait_46 : decode b_CA_canWait 46 = .ok (.invokevirtual 74, 3) := by decide +kernel
theorem d_CA_canWait_49 : decode b_CA_canWait 49 = .ok (.bipush 7, 2) := by decide +kernel
theorem d_CA_canWait_51 : decode b_CA_canWait 51 = .ok (.if_icmp .ne 5, 3) := by decide +kernel
theorem d_CA_canWait_54 : decode b_CA_canWait 54 = .ok (.iconst 0, 1) := by decide +kernel
theorem d_CA_canWait_55 : decode b_CA_canWait 55 = .ok (.ireturn, 1) := by decide +kernel
theorem d_CA_canWait_56 : decode b_CA_canWait 56 = .ok (.iinc 3 1, 3) := by decide +kernel
theorem d_CA_canWait_59 : decode b_CA_canWait 59 = .ok (.goto (-55), 3) := by decide +kernel
theorem d_CA_canWait_62 : decode b_CA_canWait 62 = .ok (.iconst 1, 1) := by decide +kernel
theorem d_CA_canWait_63 : decode b_CA_canWait 63 = .ok (.ireturn, 1) := by decide +kernel
theorem gc_CA_74 : GoodIn gt (wsV R_CA 74 R_RC y_RC_operationOf ws_RC_operationOf) := gd_V gw_333 gw_246 gw_247 gw_2 gw_248
def b_CA_canWait_4 : Nat → Int32 → Int32 → Int32 → SS → Option (Int32 × SS)
  | 0, _, _, _, _ => none
  | n + 1, x1, x2, x3, σ =>
    (if x2 ≤ x3 then some ((1 : Int32), σ) else (ld (σ 14) 40 x1).bind fun v2 => (f_RC_writtenBy x3 σ).bind fun q4 => (f_FL_setOf q4.1 q4.2).bind fun q6 => (if (v2 &&& q6.1) = 0 then (ld (q6.2 15) 40 x1).bind fun v9 => (if v9 = 0 then b_CA_canWait_4 n x1 x2 (x3 + (1 : Int32)) q6.2 else (f_RC_operationOf x3 q6.2).bind fun q12 => (if q12.1 = (7 : Int32) then some ((0 : Int32), q12.2) else b_CA_canWait_4 n x1 x2 (x3 + (1 : Int32)) q12.2)) else some ((0 : Int32), q6.2)))
set_option maxHeartbeats 4000000 in
set_option maxRecDepth 100000 in
theorem k_CA_canWait_4 {p : Program} {l : Launch} {e : Env} {s : State} {m : MethodId} {args : Array Value} {below : List Frame} {meth : Method} {c : Code} {D : va_G} {a t : Nat → Nat} {cI cZ : ClassId} (ha : aCC a) (F : CallFix p m c b_CA_canWait 4 s args gt R_CA) (hr : meth.sig.returnType = some .boolean) (hlk : meth.locks = false) (hK : va_K D vwCl [(cI, .int), (cZ, .boolean)] s) (hT : stC t (aC a) s s.heap) :
    ∀ (n : Nat) (x1 x2 x3 : Int32) (σ : SS) (q : Int32 × SS), b_CA_canWait_4 n x1 x2 x3 σ = some q → ∀ (H : Heap) (locs : List Loc), va_P D vwCl ((wC a cI cZ) σ) H → va_S (aC a) s.heap H locs → ∀ (ls : Array Slot), lv_has ls 4 [(0, .ref (a 3)), (1, .int x1), (2, .int x2), (3, .int x3)] → W p l e { frames := 1, cells := 0, slots := 0, locals := 21 } s m args below meth c H locs 0 0 (MQ below (va_Qi (fun r u => r = q.1 ∧ u = q.2) (pW D (wC a cI cZ) [(cI, .int), (cZ, .boolean)] (stC t) (aC a)) (aC a)) args s 0 0 (aC a)) (F0 m 4 ls []) := by
  obtain ⟨hx, hb, hml, hown, hg⟩ := id F
  intro n
  induction n with
  | zero =>
    intro x1 x2 x3 σ q hf
    rw [b_CA_canWait_4] at hf
    cases hf
  | succ n ih =>
    intro x1 x2 x3 σ q hf H locs hP hS ls hl
    rw [b_CA_canWait_4] at hf
    refine lv_iload_n hx hb d_CA_canWait_4 rfl (lv_at hl 3 rfl) ?_
    refine lv_iload_n hx hb d_CA_canWait_5 rfl (lv_at hl 2 rfl) ?_
    refine lv_icmp_ge (tgt := 62) hx hb d_CA_canWait_6 (by decide) (fun c1 => ?_) (fun c1 => ?_)
    · replace hf := (if_pos c1).symm.trans hf
      refine lv_iconst (v := (1 : Int32)) hx hb d_CA_canWait_62 (by decide) ?_
      exact rr_z hx hb hr hlk (stC_g t) hK hT hP hS (Or.inr rfl) hf d_CA_canWait_63
    · replace hf := (if_neg c1).symm.trans hf
      refine lv_aload_n hx hb d_CA_canWait_9 rfl (lv_at hl 0 rfl) ?_
      refine va_get (D := D) (ci := 3) (v := .ref (a 20)) (C := R_CA) (T := T_CA) (N := 9) hx hb hg in_CA hown hK hP 3 rfl rfl 7 (by decide) (hg _ gw_82) (fun _ h9 => h9) rfl d_CA_canWait_10 ?_
      refine lv_iload_n hx hb d_CA_canWait_13 rfl (lv_at hl 1 rfl) ?_
      refine bdK hf (fun v2 h3 hf => ?_)
      refine r_iald hx hb hK hP 20 0 rfl rfl h3 d_CA_canWait_14 ?_
      refine lv_aload_n hx hb d_CA_canWait_15 rfl (lv_at hl 0 rfl) ?_
      refine va_get (D := D) (ci := 3) (v := .ref (a 1)) (C := R_CA) (T := T_CA) (N := 9) hx hb hg in_CA hown hK hP 3 rfl rfl 0 (by decide) (hg _ gw_75) (fun _ h9 => h9) rfl d_CA_canWait_16 ?_
      refine lv_iload_n hx hb d_CA_canWait_19 rfl (lv_at hl 3 rfl) ?_
      refine bdK hf (fun q4 h5 hf => ?_)
      refine rc_Vi (As := [.int x3]) (rest := [.int v2]) (b := a 1) (stC_g t) F (c_RC_writtenBy l ha x3 σ q4 h5) (cwV 1 hg gc_CA_99 rfl rfl rfl hs_RC_writtenBy ⟨Nat.le_of_ble_eq_true rfl, Nat.le_of_ble_eq_true rfl⟩) hK hT hP hS (va_recv hK hP (ci := 1) (q0 := 1) rfl rfl) rfl hl.1 rfl (Nat.le_of_ble_eq_true rfl) d_CA_canWait_20 ⟨Nat.zero_le _, Nat.zero_le _⟩ (fun H locs hP hS => ?_)
      refine bdK hf (fun q6 h7 hf => ?_)
      refine rc_Si (As := [.int q4.1]) (rest := [.int v2]) (stC_g t) F (c_FL_setOf l ha q4.1 q4.2 q6 h7) (va_cwS 1 hg gc_CA_108 rfl rfl rfl ht_FL_setOf ⟨Nat.le_of_ble_eq_true rfl, Nat.le_of_ble_eq_true rfl⟩) hK hT hP hS rfl hl.1 rfl (Nat.le_of_ble_eq_true rfl) d_CA_canWait_23 ⟨Nat.zero_le _, Nat.zero_le _⟩ (fun H locs hP hS => ?_)
      refine lv_iand hx hb d_CA_canWait_26 ?_
      refine lv_if_eq (tgt := 32) hx hb d_CA_canWait_27 (by decide) (fun c8 => ?_) (fun c8 => ?_)
      · replace hf := (if_pos c8).symm.trans hf
        refine lv_aload_n hx hb d_CA_canWait_32 rfl (lv_at hl 0 rfl) ?_
        refine va_get (D := D) (ci := 3) (v := .ref (a 21)) (C := R_CA) (T := T_CA) (N := 9) hx hb hg in_CA hown hK hP 3 rfl rfl 8 (by decide) (hg _ gw_83) (fun _ h9 => h9) rfl d_CA_canWait_33 ?_
        refine lv_iload_n hx hb d_CA_canWait_36 rfl (lv_at hl 1 rfl) ?_
        refine bdK hf (fun v9 h10 hf => ?_)
        refine r_zald hx hb hK hP 21 1 rfl rfl h10 d_CA_canWait_37 ?_
        refine lv_if_eq (tgt := 56) hx hb d_CA_canWait_38 (by decide) (fun c11 => ?_) (fun c11 => ?_)
        · replace hf := (if_pos c11).symm.trans hf
          refine lv_iinc (v := (x3 + (1 : Int32))) (lv' := [(3, .int (x3 + (1 : Int32))), (0, .ref (a 3)), (1, .int x1), (2, .int x2)]) hx hb d_CA_canWait_56 hl (k := 3) rfl (by rfl) (by decide) rfl (fun ls hl => ?_)
          refine lv_goto (tgt := 4) hx hb d_CA_canWait_59 (by decide) ?_
          exact ih x1 x2 (x3 + (1 : Int32)) q6.2 q hf _ _ hP hS ls (lv_sub hl [1, 2, 3, 0] rfl)
        · replace hf := (if_neg c11).symm.trans hf
          refine lv_aload_n hx hb d_CA_canWait_41 rfl (lv_at hl 0 rfl) ?_
          refine va_get (D := D) (ci := 3) (v := .ref (a 1)) (C := R_CA) (T := T_CA) (N := 9) hx hb hg in_CA hown hK hP 3 rfl rfl 0 (by decide) (hg _ gw_75) (fun _ h9 => h9) rfl d_CA_canWait_42 ?_
          refine lv_iload_n hx hb d_CA_canWait_45 rfl (lv_at hl 3 rfl) ?_
          refine bdK hf (fun q12 h13 hf => ?_)
          refine rc_Vi (As := [.int x3]) (rest := []) (b := a 1) (stC_g t) F (c_RC_operationOf l ha x3 q6.2 q12 h13) (cwV 1 hg gc_CA_74 rfl rfl rfl hs_RC_operationOf ⟨Nat.le_of_ble_eq_true rfl, Nat.le_of_ble_eq_true rfl⟩) hK hT hP hS (va_recv hK hP (ci := 1) (q0 := 1) rfl rfl) rfl hl.1 rfl (Nat.le_of_ble_eq_true rfl) d_CA_canWait_46 ⟨Nat.zero_le _, Nat.zero_le _⟩ (fun H locs hP hS => ?_)
          refine lv_bipush (v := (7 : Int32)) hx hb d_CA_canWait_49 (by decide) ?_
          refine lv_icmp_ne (tgt := 56) hx hb d_CA_canWait_51 (by decide) (fun c14 => ?_) (fun c14 => ?_)
          · replace hf := (if_neg c14).symm.trans hf
            refine lv_iinc (v := (x3 + (1 : Int32))) (lv' := [(3, .int (x3 + (1 : Int32))), (0, .ref (a 3)), (1, .int x1), (2, .int x2)]) hx hb d_CA_canWait_56 hl (k := 3) rfl (by rfl) (by decide) rfl (fun ls hl => ?_)
            refine lv_goto (tgt := 4) hx hb d_CA_canWait_59 (by decide) ?_
            exact ih x1 x2 (x3 + (1 : Int32)) q12.2 q hf _ _ hP hS ls (lv_sub hl [1, 2, 3, 0] rfl)
          · replace hf := (if_pos c14).symm.trans hf
            refine lv_iconst (v := (0 : Int32)) hx hb d_CA_canWait_54 (by decide) ?_
            exact rr_z hx hb hr hlk (stC_g t) hK hT hP hS (Or.inl rfl) hf d_CA_canWait_55
      · replace hf := (if_neg c8).symm.trans hf
        refine lv_iconst (v := (0 : Int32)) hx hb d_CA_canWait_30 (by decide) ?_
        exact rr_z hx hb hr hlk (stC_g t) hK hT hP hS (Or.inl rfl) hf d_CA_canWait_31
def f_CA_canWait (x1 x2 : Int32) (σ : SS) : Option (Int32 × SS) :=
  b_CA_canWait_4 FU x1 x2 (x1 + (1 : Int32)) σ
set_option maxHeartbeats 4000000 in
set_option maxRecDepth 100000 in
theorem e_CA_canWait {p : Program} {l : Launch} {e : Env} {s : State} {m : MethodId} {args : Array Value} {below : List Frame} {meth : Method} {c : Code} {D : va_G} {a t : Nat → Nat} {cI cZ : ClassId} (ha : aCC a) (F : CallFix p m c b_CA_canWait 4 s args gt R_CA) (hr : meth.sig.returnType = some .boolean) (hlk : meth.locks = false) (hK : va_K D vwCl [(cI, .int), (cZ, .boolean)] s) (hT : stC t (aC a) s s.heap) :
    ∀ (x1 x2 : Int32) (σ : SS) (q : Int32 × SS), f_CA_canWait x1 x2 σ = some q → ∀ (H : Heap) (locs : List Loc), va_P D vwCl ((wC a cI cZ) σ) H → va_S (aC a) s.heap H locs → ∀ (ls : Array Slot), lv_has ls 4 [(0, .ref (a 3)), (1, .int x1), (2, .int x2)] → W p l e { frames := 1, cells := 0, slots := 0, locals := 21 } s m args below meth c H locs 0 0 (MQ below (va_Qi (fun r u => r = q.1 ∧ u = q.2) (pW D (wC a cI cZ) [(cI, .int), (cZ, .boolean)] (stC t) (aC a)) (aC a)) args s 0 0 (aC a)) (F0 m 0 ls []) := by
  obtain ⟨hx, hb, hml, hown, hg⟩ := id F
  intro x1 x2 σ q hf H locs hP hS ls hl
  unfold f_CA_canWait at hf
  refine lv_iload_n hx hb d_CA_canWait_0 rfl (lv_at hl 1 rfl) ?_
  refine lv_iconst (v := (1 : Int32)) hx hb d_CA_canWait_1 (by decide) ?_
  refine lv_iadd hx hb d_CA_canWait_2 ?_
  refine lv_istore_n (lv' := [(3, .int (x1 + (1 : Int32))), (0, .ref (a 3)), (1, .int x1), (2, .int x2)]) hx hb d_CA_canWait_3 rfl hl (by decide) rfl (fun ls hl => ?_)
  exact k_CA_canWait_4 ha F hr hlk hK hT FU x1 x2 (x1 + (1 : Int32)) σ q hf _ _ hP hS ls (lv_sub hl [1, 2, 3, 0] rfl)
set_option maxHeartbeats 4000000 in
set_option maxRecDepth 100000 in
theorem c_CA_canWait (l : Launch) {D : va_G} {a t : Nat → Nat} {cI cZ : ClassId} (ha : aCC a) (x1 x2 : Int32) (σ : SS) (q : Int32 × SS) (hf : f_CA_canWait x1 x2 σ = some q) : Met l y_CA_canWait ws_CA_canWait { frames := 1, cells := 0, slots := 0, locals := 21 } (va_Pc [.ref (a 3), .int x1, .int x2] (pW D (wC a cI cZ) [(cI, .int), (cZ, .boolean)] (stC t) (aC a) σ)) (va_Qi (fun r u => r = q.1 ∧ u = q.2) (pW D (wC a cI cZ) [(cI, .int), (cZ, .boolean)] (stC t) (aC a)) (aC a)) 0 0 (aC a) := by
  refine Met.ofW (cc := b_CA_canWait) (maxL := 4) (ret := some .boolean) (by decide) rfl ?_
  intro p e s m args below meth c s₁ B hml hv
  obtain ⟨rfl, hP, hK, hT⟩ := hv
  have hl := lv_entry ([.ref (a 3), .int x1, .int x2]) (n := 4) (Nat.le_of_ble_eq_true rfl)
  rw [lg_entry_eq]
  generalize (lg_sl ([.ref (a 3), .int x1, .int x2]) ++ List.replicate (4 - (lg_sl ([.ref (a 3), .int x1, .int x2])).length) Slot.unset).toArray = ls at hl ⊢
  exact e_CA_canWait ha ⟨B.exec, B.bytes, hml, findClass_of_methodNamed B.named, fun w h => atoms_spec (ws := ws_CA_canWait) B.pre w (List.mem_cons_of_mem _ h)⟩ B.returns B.notSynchronized hK hT x1 x2 σ q hf s.heap [] hP va_S.rf ls hl
theorem d_CA_carriable_0 : decode b_CA_carriable 0 = .ok (.aload_n 0, 1) := by decide +kernel
theorem d_CA_carriable_1 : decode b_CA_carriable 1 = .ok (.iload_n 1, 1) := by decide +kernel
theorem d_CA_carriable_2 : decode b_CA_carriable 2 = .ok (.iload_n 2, 1) := by decide +kernel
theorem d_CA_carriable_3 : decode b_CA_carriable 3 = .ok (.invokevirtual 81, 3) := by decide +kernel
theorem d_CA_carriable_6 : decode b_CA_carriable 6 = .ok (.istore_n 3, 1) := by decide +kernel
theorem d_CA_carriable_7 : decode b_CA_carriable 7 = .ok (.iload_n 3, 1) := by decide +kernel
theorem d_CA_carriable_8 : decode b_CA_carriable 8 = .ok (.iconst (-1), 1) := by decide +kernel
theorem d_CA_carriable_9 : decode b_CA_carriable 9 = .ok (.if_icmp .eq 37, 3) := by decide +kernel
theorem d_CA_carriable_12 : decode b_CA_carriable 12 = .ok (.aload_n 0, 1) := by decide +kernel
theorem d_CA_carriable_13 : decode b_CA_carriable 13 = .ok (.getfield 31, 3) := by decide +kernel
theorem d_CA_carriable_16 : decode b_CA_carriable 16 = .ok (.iload_n 2, 1) := by decide +kernel
theorem d_CA_carriable_17 : decode b_CA_carriable 17 = .ok (.iload_n 1, 1) := by decide +kernel
theorem d_CA_carriable_18 : decode b_CA_carriable 18 = .ok (.invokevirtual 84, 3) := by decide +kernel
theorem d_CA_carriable_21 : decode b_CA_carriable 21 = .ok (.ifCond .eq 25, 3) := by decide +kernel
theorem d_CA_carriable_24 : decode b_CA_carriable 24 = .ok (.aload_n 0, 1) := by decide +kernel
theorem d_CA_carriable_25 : decode b_CA_carriable 25 = .ok (.iload_n 2, 1) := by decide +kernel
theorem d_CA_carriable_26 : decode b_CA_carriable 26 = .ok (.iload_n 3, 1) := by decide +kernel
theorem d_CA_carriable_27 : decode b_CA_carriable 27 = .ok (.invokevirtual 88, 3) := by decide +kernel
theorem d_CA_carriable_30 : decode b_CA_carriable 30 = .ok (.ifCond .eq 16, 3) := by decide +kernel
theorem d_CA_carriable_33 : decode b_CA_carriable 33 = .ok (.aload_n 0, 1) := by decide +kernel
theorem d_CA_carriable_34 : decode b_CA_carriable 34 = .ok (.iload_n 3, 1) := by decide +kernel
theorem d_CA_carriable_35 : decode b_CA_carriable 35 = .ok (.iload_n 2, 1) := by decide +kernel
theorem d_CA_carriable_36 : decode b_CA_carriable 36 = .ok (.invokevirtual 91, 3) := by decide +kernel
theorem d_CA_carriable_39 : decode b_CA_carriable 39 = .ok (.ifCond .eq 7, 3) := by decide +kernel
theorem d_CA_carriable_42 : decode b_CA_carriable 42 = .ok (.iconst 1, 1) := by decide +kernel
theorem d_CA_carriable_43 : decode b_CA_carriable 43 = .ok (.goto 4, 3) := by decide +kernel
theorem d_CA_carriable_46 : decode b_CA_carriable 46 = .ok (.iconst 0, 1) := by decide +kernel
theorem d_CA_carriable_47 : decode b_CA_carriable 47 = .ok (.istore 4, 2) := by decide +kernel
theorem d_CA_carriable_49 : decode b_CA_carriable 49 = .ok (.iload 4, 2) := by decide +kernel
theorem d_CA_carriable_51 : decode b_CA_carriable 51 = .ok (.ifCond .eq 7, 3) := by decide +kernel
theorem d_CA_carriable_54 : decode b_CA_carriable 54 = .ok (.iload_n 3, 1) := by decide +kernel
theorem d_CA_carriable_55 : decode b_CA_carriable 55 = .ok (.goto 4, 3) := by decide +kernel
theorem d_CA_carriable_58 : decode b_CA_carriable 58 = .ok (.iconst (-1), 1) := by decide +kernel
theorem d_CA_carriable_59 : decode b_CA_carriable 59 = .ok (.ireturn, 1) := by decide +kernel
theorem gc_CA_81 : GoodIn gt (wsV R_CA 81 R_CA y_CA_lastWriter ws_CA_lastWriter) := gd_V gw_303 gw_305 gs_7 gw_4 gw_306
theorem gc_CA_84 : GoodIn gt (wsV R_CA 84 R_RC y_RC_readsOnce ws_RC_readsOnce) := gd_V gw_312 gw_313 gw_314 gw_2 gw_315
theorem gc_CA_88 : GoodIn gt (wsV R_CA 88 R_CA y_CA_isReadByNoneBut ws_CA_isReadByNoneBut) := gd_V gw_316 gw_318 gs_8 gw_4 gw_319
theorem gc_CA_91 : GoodIn gt (wsV R_CA 91 R_CA y_CA_canWait ws_CA_canWait) := gd_V gw_329 gw_331 gs_9 gw_4 gw_332
def b_CA_carriable_46 (x3 : Int32) (σ : SS) : Option (Int32 × SS) :=
  (if (0 : Int32) = 0 then some ((-1 : Int32), σ) else some (x3, σ))
set_option maxHeartbeats 4000000 in
set_option maxRecDepth 100000 in
theorem k_CA_carriable_46 {p : Program} {l : Launch} {e : Env} {s : State} {m : MethodId} {args : Array Value} {below : List Frame} {meth : Method} {c : Code} {D : va_G} {a t : Nat → Nat} {cI cZ : ClassId} (ha : aCC a) (F : CallFix p m c b_CA_carriable 5 s args gt R_CA) (hr : meth.sig.returnType = some .int) (hlk : meth.locks = false) (hK : va_K D vwCl [(cI, .int), (cZ, .boolean)] s) (hT : stC t (aC a) s s.heap) :
    ∀ (x3 : Int32) (σ : SS) (q : Int32 × SS), b_CA_carriable_46 x3 σ = some q → ∀ (H : Heap) (locs : List Loc), va_P D vwCl ((wC a cI cZ) σ) H → va_S (aC a) s.heap H locs → ∀ (ls : Array Slot), lv_has ls 5 [(0, .ref (a 3)), (3, .int x3)] → W p l e { frames := 2, cells := 0, slots := 0, locals := 47 } s m args below meth c H locs 0 0 (MQ below (va_Qi (fun r u => r = q.1 ∧ u = q.2) (pW D (wC a cI cZ) [(cI, .int), (cZ, .boolean)] (stC t) (aC a)) (aC a)) args s 0 0 (aC a)) (F0 m 46 ls []) := by
  obtain ⟨hx, hb, hml, hown, hg⟩ := id F
  intro x3 σ q hf H locs hP hS ls hl
  unfold b_CA_carriable_46 at hf
  refine lv_iconst (v := (0 : Int32)) hx hb d_CA_carriable_46 (by decide) ?_
  refine lv_istore (lv' := [(4, .int (0 : Int32)), (0, .ref (a 3)), (3, .int x3)]) hx hb d_CA_carriable_47 hl (by decide) rfl (fun ls hl => ?_)
  refine lv_iload hx hb d_CA_carriable_49 (lv_at hl 0 rfl) ?_
  refine lv_if_eq (tgt := 58) hx hb d_CA_carriable_51 (by decide) (fun c1 => ?_) (fun c1 => ?_)
  · replace hf := (if_pos c1).symm.trans hf
    refine lv_iconst (v := (-1 : Int32)) hx hb d_CA_carriable_58 (by decide) ?_
    exact rr_i hx hb hr hlk (stC_g t) hK hT hP hS hf d_CA_carriable_59
  · replace hf := (if_neg c1).symm.trans hf
    refine lv_iload_n hx hb d_CA_carriable_54 rfl (lv_at hl 2 rfl) ?_
    refine lv_goto (tgt := 59) hx hb d_CA_carriable_55 (by decide) ?_
    exact rr_i hx hb hr hlk (stC_g t) hK hT hP hS hf d_CA_carriable_59
def f_CA_carriable (x1 x2 : Int32) (σ : SS) : Option (Int32 × SS) :=
  (f_CA_lastWriter x1 x2 σ).bind fun q1 => (if q1.1 = (-1 : Int32) then b_CA_carriable_46 q1.1 q1.2 else (f_RC_readsOnce x2 x1 q1.2).bind fun q4 => (if q4.1 = 0 then b_CA_carriable_46 q1.1 q4.2 else (f_CA_isReadByNoneBut x2 q1.1 q4.2).bind fun q7 => (if q7.1 = 0 then b_CA_carriable_46 q1.1 q7.2 else (f_CA_canWait q1.1 x2 q7.2).bind fun q10 => (if q10.1 = 0 then b_CA_carriable_46 q1.1 q10.2 else (if (1 : Int32) = 0 then some ((-1 : Int32), q10.2) else some (q1.1, q10.2))))))
set_option maxHeartbeats 4000000 in
set_option maxRecDepth 100000 in
theorem e_CA_carriable {p : Program} {l : Launch} {e : Env} {s : State} {m : MethodId} {args : Array Value} {below : List Frame} {meth : Method} {c : Code} {D : va_G} {a t : Nat → Nat} {cI cZ : ClassId} (ha : aCC a) (F : CallFix p m c b_CA_carriable 5 s args gt R_CA) (hr : meth.sig.returnType = some .int) (hlk : meth.locks = false) (hK : va_K D vwCl [(cI, .int), (cZ, .boolean)] s) (hT : stC t (aC a) s s.heap) :
    ∀ (x1 x2 : Int32) (σ : SS) (q : Int32 × SS), f_CA_carriable x1 x2 σ = some q → ∀ (H : Heap) (locs : List Loc), va_P D vwCl ((wC a cI cZ) σ) H → va_S (aC a) s.heap H locs → ∀ (ls : Array Slot), lv_has ls 5 [(0, .ref (a 3)), (1, .int x1), (2, .int x2)] → W p l e { frames := 2, cells := 0, slots := 0, locals := 47 } s m args below meth c H locs 0 0 (MQ below (va_Qi (fun r u => r = q.1 ∧ u = q.2) (pW D (wC a cI cZ) [(cI, .int), (cZ, .boolean)] (stC t) (aC a)) (aC a)) args s 0 0 (aC a)) (F0 m 0 ls []) := by
  obtain ⟨hx, hb, hml, hown, hg⟩ := id F
  intro x1 x2 σ q hf H locs hP hS ls hl
  unfold f_CA_carriable at hf
  refine lv_aload_n hx hb d_CA_carriable_0 rfl (lv_at hl 0 rfl) ?_
  refine lv_iload_n hx hb d_CA_carriable_1 rfl (lv_at hl 1 rfl) ?_
  refine lv_iload_n hx hb d_CA_carriable_2 rfl (lv_at hl 2 rfl) ?_
  refine bdK hf (fun q1 h2 hf => ?_)
  refine rc_Vi (As := [.int x1, .int x2]) (rest := []) (b := a 3) (stC_g t) F (c_CA_lastWriter l ha x1 x2 σ q1 h2) (cwV 2 hg gc_CA_81 rfl rfl rfl hs_CA_lastWriter ⟨Nat.le_of_ble_eq_true rfl, Nat.le_of_ble_eq_true rfl⟩) hK hT hP hS (va_recv hK hP (ci := 3) (q0 := 3) rfl rfl) rfl hl.1 rfl (Nat.le_of_ble_eq_true rfl) d_CA_carriable_3 ⟨Nat.zero_le _, Nat.zero_le _⟩ (fun H locs hP hS => ?_)
  refine lv_istore_n (lv' := [(3, .int q1.1), (0, .ref (a 3)), (1, .int x1), (2, .int x2)]) hx hb d_CA_carriable_6 rfl hl (by decide) rfl (fun ls hl => ?_)
  refine lv_iload_n hx hb d_CA_carriable_7 rfl (lv_at hl 0 rfl) ?_
  refine lv_iconst (v := (-1 : Int32)) hx hb d_CA_carriable_8 (by decide) ?_
  refine lv_icmp_eq (tgt := 46) hx hb d_CA_carriable_9 (by decide) (fun c3 => ?_) (fun c3 => ?_)
  · replace hf := (if_pos c3).symm.trans hf
    exact k_CA_carriable_46 ha F hr hlk hK hT q1.1 q1.2 q hf _ _ hP hS ls (lv_sub hl [1, 0] rfl)
  · replace hf := (if_neg c3).symm.trans hf
    refine lv_aload_n hx hb d_CA_carriable_12 rfl (lv_at hl 1 rfl) ?_
    refine va_get (D := D) (ci := 3) (v := .ref (a 1)) (C := R_CA) (T := T_CA) (N := 9) hx hb hg in_CA hown hK hP 3 rfl rfl 0 (by decide) (hg _ gw_75) (fun _ h9 => h9) rfl d_CA_carriable_13 ?_
    refine lv_iload_n hx hb d_CA_carriable_16 rfl (lv_at hl 3 rfl) ?_
    refine lv_iload_n hx hb d_CA_carriable_17 rfl (lv_at hl 2 rfl) ?_
    refine bdK hf (fun q4 h5 hf => ?_)
    refine rc_Vi (As := [.int x2, .int x1]) (rest := []) (b := a 1) (stC_g t) F (c_RC_readsOnce l ha x2 x1 q1.2 q4 h5) (cwV 2 hg gc_CA_84 rfl rfl rfl hs_RC_readsOnce ⟨Nat.le_of_ble_eq_true rfl, Nat.le_of_ble_eq_true rfl⟩) hK hT hP hS (va_recv hK hP (ci := 1) (q0 := 1) rfl rfl) rfl hl.1 rfl (Nat.le_of_ble_eq_true rfl) d_CA_carriable_18 ⟨Nat.zero_le _, Nat.zero_le _⟩ (fun H locs hP hS => ?_)
    refine lv_if_eq (tgt := 46) hx hb d_CA_carriable_21 (by decide) (fun c6 => ?_) (fun c6 => ?_)
    · replace hf := (if_pos c6).symm.trans hf
      exact k_CA_carriable_46 ha F hr hlk hK hT q1.1 q4.2 q hf _ _ hP hS ls (lv_sub hl [1, 0] rfl)
    · replace hf := (if_neg c6).symm.trans hf
      refine lv_aload_n hx hb d_CA_carriable_24 rfl (lv_at hl 1 rfl) ?_
      refine lv_iload_n hx hb d_CA_carriable_25 rfl (lv_at hl 3 rfl) ?_
      refine lv_iload_n hx hb d_CA_carriable_26 rfl (lv_at hl 0 rfl) ?_
      refine bdK hf (fun q7 h8 hf => ?_)
      refine rc_Vi (As := [.int x2, .int q1.1]) (rest := []) (b := a 3) (stC_g t) F (c_CA_isReadByNoneBut l ha x2 q1.1 q4.2 q7 h8) (cwV 2 hg gc_CA_88 rfl rfl rfl hs_CA_isReadByNoneBut ⟨Nat.le_of_ble_eq_true rfl, Nat.le_of_ble_eq_true rfl⟩) hK hT hP hS (va_recv hK hP (ci := 3) (q0 := 3) rfl rfl) rfl hl.1 rfl (Nat.le_of_ble_eq_true rfl) d_CA_carriable_27 ⟨Nat.zero_le _, Nat.zero_le _⟩ (fun H locs hP hS => ?_)
      refine lv_if_eq (tgt := 46) hx hb d_CA_carriable_30 (by decide) (fun c9 => ?_) (fun c9 => ?_)
      · replace hf := (if_pos c9).symm.trans hf
        exact k_CA_carriable_46 ha F hr hlk hK hT q1.1 q7.2 q hf _ _ hP hS ls (lv_sub hl [1, 0] rfl)
      · replace hf := (if_neg c9).symm.trans hf
        refine lv_aload_n hx hb d_CA_carriable_33 rfl (lv_at hl 1 rfl) ?_
        refine lv_iload_n hx hb d_CA_carriable_34 rfl (lv_at hl 0 rfl) ?_
        refine lv_iload_n hx hb d_CA_carriable_35 rfl (lv_at hl 3 rfl) ?_
        refine bdK hf (fun q10 h11 hf => ?_)
        refine rc_Vi (As := [.int q1.1, .int x2]) (rest := []) (b := a 3) (stC_g t) F (c_CA_canWait l ha q1.1 x2 q7.2 q10 h11) (cwV 2 hg gc_CA_91 rfl rfl rfl hs_CA_canWait ⟨Nat.le_of_ble_eq_true rfl, Nat.le_of_ble_eq_true rfl⟩) hK hT hP hS (va_recv hK hP (ci := 3) (q0 := 3) rfl rfl) rfl hl.1 rfl (Nat.le_of_ble_eq_true rfl) d_CA_carriable_36 ⟨Nat.zero_le _, Nat.zero_le _⟩ (fun H locs hP hS => ?_)
        refine lv_if_eq (tgt := 46) hx hb d_CA_carriable_39 (by decide) (fun c12 => ?_) (fun c12 => ?_)
        · replace hf := (if_pos c12).symm.trans hf
          exact k_CA_carriable_46 ha F hr hlk hK hT q1.1 q10.2 q hf _ _ hP hS ls (lv_sub hl [1, 0] rfl)
        · replace hf := (if_neg c12).symm.trans hf
          refine lv_iconst (v := (1 : Int32)) hx hb d_CA_carriable_42 (by decide) ?_
          refine lv_goto (tgt := 47) hx hb d_CA_carriable_43 (by decide) ?_
          refine lv_istore (lv' := [(4, .int (1 : Int32)), (3, .int q1.1), (0, .ref (a 3)), (1, .int x1), (2, .int x2)]) hx hb d_CA_carriable_47 hl (by decide) rfl (fun ls hl => ?_)
          refine lv_iload hx hb d_CA_carriable_49 (lv_at hl 0 rfl) ?_
          refine lv_if_eq (tgt := 58) hx hb d_CA_carriable_51 (by decide) (fun c13 => ?_) (fun c13 => ?_)
          · replace hf := (if_pos c13).symm.trans hf
            refine lv_iconst (v := (-1 : Int32)) hx hb d_CA_carriable_58 (by decide) ?_
            exact rr_i hx hb hr hlk (stC_g t) hK hT hP hS hf d_CA_carriable_59
          · replace hf := (if_neg c13).symm.trans hf
            refine lv_iload_n hx hb d_CA_carriable_54 rfl (lv_at hl 1 rfl) ?_
            refine lv_goto (tgt := 59) hx hb d_CA_carriable_55 (by decide) ?_
            exact rr_i hx hb hr hlk (stC_g t) hK hT hP hS hf d_CA_carriable_59
set_option maxHeartbeats 4000000 in
set_option maxRecDepth 100000 in
theorem c_CA_carriable (l : Launch) {D : va_G} {a t : Nat → Nat} {cI cZ : ClassId} (ha : aCC a) (x1 x2 : Int32) (σ : SS) (q : Int32 × SS) (hf : f_CA_carriable x1 x2 σ = some q) : Met l y_CA_carriable ws_CA_carriable { frames := 2, cells := 0, slots := 0, locals := 47 } (va_Pc [.ref (a 3), .int x1, .int x2] (pW D (wC a cI cZ) [(cI, .int), (cZ, .boolean)] (stC t) (aC a) σ)) (va_Qi (fun r u => r = q.1 ∧ u = q.2) (pW D (wC a cI cZ) [(cI, .int), (cZ, .boolean)] (stC t) (aC a)) (aC a)) 0 0 (aC a) := by
  refine Met.ofW (cc := b_CA_carriable) (maxL := 5) (ret := some .int) (by decide) rfl ?_
  intro p e s m args below meth c s₁ B hml hv
  obtain ⟨rfl, hP, hK, hT⟩ := hv
  have hl := lv_entry ([.ref (a 3), .int x1, .int x2]) (n := 5) (Nat.le_of_ble_eq_true rfl)
  rw [lg_entry_eq]
  generalize (lg_sl ([.ref (a 3), .int x1, .int x2]) ++ List.replicate (5 - (lg_sl ([.ref (a 3), .int x1, .int x2])).length) Slot.unset).toArray = ls at hl ⊢
  exact e_CA_carriable ha ⟨B.exec, B.bytes, hml, findClass_of_methodNamed B.named, fun w h => atoms_spec (ws := ws_CA_carriable) B.pre w (List.mem_cons_of_mem _ h)⟩ B.returns B.notSynchronized hK hT x1 x2 σ q hf s.heap [] hP va_S.rf ls hl
theorem d_CA_thingNeed_0 : decode b_CA_thingNeed 0 = .ok (.iload_n 1, 1) := by decide +kernel
theorem d_CA_thingNeed_1 : decode b_CA_thingNeed 1 = .ok (.iconst (-1), 1) := by decide +kernel
theorem d_CA_thingNeed_2 : decode b_CA_thingNeed 2 = .ok (.if_icmp .ne 7, 3) := by decide +kernel
theorem d_CA_thingNeed_5 : decode b_CA_thingNeed 5 = .ok (.iconst 1, 1) := by decide +kernel
theorem d_CA_thingNeed_6 : decode b_CA_thingNeed 6 = .ok (.goto 9, 3) := by decide +kernel
theorem d_CA_thingNeed_9 : decode b_CA_thingNeed 9 = .ok (.aload_n 0, 1) := by decide +kernel
theorem d_CA_thingNeed_10 : decode b_CA_thingNeed 10 = .ok (.getfield 21, 3) := by decide +kernel
theorem d_CA_thingNeed_13 : decode b_CA_thingNeed 13 = .ok (.iload_n 1, 1) := by decide +kernel
theorem d_CA_thingNeed_14 : decode b_CA_thingNeed 14 = .ok (.iaload, 1) := by decide +kernel
theorem d_CA_thingNeed_15 : decode b_CA_thingNeed 15 = .ok (.ireturn, 1) := by decide +kernel
def f_CA_thingNeed (x1 : Int32) (σ : SS) : Option (Int32 × SS) :=
  (if x1 = (-1 : Int32) then some ((1 : Int32), σ) else (ld (σ 13) 40 x1).bind fun v2 => some (v2, σ))
set_option maxHeartbeats 4000000 in
set_option maxRecDepth 100000 in
theorem e_CA_thingNeed {p : Program} {l : Launch} {e : Env} {s : State} {m : MethodId} {args : Array Value} {below : List Frame} {meth : Method} {c : Code} {D : va_G} {a t : Nat → Nat} {cI cZ : ClassId} (ha : aCC a) (F : CallFix p m c b_CA_thingNeed 2 s args gt R_CA) (hr : meth.sig.returnType = some .int) (hlk : meth.locks = false) (hK : va_K D vwCl [(cI, .int), (cZ, .boolean)] s) (hT : stC t (aC a) s s.heap) :
    ∀ (x1 : Int32) (σ : SS) (q : Int32 × SS), f_CA_thingNeed x1 σ = some q → ∀ (H : Heap) (locs : List Loc), va_P D vwCl ((wC a cI cZ) σ) H → va_S (aC a) s.heap H locs → ∀ (ls : Array Slot), lv_has ls 2 [(0, .ref (a 3)), (1, .int x1)] → W p l e { frames := 0, cells := 0, slots := 0, locals := 0 } s m args below meth c H locs 0 0 (MQ below (va_Qi (fun r u => r = q.1 ∧ u = q.2) (pW D (wC a cI cZ) [(cI, .int), (cZ, .boolean)] (stC t) (aC a)) (aC a)) args s 0 0 (aC a)) (F0 m 0 ls []) := by
  obtain ⟨hx, hb, hml, hown, hg⟩ := id F
  intro x1 σ q hf H locs hP hS ls hl
  unfold f_CA_thingNeed at hf
  refine lv_iload_n hx hb d_CA_thingNeed_0 rfl (lv_at hl 1 rfl) ?_
  refine lv_iconst (v := (-1 : Int32)) hx hb d_CA_thingNeed_1 (by decide) ?_
  refine lv_icmp_ne (tgt := 9) hx hb d_CA_thingNeed_2 (by decide) (fun c1 => ?_) (fun c1 => ?_)
  · replace hf := (if_neg c1).symm.trans hf
    refine lv_aload_n hx hb d_CA_thingNeed_9 rfl (lv_at hl 0 rfl) ?_
    refine va_get (D := D) (ci := 3) (v := .ref (a 19)) (C := R_CA) (T := T_CA) (N := 9) hx hb hg in_CA hown hK hP 3 rfl rfl 6 (by decide) (hg _ gw_81) (fun _ h9 => h9) rfl d_CA_thingNeed_10 ?_
    refine lv_iload_n hx hb d_CA_thingNeed_13 rfl (lv_at hl 1 rfl) ?_
    refine bdK hf (fun v2 h3 hf => ?_)
    refine r_iald hx hb hK hP 19 0 rfl rfl h3 d_CA_thingNeed_14 ?_
    exact rr_i hx hb hr hlk (stC_g t) hK hT hP hS hf d_CA_thingNeed_15
  · replace hf := (if_pos c1).symm.trans hf
    refine lv_iconst (v := (1 : Int32)) hx hb d_CA_thingNeed_5 (by decide) ?_
    refine lv_goto (tgt := 15) hx hb d_CA_thingNeed_6 (by decide) ?_
    exact rr_i hx hb hr hlk (stC_g t) hK hT hP hS hf d_CA_thingNeed_15
set_option maxHeartbeats 4000000 in
set_option maxRecDepth 100000 in
theorem c_CA_thingNeed (l : Launch) {D : va_G} {a t : Nat → Nat} {cI cZ : ClassId} (ha : aCC a) (x1 : Int32) (σ : SS) (q : Int32 × SS) (hf : f_CA_thingNeed x1 σ = some q) : Met l y_CA_thingNeed ws_CA_thingNeed { frames := 0, cells := 0, slots := 0, locals := 0 } (va_Pc [.ref (a 3), .int x1] (pW D (wC a cI cZ) [(cI, .int), (cZ, .boolean)] (stC t) (aC a) σ)) (va_Qi (fun r u => r = q.1 ∧ u = q.2) (pW D (wC a cI cZ) [(cI, .int), (cZ, .boolean)] (stC t) (aC a)) (aC a)) 0 0 (aC a) := by
  refine Met.ofW (cc := b_CA_thingNeed) (maxL := 2) (ret := some .int) (by decide) rfl ?_
  intro p e s m args below meth c s₁ B hml hv
  obtain ⟨rfl, hP, hK, hT⟩ := hv
  have hl := lv_entry ([.ref (a 3), .int x1]) (n := 2) (Nat.le_of_ble_eq_true rfl)
  rw [lg_entry_eq]
  generalize (lg_sl ([.ref (a 3), .int x1]) ++ List.replicate (2 - (lg_sl ([.ref (a 3), .int x1])).length) Slot.unset).toArray = ls at hl ⊢
  exact e_CA_thingNeed ha ⟨B.exec, B.bytes, hml, findClass_of_methodNamed B.named, fun w h => atoms_spec (ws := ws_CA_thingNeed) B.pre w (List.mem_cons_of_mem _ h)⟩ B.returns B.notSynchronized hK hT x1 σ q hf s.heap [] hP va_S.rf ls hl
theorem d_CA_needWith_0 : decode b_CA_needWith 0 = .ok (.aload_n 0, 1) := by decide +kernel
theorem d_CA_needWith_1 : decode b_CA_needWith 1 = .ok (.getfield 31, 3) := by decide +kernel
theorem d_CA_needWith_4 : decode b_CA_needWith 4 = .ok (.iload_n 1, 1) := by decide +kernel
theorem d_CA_needWith_5 : decode b_CA_needWith 5 = .ok (.invokevirtual 56, 3) := by decide +kernel
theorem d_CA_needWith_8 : decode b_CA_needWith 8 = .ok (.iconst (-1), 1) := by decide +kernel
theorem d_CA_needWith_9 : decode b_CA_needWith 9 = .ok (.if_icmp .ne 20, 3) := by decide +kernel
theorem d_CA_needWith_12 : decode b_CA_needWith 12 = .ok (.aload_n 0, 1) := by decide +kernel
theorem d_CA_needWith_13 : decode b_CA_needWith 13 = .ok (.getfield 31, 3) := by decide +kernel
theorem d_CA_needWith_16 : decode b_CA_needWith 16 = .ok (.iload_n 1, 1) := by decide +kernel
theorem d_CA_needWith_17 : decode b_CA_needWith 17 = .ok (.invokevirtual 74, 3) := by decide +kernel
theorem d_CA_needWith_20 : decode b_CA_needWith 20 = .ok (.ifCond .ne 7, 3) := by decide +kernel
theorem d_CA_needWith_23 : decode b_CA_needWith 23 = .ok (.iconst 1, 1) := by decide +kernel
theorem d_CA_needWith_24 : decode b_CA_needWith 24 = .ok (.goto 4, 3) := by decide +kernel
theorem d_CA_needWith_27 : decode b_CA_needWith 27 = .ok (.iconst 0, 1) := by decide +kernel
theorem d_CA_needWith_28 : decode b_CA_needWith 28 = .ok (.ireturn, 1) := by decide +kernel
theorem d_CA_needWith_29 : decode b_CA_needWith 29 = .ok (.aload_n 0, 1) := by decide +kernel
theorem d_CA_needWith_30 : decode b_CA_needWith 30 = .ok (.iload_n 2, 1) := by decide +kernel
theorem d_CA_needWith_31 : decode b_CA_needWith 31 = .ok (.invokevirtual 111, 3) := by decide +kernel
theorem d_CA_needWith_34 : decode b_CA_needWith 34 = .ok (.istore 4, 2) := by decide +kernel
theorem d_CA_needWith_36 : decode b_CA_needWith 36 = .ok (.aload_n 0, 1) := by decide +kernel
theorem d_CA_needWith_37 : decode b_CA_needWith 37 = .ok (.getfield 31, 3) := by decide +kernel
theorem d_CA_needWith_40 : decode b_CA_needWith 40 = .ok (.iload_n 1, 1) := by decide +kernel
theorem d_CA_needWith_41 : decode b_CA_needWith 41 = .ok (.invokevirtual 68, 3) := by decide +kernel
theorem d_CA_needWith_44 : decode b_CA_needWith 44 = .ok (.iconst (-1), 1) := by decide +kernel
theorem d_CA_needWith_45 : decode b_CA_needWith 45 = .ok (.if_icmp .ne 6, 3) := by decide +kernel
theorem d_CA_needWith_48 : decode b_CA_needWith 48 = .ok (.iload 4, 2) := by decide +kernel
theorem d_CA_needWith_50 : decode b_CA_needWith 50 = .ok (.ireturn, 1) := by decide +kernel
theorem d_CA_needWith_51 : decode b_CA_needWith 51 = .ok (.aload_n 0, 1) := by decide +kernel
theorem d_CA_needWith_52 : decode b_CA_needWith 52 = .ok (.iload_n 3, 1) := by decide +kernel
theorem d_CA_needWith_53 : decode b_CA_needWith 53 = .ok (.invokevirtual 111, 3) := by decide +kernel
theorem d_CA_needWith_56 : decode b_CA_needWith 56 = .ok (.istore 5, 2) := by decide +kernel
theorem d_CA_needWith_58 : decode b_CA_needWith 58 = .ok (.iload 4, 2) := by decide +kernel
theorem d_CA_needWith_60 : decode b_CA_needWith 60 = .ok (.iload 5, 2) := by decide +kernel
theorem d_CA_needWith_62 : decode b_CA_needWith 62 = .ok (.if_icmp .ne 10, 3) := by decide +kernel
theorem d_CA_needWith_65 : decode b_CA_needWith 65 = .ok (.iload 4, 2) := by decide +kernel
theorem d_CA_needWith_67 : decode b_CA_needWith 67 = .ok (.iconst 1, 1) := by decide +kernel
theorem d_CA_needWith_68 : decode b_CA_needWith 68 = .ok (.iadd, 1) := by decide +kernel
theorem d_CA_needWith_69 : decode b_CA_needWith 69 = .ok (.goto 10, 3) := by decide +kernel
theorem d_CA_needWith_72 : decode b_CA_needWith 72 = .ok (.iload 4, 2) := by decide +kernel
theorem d_CA_needWith_74 : decode b_CA_needWith 74 = .ok (.iload 5, 2) := by decide +kernel
theorem d_CA_needWith_76 : decode b_CA_needWith 76 = .ok (.invokestatic 114, 3) := by decide +kernel
theorem d_CA_needWith_79 : decode b_CA_needWith 79 = .ok (.ireturn, 1) := by decide +kernel
theorem gc_CA_56 : GoodIn gt (wsV R_CA 56 R_RC y_RC_readAsA ws_RC_readAsA) := gd_V gw_298 gw_275 gw_276 gw_2 gw_277
theorem gc_CA_111 : GoodIn gt (wsV R_CA 111 R_CA y_CA_thingNeed ws_CA_thingNeed) := gd_V gw_338 gw_340 gs_11 gw_4 gw_341
theorem gc_CA_68 : GoodIn gt (wsV R_CA 68 R_RC y_RC_readAsB ws_RC_readAsB) := gd_V gw_342 gw_282 gw_283 gw_2 gw_284
def f_CA_needWith (x1 x2 x3 : Int32) (σ : SS) : Option (Int32 × SS) :=
  (f_RC_readAsA x1 σ).bind fun q1 => (if q1.1 = (-1 : Int32) then (f_RC_operationOf x1 q1.2).bind fun q12 => (if q12.1 = 0 then some ((1 : Int32), q12.2) else some ((0 : Int32), q12.2)) else (f_CA_thingNeed x2 q1.2).bind fun q4 => (f_RC_readAsB x1 q4.2).bind fun q6 => (if q6.1 = (-1 : Int32) then some (q4.1, q6.2) else (f_CA_thingNeed x3 q6.2).bind fun q9 => (if q4.1 = q9.1 then some ((q4.1 + (1 : Int32)), q9.2) else some ((if q4.1 < q9.1 then q9.1 else q4.1), q9.2))))
set_option maxHeartbeats 4000000 in
set_option maxRecDepth 100000 in
theorem e_CA_needWith {p : Program} {l : Launch} {e : Env} {s : State} {m : MethodId} {args : Array Value} {below : List Frame} {meth : Method} {c : Code} {D : va_G} {a t : Nat → Nat} {cI cZ : ClassId} (ha : aCC a) (F : CallFix p m c b_CA_needWith 6 s args gt R_CA) (hr : meth.sig.returnType = some .int) (hlk : meth.locks = false) (hK : va_K D vwCl [(cI, .int), (cZ, .boolean)] s) (hT : stC t (aC a) s s.heap) :
    ∀ (x1 x2 x3 : Int32) (σ : SS) (q : Int32 × SS), f_CA_needWith x1 x2 x3 σ = some q → ∀ (H : Heap) (locs : List Loc), va_P D vwCl ((wC a cI cZ) σ) H → va_S (aC a) s.heap H locs → ∀ (ls : Array Slot), lv_has ls 6 [(0, .ref (a 3)), (1, .int x1), (2, .int x2), (3, .int x3)] → W p l e { frames := 1, cells := 0, slots := 0, locals := 21 } s m args below meth c H locs 0 0 (MQ below (va_Qi (fun r u => r = q.1 ∧ u = q.2) (pW D (wC a cI cZ) [(cI, .int), (cZ, .boolean)] (stC t) (aC a)) (aC a)) args s 0 0 (aC a)) (F0 m 0 ls []) := by
  obtain ⟨hx, hb, hml, hown, hg⟩ := id F
  intro x1 x2 x3 σ q hf H locs hP hS ls hl
  unfold f_CA_needWith at hf
  refine lv_aload_n hx hb d_CA_needWith_0 rfl (lv_at hl 0 rfl) ?_
  refine va_get (D := D) (ci := 3) (v := .ref (a 1)) (C := R_CA) (T := T_CA) (N := 9) hx hb hg in_CA hown hK hP 3 rfl rfl 0 (by decide) (hg _ gw_75) (fun _ h9 => h9) rfl d_CA_needWith_1 ?_
  refine lv_iload_n hx hb d_CA_needWith_4 rfl (lv_at hl 1 rfl) ?_
  refine bdK hf (fun q1 h2 hf => ?_)
  refine rc_Vi (As := [.int x1]) (rest := []) (b := a 1) (stC_g t) F (c_RC_readAsA l ha x1 σ q1 h2) (cwV 1 hg gc_CA_56 rfl rfl rfl hs_RC_readAsA ⟨Nat.le_of_ble_eq_true rfl, Nat.le_of_ble_eq_true rfl⟩) hK hT hP hS (va_recv hK hP (ci := 1) (q0 := 1) rfl rfl) rfl hl.1 rfl (Nat.le_of_ble_eq_true rfl) d_CA_needWith_5 ⟨Nat.zero_le _, Nat.zero_le _⟩ (fun H locs hP hS => ?_)
  refine lv_iconst (v := (-1 : Int32)) hx hb d_CA_needWith_8 (by decide) ?_
  refine lv_icmp_ne (tgt := 29) hx hb d_CA_needWith_9 (by decide) (fun c3 => ?_) (fun c3 => ?_)
  · replace hf := (if_neg c3).symm.trans hf
    refine lv_aload_n hx hb d_CA_needWith_29 rfl (lv_at hl 0 rfl) ?_
    refine lv_iload_n hx hb d_CA_needWith_30 rfl (lv_at hl 2 rfl) ?_
    refine bdK hf (fun q4 h5 hf => ?_)
    refine rc_Vi (As := [.int x2]) (rest := []) (b := a 3) (stC_g t) F (c_CA_thingNeed l ha x2 q1.2 q4 h5) (cwV 1 hg gc_CA_111 rfl rfl rfl hs_CA_thingNeed ⟨Nat.le_of_ble_eq_true rfl, Nat.le_of_ble_eq_true rfl⟩) hK hT hP hS (va_recv hK hP (ci := 3) (q0 := 3) rfl rfl) rfl hl.1 rfl (Nat.le_of_ble_eq_true rfl) d_CA_needWith_31 ⟨Nat.zero_le _, Nat.zero_le _⟩ (fun H locs hP hS => ?_)
    refine lv_istore (lv' := [(4, .int q4.1), (0, .ref (a 3)), (1, .int x1), (2, .int x2), (3, .int x3)]) hx hb d_CA_needWith_34 hl (by decide) rfl (fun ls hl => ?_)
    refine lv_aload_n hx hb d_CA_needWith_36 rfl (lv_at hl 1 rfl) ?_
    refine va_get (D := D) (ci := 3) (v := .ref (a 1)) (C := R_CA) (T := T_CA) (N := 9) hx hb hg in_CA hown hK hP 3 rfl rfl 0 (by decide) (hg _ gw_75) (fun _ h9 => h9) rfl d_CA_needWith_37 ?_
    refine lv_iload_n hx hb d_CA_needWith_40 rfl (lv_at hl 2 rfl) ?_
    refine bdK hf (fun q6 h7 hf => ?_)
    refine rc_Vi (As := [.int x1]) (rest := []) (b := a 1) (stC_g t) F (c_RC_readAsB l ha x1 q4.2 q6 h7) (cwV 1 hg gc_CA_68 rfl rfl rfl hs_RC_readAsB ⟨Nat.le_of_ble_eq_true rfl, Nat.le_of_ble_eq_true rfl⟩) hK hT hP hS (va_recv hK hP (ci := 1) (q0 := 1) rfl rfl) rfl hl.1 rfl (Nat.le_of_ble_eq_true rfl) d_CA_needWith_41 ⟨Nat.zero_le _, Nat.zero_le _⟩ (fun H locs hP hS => ?_)
    refine lv_iconst (v := (-1 : Int32)) hx hb d_CA_needWith_44 (by decide) ?_
    refine lv_icmp_ne (tgt := 51) hx hb d_CA_needWith_45 (by decide) (fun c8 => ?_) (fun c8 => ?_)
    · replace hf := (if_neg c8).symm.trans hf
      refine lv_aload_n hx hb d_CA_needWith_51 rfl (lv_at hl 1 rfl) ?_
      refine lv_iload_n hx hb d_CA_needWith_52 rfl (lv_at hl 4 rfl) ?_
      refine bdK hf (fun q9 h10 hf => ?_)
      refine rc_Vi (As := [.int x3]) (rest := []) (b := a 3) (stC_g t) F (c_CA_thingNeed l ha x3 q6.2 q9 h10) (cwV 1 hg gc_CA_111 rfl rfl rfl hs_CA_thingNeed ⟨Nat.le_of_ble_eq_true rfl, Nat.le_of_ble_eq_true rfl⟩) hK hT hP hS (va_recv hK hP (ci := 3) (q0 := 3) rfl rfl) rfl hl.1 rfl (Nat.le_of_ble_eq_true rfl) d_CA_needWith_53 ⟨Nat.zero_le _, Nat.zero_le _⟩ (fun H locs hP hS => ?_)
      refine lv_istore (lv' := [(5, .int q9.1), (4, .int q4.1), (0, .ref (a 3)), (1, .int x1), (2, .int x2), (3, .int x3)]) hx hb d_CA_needWith_56 hl (by decide) rfl (fun ls hl => ?_)
      refine lv_iload hx hb d_CA_needWith_58 (lv_at hl 1 rfl) ?_
      refine lv_iload hx hb d_CA_needWith_60 (lv_at hl 0 rfl) ?_
      refine lv_icmp_ne (tgt := 72) hx hb d_CA_needWith_62 (by decide) (fun c11 => ?_) (fun c11 => ?_)
      · replace hf := (if_neg c11).symm.trans hf
        refine lv_iload hx hb d_CA_needWith_72 (lv_at hl 1 rfl) ?_
        refine lv_iload hx hb d_CA_needWith_74 (lv_at hl 0 rfl) ?_
        refine va_mmax hx hb (hml.trans hl.1.symm) hown (hg _ gw_343) (hg _ gw_344) (hg _ gw_8) (hg _ gw_345) (Nat.le_of_ble_eq_true rfl) (Nat.le_of_ble_eq_true rfl) (Nat.zero_le _) (Nat.zero_le _) d_CA_needWith_76 ?_
        exact rr_i hx hb hr hlk (stC_g t) hK hT hP hS hf d_CA_needWith_79
      · replace hf := (if_pos c11).symm.trans hf
        refine lv_iload hx hb d_CA_needWith_65 (lv_at hl 1 rfl) ?_
        refine lv_iconst (v := (1 : Int32)) hx hb d_CA_needWith_67 (by decide) ?_
        refine lv_iadd hx hb d_CA_needWith_68 ?_
        refine lv_goto (tgt := 79) hx hb d_CA_needWith_69 (by decide) ?_
        exact rr_i hx hb hr hlk (stC_g t) hK hT hP hS hf d_CA_needWith_79
    · replace hf := (if_pos c8).symm.trans hf
      refine lv_iload hx hb d_CA_needWith_48 (lv_at hl 0 rfl) ?_
      exact rr_i hx hb hr hlk (stC_g t) hK hT hP hS hf d_CA_needWith_50
  · replace hf := (if_pos c3).symm.trans hf
    refine lv_aload_n hx hb d_CA_needWith_12 rfl (lv_at hl 0 rfl) ?_
    refine va_get (D := D) (ci := 3) (v := .ref (a 1)) (C := R_CA) (T := T_CA) (N := 9) hx hb hg in_CA hown hK hP 3 rfl rfl 0 (by decide) (hg _ gw_75) (fun _ h9 => h9) rfl d_CA_needWith_13 ?_
    refine lv_iload_n hx hb d_CA_needWith_16 rfl (lv_at hl 1 rfl) ?_
    refine bdK hf (fun q12 h13 hf => ?_)
    refine rc_Vi (As := [.int x1]) (rest := []) (b := a 1) (stC_g t) F (c_RC_operationOf l ha x1 q1.2 q12 h13) (cwV 1 hg gc_CA_74 rfl rfl rfl hs_RC_operationOf ⟨Nat.le_of_ble_eq_true rfl, Nat.le_of_ble_eq_true rfl⟩) hK hT hP hS (va_recv hK hP (ci := 1) (q0 := 1) rfl rfl) rfl hl.1 rfl (Nat.le_of_ble_eq_true rfl) d_CA_needWith_17 ⟨Nat.zero_le _, Nat.zero_le _⟩ (fun H locs hP hS => ?_)
    refine lv_if_ne (tgt := 27) hx hb d_CA_needWith_20 (by decide) (fun c14 => ?_) (fun c14 => ?_)
    · replace hf := (if_neg c14).symm.trans hf
      refine lv_iconst (v := (0 : Int32)) hx hb d_CA_needWith_27 (by decide) ?_
      exact rr_i hx hb hr hlk (stC_g t) hK hT hP hS hf d_CA_needWith_28
    · replace hf := (if_pos c14).symm.trans hf
      refine lv_iconst (v := (1 : Int32)) hx hb d_CA_needWith_23 (by decide) ?_
      refine lv_goto (tgt := 28) hx hb d_CA_needWith_24 (by decide) ?_
      exact rr_i hx hb hr hlk (stC_g t) hK hT hP hS hf d_CA_needWith_28
set_option maxHeartbeats 4000000 in
set_option maxRecDepth 100000 in
theorem c_CA_needWith (l : Launch) {D : va_G} {a t : Nat → Nat} {cI cZ : ClassId} (ha : aCC a) (x1 x2 x3 : Int32) (σ : SS) (q : Int32 × SS) (hf : f_CA_needWith x1 x2 x3 σ = some q) : Met l y_CA_needWith ws_CA_needWith { frames := 1, cells := 0, slots := 0, locals := 21 } (va_Pc [.ref (a 3), .int x1, .int x2, .int x3] (pW D (wC a cI cZ) [(cI, .int), (cZ, .boolean)] (stC t) (aC a) σ)) (va_Qi (fun r u => r = q.1 ∧ u = q.2) (pW D (wC a cI cZ) [(cI, .int), (cZ, .boolean)] (stC t) (aC a)) (aC a)) 0 0 (aC a) := by
  refine Met.ofW (cc := b_CA_needWith) (maxL := 6) (ret := some .int) (by decide) rfl ?_
  intro p e s m args below meth c s₁ B hml hv
  obtain ⟨rfl, hP, hK, hT⟩ := hv
  have hl := lv_entry ([.ref (a 3), .int x1, .int x2, .int x3]) (n := 6) (Nat.le_of_ble_eq_true rfl)
  rw [lg_entry_eq]
  generalize (lg_sl ([.ref (a 3), .int x1, .int x2, .int x3]) ++ List.replicate (6 - (lg_sl ([.ref (a 3), .int x1, .int x2, .int x3])).length) Slot.unset).toArray = ls at hl ⊢
  exact e_CA_needWith ha ⟨B.exec, B.bytes, hml, findClass_of_methodNamed B.named, fun w h => atoms_spec (ws := ws_CA_needWith) B.pre w (List.mem_cons_of_mem _ h)⟩ B.returns B.notSynchronized hK hT x1 x2 x3 σ q hf s.heap [] hP va_S.rf ls hl
theorem d_CA_carryInto_0 : decode b_CA_carryInto 0 = .ok (.aload_n 0, 1) := by decide +kernel
theorem d_CA_carryInto_1 : decode b_CA_carryInto 1 = .ok (.aload_n 0, 1) := by decide +kernel
theorem d_CA_carryInto_2 : decode b_CA_carryInto 2 = .ok (.getfield 31, 3) := by decide +kernel
theorem d_CA_carryInto_5 : decode b_CA_carryInto 5 = .ok (.iload_n 1, 1) := by decide +kernel
theorem d_CA_carryInto_6 : decode b_CA_carryInto 6 = .ok (.invokevirtual 56, 3) := by decide +kernel
theorem d_CA_carryInto_9 : decode b_CA_carryInto 9 = .ok (.iload_n 1, 1) := by decide +kernel
theorem d_CA_carryInto_10 : decode b_CA_carryInto 10 = .ok (.invokevirtual 60, 3) := by decide +kernel
theorem d_CA_carryInto_13 : decode b_CA_carryInto 13 = .ok (.istore_n 2, 1) := by decide +kernel
theorem d_CA_carryInto_14 : decode b_CA_carryInto 14 = .ok (.iload_n 2, 1) := by decide +kernel
theorem d_CA_carryInto_15 : decode b_CA_carryInto 15 = .ok (.iconst (-1), 1) := by decide +kernel
theorem d_CA_carryInto_16 : decode b_CA_carryInto 16 = .ok (.if_icmp .eq 31, 3) := by decide +kernel
theorem d_CA_carryInto_19 : decode b_CA_carryInto 19 = .ok (.aload_n 0, 1) := by decide +kernel
theorem d_CA_carryInto_20 : decode b_CA_carryInto 20 = .ok (.iload_n 1, 1) := by decide +kernel
theorem d_CA_carryInto_21 : decode b_CA_carryInto 21 = .ok (.iload_n 2, 1) := by decide +kernel
theorem d_CA_carryInto_22 : decode b_CA_carryInto 22 = .ok (.iconst (-1), 1) := by decide +kernel
theorem d_CA_carryInto_23 : decode b_CA_carryInto 23 = .ok (.invokevirtual 64, 3) := by decide +kernel
theorem d_CA_carryInto_26 : decode b_CA_carryInto 26 = .ok (.aload_n 0, 1) := by decide +kernel
theorem d_CA_carryInto_27 : decode b_CA_carryInto 27 = .ok (.getfield 39, 3) := by decide +kernel
theorem d_CA_carryInto_30 : decode b_CA_carryInto 30 = .ok (.if_icmp .gt 17, 3) := by decide +kernel
theorem d_CA_carryInto_33 : decode b_CA_carryInto 33 = .ok (.aload_n 0, 1) := by decide +kernel
theorem d_CA_carryInto_34 : decode b_CA_carryInto 34 = .ok (.getfield 15, 3) := by decide +kernel
theorem d_CA_carryInto_37 : decode b_CA_carryInto 37 = .ok (.iload_n 1, 1) := by decide +kernel
theorem d_CA_carryInto_38 : decode b_CA_carryInto 38 = .ok (.iload_n 2, 1) := by decide +kernel
theorem d_CA_carryInto_39 : decode b_CA_carryInto 39 = .ok (.iastore, 1) := by decide +kernel
theorem d_CA_carryInto_40 : decode b_CA_carryInto 40 = .ok (.aload_n 0, 1) := by decide +kernel
theorem d_CA_carryInto_41 : decode b_CA_carryInto 41 = .ok (.getfield 9, 3) := by decide +kernel
theorem d_CA_carryInto_44 : decode b_CA_carryInto 44 = .ok (.iload_n 2, 1) := by decide +kernel
theorem d_CA_carryInto_45 : decode b_CA_carryInto 45 = .ok (.iload_n 1, 1) := by decide +kernel
theorem d_CA_carryInto_46 : decode b_CA_carryInto 46 = .ok (.iastore, 1) := by decide +kernel
theorem d_CA_carryInto_47 : decode b_CA_carryInto 47 = .ok (.aload_n 0, 1) := by decide +kernel
theorem d_CA_carryInto_48 : decode b_CA_carryInto 48 = .ok (.aload_n 0, 1) := by decide +kernel
theorem d_CA_carryInto_49 : decode b_CA_carryInto 49 = .ok (.getfield 31, 3) := by decide +kernel
theorem d_CA_carryInto_52 : decode b_CA_carryInto 52 = .ok (.iload_n 1, 1) := by decide +kernel
theorem d_CA_carryInto_53 : decode b_CA_carryInto 53 = .ok (.invokevirtual 68, 3) := by decide +kernel
theorem d_CA_carryInto_56 : decode b_CA_carryInto 56 = .ok (.iload_n 1, 1) := by decide +kernel
theorem d_CA_carryInto_57 : decode b_CA_carryInto 57 = .ok (.invokevirtual 60, 3) := by decide +kernel
theorem d_CA_carryInto_60 : decode b_CA_carryInto 60 = .ok (.istore_n 3, 1) := by decide +kernel
theorem d_CA_carryInto_61 : decode b_CA_carryInto 61 = .ok (.iload_n 3, 1) := by decide +kernel
theorem d_CA_carryInto_62 : decode b_CA_carryInto 62 = .ok (.iconst (-1), 1) := by decide +kernel
theorem d_CA_carryInto_63 : decode b_CA_carryInto 63 = .ok (.if_icmp .eq 36, 3) := by decide +kernel
theorem d_CA_carryInto_66 : decode b_CA_carryInto 66 = .ok (.aload_n 0, 1) := by decide +kernel
theorem d_CA_carryInto_67 : decode b_CA_carryInto 67 = .ok (.iload_n 1, 1) := by decide +kernel
theorem d_CA_carryInto_68 : decode b_CA_carryInto 68 = .ok (.aload_n 0, 1) := by decide +kernel
theorem d_CA_carryInto_69 : decode b_CA_carryInto 69 = .ok (.getfield 15, 3) := by decide +kernel
theorem d_CA_carryInto_72 : decode b_CA_carryInto 72 = .ok (.iload_n 1, 1) := by decide +kernel
theorem d_CA_carryInto_73 : decode b_CA_carryInto 73 = .ok (.iaload, 1) := by decide +kernel
theorem d_CA_carryInto_74 : decode b_CA_carryInto 74 = .ok (.iload_n 3, 1) := by decide +kernel
theorem d_CA_carryInto_75 : decode b_CA_carryInto 75 = .ok (.invokevirtual 64, 3) := by decide +kernel
theorem d_CA_carryInto_78 : decode b_CA_carryInto 78 = .ok (.aload_n 0, 1) := by decide +kernel
theorem d_CA_carryInto_79 : decode b_CA_carryInto 79 = .ok (.getfield 39, 3) := by decide +kernel
theorem d_CA_carryInto_82 : decode b_CA_carryInto 82 = .ok (.if_icmp .gt 17, 3) := by decide +kernel
theorem d_CA_carryInto_85 : decode b_CA_carryInto 85 = .ok (.aload_n 0, 1) := by decide +kernel
theorem d_CA_carryInto_86 : decode b_CA_carryInto 86 = .ok (.getfield 18, 3) := by decide +kernel
theorem d_CA_carryInto_89 : decode b_CA_carryInto 89 = .ok (.iload_n 1, 1) := by decide +kernel
theorem d_CA_carryInto_90 : decode b_CA_carryInto 90 = .ok (.iload_n 3, 1) := by decide +kernel
theorem d_CA_carryInto_91 : decode b_CA_carryInto 91 = .ok (.iastore, 1) := by decide +kernel
theorem d_CA_carryInto_92 : decode b_CA_carryInto 92 = .ok (.aload_n 0, 1) := by decide +kernel
theorem d_CA_carryInto_93 : decode b_CA_carryInto 93 = .ok (.getfield 9, 3) := by decide +kernel
theorem d_CA_carryInto_96 : decode b_CA_carryInto 96 = .ok (.iload_n 3, 1) := by decide +kernel
theorem d_CA_carryInto_97 : decode b_CA_carryInto 97 = .ok (.iload_n 1, 1) := by decide +kernel
theorem d_CA_carryInto_98 : decode b_CA_carryInto 98 = .ok (.iastore, 1) := by decide +kernel
theorem d_CA_carryInto_99 : decode b_CA_carryInto 99 = .ok (.return_, 1) := by decide +kernel
theorem gc_CA_60 : GoodIn gt (wsV R_CA 60 R_CA y_CA_carriable ws_CA_carriable) := gd_V gw_299 gw_301 gs_6 gw_4 gw_302
theorem gc_CA_64 : GoodIn gt (wsV R_CA 64 R_CA y_CA_needWith ws_CA_needWith) := gd_V gw_334 gw_336 gs_10 gw_4 gw_337
def b_CA_carryInto_47 (x1 : Int32) (σ : SS) : Option (SS) :=
  (f_RC_readAsB x1 σ).bind fun q1 => (f_CA_carriable q1.1 x1 q1.2).bind fun q3 => (if q3.1 = (-1 : Int32) then some q3.2 else (ld (q3.2 11) 40 x1).bind fun v6 => (f_CA_needWith x1 v6 q3.1 q3.2).bind fun q8 => (if (q8.2 26 0) < q8.1 then some q8.2 else (sto q8.2 12 40 x1 q3.1).bind fun σ11 => (sto σ11 10 40 q3.1 x1).bind fun σ13 => some σ13))
set_option maxHeartbeats 4000000 in
set_option maxRecDepth 100000 in
theorem k_CA_carryInto_47 {p : Program} {l : Launch} {e : Env} {s : State} {m : MethodId} {args : Array Value} {below : List Frame} {meth : Method} {c : Code} {D : va_G} {a t : Nat → Nat} {cI cZ : ClassId} (ha : aCC a) (F : CallFix p m c b_CA_carryInto 4 s args gt R_CA) (hr : meth.sig.returnType = none) (hlk : meth.locks = false) (hK : va_K D vwCl [(cI, .int), (cZ, .boolean)] s) (hT : stC t (aC a) s s.heap) :
    ∀ (x1 : Int32) (σ : SS) (q : SS), b_CA_carryInto_47 x1 σ = some q → ∀ (H : Heap) (locs : List Loc), va_P D vwCl ((wC a cI cZ) σ) H → va_S (aC a) s.heap H locs → ∀ (ls : Array Slot), lv_has ls 4 [(0, .ref (a 3)), (1, .int x1)] → W p l e { frames := 3, cells := 0, slots := 0, locals := 71 } s m args below meth c H locs 0 0 (MQ below (va_Qv (fun u => u = q) (pW D (wC a cI cZ) [(cI, .int), (cZ, .boolean)] (stC t) (aC a)) (aC a)) args s 0 0 (aC a)) (F0 m 47 ls []) := by
  obtain ⟨hx, hb, hml, hown, hg⟩ := id F
  intro x1 σ q hf H locs hP hS ls hl
  unfold b_CA_carryInto_47 at hf
  refine lv_aload_n hx hb d_CA_carryInto_47 rfl (lv_at hl 0 rfl) ?_
  refine lv_aload_n hx hb d_CA_carryInto_48 rfl (lv_at hl 0 rfl) ?_
  refine va_get (D := D) (ci := 3) (v := .ref (a 1)) (C := R_CA) (T := T_CA) (N := 9) hx hb hg in_CA hown hK hP 3 rfl rfl 0 (by decide) (hg _ gw_75) (fun _ h9 => h9) rfl d_CA_carryInto_49 ?_
  refine lv_iload_n hx hb d_CA_carryInto_52 rfl (lv_at hl 1 rfl) ?_
  refine bdK hf (fun q1 h2 hf => ?_)
  refine rc_Vi (As := [.int x1]) (rest := [.ref (a 3)]) (b := a 1) (stC_g t) F (c_RC_readAsB l ha x1 σ q1 h2) (cwV 1 hg gc_CA_68 rfl rfl rfl hs_RC_readAsB ⟨Nat.le_of_ble_eq_true rfl, Nat.le_of_ble_eq_true rfl⟩) hK hT hP hS (va_recv hK hP (ci := 1) (q0 := 1) rfl rfl) rfl hl.1 rfl (Nat.le_of_ble_eq_true rfl) d_CA_carryInto_53 ⟨Nat.zero_le _, Nat.zero_le _⟩ (fun H locs hP hS => ?_)
  refine lv_iload_n hx hb d_CA_carryInto_56 rfl (lv_at hl 1 rfl) ?_
  refine bdK hf (fun q3 h4 hf => ?_)
  refine rc_Vi (As := [.int q1.1, .int x1]) (rest := []) (b := a 3) (stC_g t) F (c_CA_carriable l ha q1.1 x1 q1.2 q3 h4) (cwV 2 hg gc_CA_60 rfl rfl rfl hs_CA_carriable ⟨Nat.le_of_ble_eq_true rfl, Nat.le_of_ble_eq_true rfl⟩) hK hT hP hS (va_recv hK hP (ci := 3) (q0 := 3) rfl rfl) rfl hl.1 rfl (Nat.le_of_ble_eq_true rfl) d_CA_carryInto_57 ⟨Nat.zero_le _, Nat.zero_le _⟩ (fun H locs hP hS => ?_)
  refine lv_istore_n (lv' := [(3, .int q3.1), (0, .ref (a 3)), (1, .int x1)]) hx hb d_CA_carryInto_60 rfl hl (by decide) rfl (fun ls hl => ?_)
  refine lv_iload_n hx hb d_CA_carryInto_61 rfl (lv_at hl 0 rfl) ?_
  refine lv_iconst (v := (-1 : Int32)) hx hb d_CA_carryInto_62 (by decide) ?_
  refine lv_icmp_eq (tgt := 99) hx hb d_CA_carryInto_63 (by decide) (fun c5 => ?_) (fun c5 => ?_)
  · replace hf := (if_pos c5).symm.trans hf
    exact rr_v hx hb hr hlk (stC_g t) hK hT hP hS hf d_CA_carryInto_99
  · replace hf := (if_neg c5).symm.trans hf
    refine lv_aload_n hx hb d_CA_carryInto_66 rfl (lv_at hl 1 rfl) ?_
    refine lv_iload_n hx hb d_CA_carryInto_67 rfl (lv_at hl 2 rfl) ?_
    refine lv_aload_n hx hb d_CA_carryInto_68 rfl (lv_at hl 1 rfl) ?_
    refine va_get (D := D) (ci := 3) (v := .ref (a 17)) (C := R_CA) (T := T_CA) (N := 9) hx hb hg in_CA hown hK hP 3 rfl rfl 4 (by decide) (hg _ gw_79) (fun _ h9 => h9) rfl d_CA_carryInto_69 ?_
    refine lv_iload_n hx hb d_CA_carryInto_72 rfl (lv_at hl 2 rfl) ?_
    refine bdK hf (fun v6 h7 hf => ?_)
    refine r_iald hx hb hK hP 17 0 rfl rfl h7 d_CA_carryInto_73 ?_
    refine lv_iload_n hx hb d_CA_carryInto_74 rfl (lv_at hl 0 rfl) ?_
    refine bdK hf (fun q8 h9 hf => ?_)
    refine rc_Vi (As := [.int x1, .int v6, .int q3.1]) (rest := []) (b := a 3) (stC_g t) F (c_CA_needWith l ha x1 v6 q3.1 q3.2 q8 h9) (cwV 3 hg gc_CA_64 rfl rfl rfl hs_CA_needWith ⟨Nat.le_of_ble_eq_true rfl, Nat.le_of_ble_eq_true rfl⟩) hK hT hP hS (va_recv hK hP (ci := 3) (q0 := 3) rfl rfl) rfl hl.1 rfl (Nat.le_of_ble_eq_true rfl) d_CA_carryInto_75 ⟨Nat.zero_le _, Nat.zero_le _⟩ (fun H locs hP hS => ?_)
    refine lv_aload_n hx hb d_CA_carryInto_78 rfl (lv_at hl 1 rfl) ?_
    refine va_get (D := D) (ci := 3) (v := .int (q8.2 26 0)) (C := R_CA) (T := T_CA) (N := 9) hx hb hg in_CA hown hK hP 3 rfl rfl 2 (by decide) (hg _ gw_77) (fun _ h9 => h9) rfl d_CA_carryInto_79 ?_
    refine lv_icmp_gt (tgt := 99) hx hb d_CA_carryInto_82 (by decide) (fun c10 => ?_) (fun c10 => ?_)
    · replace hf := (if_pos c10).symm.trans hf
      exact rr_v hx hb hr hlk (stC_g t) hK hT hP hS hf d_CA_carryInto_99
    · replace hf := (if_neg c10).symm.trans hf
      refine lv_aload_n hx hb d_CA_carryInto_85 rfl (lv_at hl 1 rfl) ?_
      refine va_get (D := D) (ci := 3) (v := .ref (a 18)) (C := R_CA) (T := T_CA) (N := 9) hx hb hg in_CA hown hK hP 3 rfl rfl 5 (by decide) (hg _ gw_80) (fun _ h9 => h9) rfl d_CA_carryInto_86 ?_
      refine lv_iload_n hx hb d_CA_carryInto_89 rfl (lv_at hl 2 rfl) ?_
      refine lv_iload_n hx hb d_CA_carryInto_90 rfl (lv_at hl 0 rfl) ?_
      refine bdK hf (fun σ11 h12 hf => ?_)
      refine r_iast (wf := (wC a cI cZ)) hx hb hK hP (dC ha q8.2) hS 18 0 rfl rfl (fun _ _ => rfl) h12 d_CA_carryInto_91 (fun H locs hP hS => ?_)
      refine lv_aload_n hx hb d_CA_carryInto_92 rfl (lv_at hl 1 rfl) ?_
      refine va_get (D := D) (ci := 3) (v := .ref (a 16)) (C := R_CA) (T := T_CA) (N := 9) hx hb hg in_CA hown hK hP 3 rfl rfl 3 (by decide) (hg _ gw_78) (fun _ h9 => h9) rfl d_CA_carryInto_93 ?_
      refine lv_iload_n hx hb d_CA_carryInto_96 rfl (lv_at hl 0 rfl) ?_
      refine lv_iload_n hx hb d_CA_carryInto_97 rfl (lv_at hl 2 rfl) ?_
      refine bdK hf (fun σ13 h14 hf => ?_)
      refine r_iast (wf := (wC a cI cZ)) hx hb hK hP (dC ha σ11) hS 16 0 rfl rfl (fun _ _ => rfl) h14 d_CA_carryInto_98 (fun H locs hP hS => ?_)
      exact rr_v hx hb hr hlk (stC_g t) hK hT hP hS hf d_CA_carryInto_99
def f_CA_carryInto (x1 : Int32) (σ : SS) : Option (SS) :=
  (f_RC_readAsA x1 σ).bind fun q1 => (f_CA_carriable q1.1 x1 q1.2).bind fun q3 => (if q3.1 = (-1 : Int32) then b_CA_carryInto_47 x1 q3.2 else (f_CA_needWith x1 q3.1 (-1 : Int32) q3.2).bind fun q6 => (if (q6.2 26 0) < q6.1 then b_CA_carryInto_47 x1 q6.2 else (sto q6.2 11 40 x1 q3.1).bind fun σ9 => (sto σ9 10 40 q3.1 x1).bind fun σ11 => b_CA_carryInto_47 x1 σ11))
set_option maxHeartbeats 4000000 in
set_option maxRecDepth 100000 in
theorem e_CA_carryInto {p : Program} {l : Launch} {e : Env} {s : State} {m : MethodId} {args : Array Value} {below : List Frame} {meth : Method} {c : Code} {D : va_G} {a t : Nat → Nat} {cI cZ : ClassId} (ha : aCC a) (F : CallFix p m c b_CA_carryInto 4 s args gt R_CA) (hr : meth.sig.returnType = none) (hlk : meth.locks = false) (hK : va_K D vwCl [(cI, .int), (cZ, .boolean)] s) (hT : stC t (aC a) s s.heap) :
    ∀ (x1 : Int32) (σ : SS) (q : SS), f_CA_carryInto x1 σ = some q → ∀ (H : Heap) (locs : List Loc), va_P D vwCl ((wC a cI cZ) σ) H → va_S (aC a) s.heap H locs → ∀ (ls : Array Slot), lv_has ls 4 [(0, .ref (a 3)), (1, .int x1)] → W p l e { frames := 3, cells := 0, slots := 0, locals := 71 } s m args below meth c H locs 0 0 (MQ below (va_Qv (fun u => u = q) (pW D (wC a cI cZ) [(cI, .int), (cZ, .boolean)] (stC t) (aC a)) (aC a)) args s 0 0 (aC a)) (F0 m 0 ls []) := by
  obtain ⟨hx, hb, hml, hown, hg⟩ := id F
  intro x1 σ q hf H locs hP hS ls hl
  unfold f_CA_carryInto at hf
  refine lv_aload_n hx hb d_CA_carryInto_0 rfl (lv_at hl 0 rfl) ?_
  refine lv_aload_n hx hb d_CA_carryInto_1 rfl (lv_at hl 0 rfl) ?_
  refine va_get (D := D) (ci := 3) (v := .ref (a 1)) (C := R_CA) (T := T_CA) (N := 9) hx hb hg in_CA hown hK hP 3 rfl rfl 0 (by decide) (hg _ gw_75) (fun _ h9 => h9) rfl d_CA_carryInto_2 ?_
  refine lv_iload_n hx hb d_CA_carryInto_5 rfl (lv_at hl 1 rfl) ?_
  refine bdK hf (fun q1 h2 hf => ?_)
  refine rc_Vi (As := [.int x1]) (rest := [.ref (a 3)]) (b := a 1) (stC_g t) F (c_RC_readAsA l ha x1 σ q1 h2) (cwV 1 hg gc_CA_56 rfl rfl rfl hs_RC_readAsA ⟨Nat.le_of_ble_eq_true rfl, Nat.le_of_ble_eq_true rfl⟩) hK hT hP hS (va_recv hK hP (ci := 1) (q0 := 1) rfl rfl) rfl hl.1 rfl (Nat.le_of_ble_eq_true rfl) d_CA_carryInto_6 ⟨Nat.zero_le _, Nat.zero_le _⟩ (fun H locs hP hS => ?_)
  refine lv_iload_n hx hb d_CA_carryInto_9 rfl (lv_at hl 1 rfl) ?_
  refine bdK hf (fun q3 h4 hf => ?_)
  refine rc_Vi (As := [.int q1.1, .int x1]) (rest := []) (b := a 3) (stC_g t) F (c_CA_carriable l ha q1.1 x1 q1.2 q3 h4) (cwV 2 hg gc_CA_60 rfl rfl rfl hs_CA_carriable ⟨Nat.le_of_ble_eq_true rfl, Nat.le_of_ble_eq_true rfl⟩) hK hT hP hS (va_recv hK hP (ci := 3) (q0 := 3) rfl rfl) rfl hl.1 rfl (Nat.le_of_ble_eq_true rfl) d_CA_carryInto_10 ⟨Nat.zero_le _, Nat.zero_le _⟩ (fun H locs hP hS => ?_)
  refine lv_istore_n (lv' := [(2, .int q3.1), (0, .ref (a 3)), (1, .int x1)]) hx hb d_CA_carryInto_13 rfl hl (by decide) rfl (fun ls hl => ?_)
  refine lv_iload_n hx hb d_CA_carryInto_14 rfl (lv_at hl 0 rfl) ?_
  refine lv_iconst (v := (-1 : Int32)) hx hb d_CA_carryInto_15 (by decide) ?_
  refine lv_icmp_eq (tgt := 47) hx hb d_CA_carryInto_16 (by decide) (fun c5 => ?_) (fun c5 => ?_)
  · replace hf := (if_pos c5).symm.trans hf
    exact k_CA_carryInto_47 ha F hr hlk hK hT x1 q3.2 q hf _ _ hP hS ls (lv_sub hl [1, 2] rfl)
  · replace hf := (if_neg c5).symm.trans hf
    refine lv_aload_n hx hb d_CA_carryInto_19 rfl (lv_at hl 1 rfl) ?_
    refine lv_iload_n hx hb d_CA_carryInto_20 rfl (lv_at hl 2 rfl) ?_
    refine lv_iload_n hx hb d_CA_carryInto_21 rfl (lv_at hl 0 rfl) ?_
    refine lv_iconst (v := (-1 : Int32)) hx hb d_CA_carryInto_22 (by decide) ?_
    refine bdK hf (fun q6 h7 hf => ?_)
    refine rc_Vi (As := [.int x1, .int q3.1, .int (-1 : Int32)]) (rest := []) (b := a 3) (stC_g t) F (c_CA_needWith l ha x1 q3.1 (-1 : Int32) q3.2 q6 h7) (cwV 3 hg gc_CA_64 rfl rfl rfl hs_CA_needWith ⟨Nat.le_of_ble_eq_true rfl, Nat.le_of_ble_eq_true rfl⟩) hK hT hP hS (va_recv hK hP (ci := 3) (q0 := 3) rfl rfl) rfl hl.1 rfl (Nat.le_of_ble_eq_true rfl) d_CA_carryInto_23 ⟨Nat.zero_le _, Nat.zero_le _⟩ (fun H locs hP hS => ?_)
    refine lv_aload_n hx hb d_CA_carryInto_26 rfl (lv_at hl 1 rfl) ?_
    refine va_get (D := D) (ci := 3) (v := .int (q6.2 26 0)) (C := R_CA) (T := T_CA) (N := 9) hx hb hg in_CA hown hK hP 3 rfl rfl 2 (by decide) (hg _ gw_77) (fun _ h9 => h9) rfl d_CA_carryInto_27 ?_
    refine lv_icmp_gt (tgt := 47) hx hb d_CA_carryInto_30 (by decide) (fun c8 => ?_) (fun c8 => ?_)
    · replace hf := (if_pos c8).symm.trans hf
      exact k_CA_carryInto_47 ha F hr hlk hK hT x1 q6.2 q hf _ _ hP hS ls (lv_sub hl [1, 2] rfl)
    · replace hf := (if_neg c8).symm.trans hf
      refine lv_aload_n hx hb d_CA_carryInto_33 rfl (lv_at hl 1 rfl) ?_
      refine va_get (D := D) (ci := 3) (v := .ref (a 17)) (C := R_CA) (T := T_CA) (N := 9) hx hb hg in_CA hown hK hP 3 rfl rfl 4 (by decide) (hg _ gw_79) (fun _ h9 => h9) rfl d_CA_carryInto_34 ?_
      refine lv_iload_n hx hb d_CA_carryInto_37 rfl (lv_at hl 2 rfl) ?_
      refine lv_iload_n hx hb d_CA_carryInto_38 rfl (lv_at hl 0 rfl) ?_
      refine bdK hf (fun σ9 h10 hf => ?_)
      refine r_iast (wf := (wC a cI cZ)) hx hb hK hP (dC ha q6.2) hS 17 0 rfl rfl (fun _ _ => rfl) h10 d_CA_carryInto_39 (fun H locs hP hS => ?_)
      refine lv_aload_n hx hb d_CA_carryInto_40 rfl (lv_at hl 1 rfl) ?_
      refine va_get (D := D) (ci := 3) (v := .ref (a 16)) (C := R_CA) (T := T_CA) (N := 9) hx hb hg in_CA hown hK hP 3 rfl rfl 3 (by decide) (hg _ gw_78) (fun _ h9 => h9) rfl d_CA_carryInto_41 ?_
      refine lv_iload_n hx hb d_CA_carryInto_44 rfl (lv_at hl 0 rfl) ?_
      refine lv_iload_n hx hb d_CA_carryInto_45 rfl (lv_at hl 2 rfl) ?_
      refine bdK hf (fun σ11 h12 hf => ?_)
      refine r_iast (wf := (wC a cI cZ)) hx hb hK hP (dC ha σ9) hS 16 0 rfl rfl (fun _ _ => rfl) h12 d_CA_carryInto_46 (fun H locs hP hS => ?_)
      exact k_CA_carryInto_47 ha F hr hlk hK hT x1 σ11 q hf _ _ hP hS ls (lv_sub hl [1, 2] rfl)
set_option maxHeartbeats 4000000 in
set_option maxRecDepth 100000 in
theorem c_CA_carryInto (l : Launch) {D : va_G} {a t : Nat → Nat} {cI cZ : ClassId} (ha : aCC a) (x1 : Int32) (σ : SS) (q : SS) (hf : f_CA_carryInto x1 σ = some q) : Met l y_CA_carryInto ws_CA_carryInto { frames := 3, cells := 0, slots := 0, locals := 71 } (va_Pc [.ref (a 3), .int x1] (pW D (wC a cI cZ) [(cI, .int), (cZ, .boolean)] (stC t) (aC a) σ)) (va_Qv (fun u => u = q) (pW D (wC a cI cZ) [(cI, .int), (cZ, .boolean)] (stC t) (aC a)) (aC a)) 0 0 (aC a) := by
  refine Met.ofW (cc := b_CA_carryInto) (maxL := 4) (ret := none) (by decide) rfl ?_
  intro p e s m args below meth c s₁ B hml hv
  obtain ⟨rfl, hP, hK, hT⟩ := hv
  have hl := lv_entry ([.ref (a 3), .int x1]) (n := 4) (Nat.le_of_ble_eq_true rfl)
  rw [lg_entry_eq]
  generalize (lg_sl ([.ref (a 3), .int x1]) ++ List.replicate (4 - (lg_sl ([.ref (a 3), .int x1])).length) Slot.unset).toArray = ls at hl ⊢
  exact e_CA_carryInto ha ⟨B.exec, B.bytes, hml, findClass_of_methodNamed B.named, fun w h => atoms_spec (ws := ws_CA_carryInto) B.pre w (List.mem_cons_of_mem _ h)⟩ B.returns B.notSynchronized hK hT x1 σ q hf s.heap [] hP va_S.rf ls hl
