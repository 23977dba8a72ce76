theorem d_MO_in_0 : decode b_MO_in 0 = .ok (.iload_n 0, 1) := by decide +kernel
theorem d_MO_in_1 : decode b_MO_in 1 = .ok (.iload_n 1, 1) := by decide +kernel
theorem d_MO_in_2 : decode b_MO_in 2 = .ok (.if_icmp .lt 12, 3) := by decide +kernel
theorem d_MO_in_5 : decode b_MO_in 5 = .ok (.iload_n 0, 1) := by decide +kernel
theorem d_MO_in_6 : decode b_MO_in 6 = .ok (.iload_n 2, 1) := by decide +kernel
theorem d_MO_in_7 : decode b_MO_in 7 = .ok (.if_icmp .gt 7, 3) := by decide +kernel
theorem d_MO_in_10 : decode b_MO_in 10 = .ok (.iconst 1, 1) := by decide +kernel
theorem d_MO_in_11 : decode b_MO_in 11 = .ok (.goto 4, 3) := by decide +kernel
theorem d_MO_in_14 : decode b_MO_in 14 = .ok (.iconst 0, 1) := by decide +kernel
theorem d_MO_in_15 : decode b_MO_in 15 = .ok (.ireturn, 1) := by decide +kernel
def f_MO_in (x0 x1 x2 : Int32) (σ : SS) : Option (Int32 × SS) :=
  (if x0 < x1 then some ((0 : Int32), σ) else (if x2 < x0 then some ((0 : Int32), σ) else some ((1 : Int32), σ)))
set_option maxHeartbeats 4000000 in
set_option maxRecDepth 100000 in
theorem e_MO_in {p : Program} {l : Launch} {e : Env} {s : State} {m : MethodId} {args : Array Value} {below : List Frame} {meth : Method} {c : Code} {D : va_G} {a t : Nat → Nat} {cI cZ : ClassId} (ha : aMC a) (F : CallFix p m c b_MO_in 3 s args gt R_MO) (hr : meth.sig.returnType = some .boolean) (hlk : meth.locks = false) (hK : va_K D vwCl [(cI, .int), (cZ, .boolean)] s) (hT : stM t (aM a) s s.heap) :
    ∀ (x0 x1 x2 : Int32) (σ : SS) (q : Int32 × SS), f_MO_in x0 x1 x2 σ = some q → ∀ (H : Heap) (locs : List Loc), va_P D vwCl ((wM a cI cZ) σ) H → va_S (aM a) s.heap H locs → ∀ (ls : Array Slot), lv_has ls 3 [(0, .int x0), (1, .int x1), (2, .int x2)] → W p l e { frames := 0, cells := 0, slots := 0, locals := 0 } s m args below meth c H locs 0 0 (MQ below (va_Qi (fun r u => r = q.1 ∧ u = q.2) (pW D (wM a cI cZ) [(cI, .int), (cZ, .boolean)] (stM t) (aM a)) (aM a)) args s 0 0 (aM a)) (F0 m 0 ls []) := by
  obtain ⟨hx, hb, hml, hown, hg⟩ := id F
  intro x0 x1 x2 σ q hf H locs hP hS ls hl
  unfold f_MO_in at hf
  refine lv_iload_n hx hb d_MO_in_0 rfl (lv_at hl 0 rfl) ?_
  refine lv_iload_n hx hb d_MO_in_1 rfl (lv_at hl 1 rfl) ?_
  refine lv_icmp_lt (tgt := 14) hx hb d_MO_in_2 (by decide) (fun c1 => ?_) (fun c1 => ?_)
  · replace hf := (if_pos c1).symm.trans hf
    refine lv_iconst (v := (0 : Int32)) hx hb d_MO_in_14 (by decide) ?_
    exact rr_z hx hb hr hlk (stM_g t) hK hT hP hS (Or.inl rfl) hf d_MO_in_15
  · replace hf := (if_neg c1).symm.trans hf
    refine lv_iload_n hx hb d_MO_in_5 rfl (lv_at hl 0 rfl) ?_
    refine lv_iload_n hx hb d_MO_in_6 rfl (lv_at hl 2 rfl) ?_
    refine lv_icmp_gt (tgt := 14) hx hb d_MO_in_7 (by decide) (fun c2 => ?_) (fun c2 => ?_)
    · replace hf := (if_pos c2).symm.trans hf
      refine lv_iconst (v := (0 : Int32)) hx hb d_MO_in_14 (by decide) ?_
      exact rr_z hx hb hr hlk (stM_g t) hK hT hP hS (Or.inl rfl) hf d_MO_in_15
    · replace hf := (if_neg c2).symm.trans hf
      refine lv_iconst (v := (1 : Int32)) hx hb d_MO_in_10 (by decide) ?_
      refine lv_goto (tgt := 15) hx hb d_MO_in_11 (by decide) ?_
      exact rr_z hx hb hr hlk (stM_g t) hK hT hP hS (Or.inr rfl) hf d_MO_in_15
set_option maxHeartbeats 4000000 in
set_option maxRecDepth 100000 in
theorem c_MO_in (l : Launch) {D : va_G} {a t : Nat → Nat} {cI cZ : ClassId} (ha : aMC a) (x0 x1 x2 : Int32) (σ : SS) (q : Int32 × SS) (hf : f_MO_in x0 x1 x2 σ = some q) : Met l y_MO_in ws_MO_in { frames := 0, cells := 0, slots := 0, locals := 0 } (va_Pc [.int x0, .int x1, .int x2] (pW D (wM a cI cZ) [(cI, .int), (cZ, .boolean)] (stM t) (aM a) σ)) (va_Qi (fun r u => r = q.1 ∧ u = q.2) (pW D (wM a cI cZ) [(cI, .int), (cZ, .boolean)] (stM t) (aM a)) (aM a)) 0 0 (aM a) := by
  refine Met.ofW (cc := b_MO_in) (maxL := 3) (ret := some .boolean) (by decide) rfl ?_
  intro p e s m args below meth c s₁ B hml hv
  obtain ⟨rfl, hP, hK, hT⟩ := hv
  have hl := lv_entry ([.int x0, .int x1, .int x2]) (n := 3) (Nat.le_of_ble_eq_true rfl)
  rw [lg_entry_eq]
  generalize (lg_sl ([.int x0, .int x1, .int x2]) ++ List.replicate (3 - (lg_sl ([.int x0, .int x1, .int x2])).length) Slot.unset).toArray = ls at hl ⊢
  exact e_MO_in ha ⟨B.exec, B.bytes, hml, findClass_of_methodNamed B.named, fun w h => atoms_spec (ws := ws_MO_in) B.pre w (List.mem_cons_of_mem _ h)⟩ B.returns B.notSynchronized hK hT x0 x1 x2 σ q hf s.heap [] hP va_S.rf ls hl
theorem d_MO_isRegister_0 : decode b_MO_isRegister 0 = .ok (.iload_n 0, 1) := by decide +kernel
theorem d_MO_isRegister_1 : decode b_MO_isRegister 1 = .ok (.iconst 0, 1) := by decide +kernel
theorem d_MO_isRegister_2 : decode b_MO_isRegister 2 = .ok (.bipush 9, 2) := by decide +kernel
theorem d_MO_isRegister_4 : decode b_MO_isRegister 4 = .ok (.invokestatic 75, 3) := by decide +kernel
theorem d_MO_isRegister_7 : decode b_MO_isRegister 7 = .ok (.ireturn, 1) := by decide +kernel
theorem gc_MO_75 : GoodIn gt (wsS R_MO 75 y_MO_in ws_MO_in) := gd_S gw_669 gw_670 gw_7 gw_671
def f_MO_isRegister (x0 : Int32) (σ : SS) : Option (Int32 × SS) :=
  (f_MO_in x0 (0 : Int32) (9 : Int32) σ).bind fun q1 => rz q1.1 q1.2
set_option maxHeartbeats 4000000 in
set_option maxRecDepth 100000 in
theorem e_MO_isRegister {p : Program} {l : Launch} {e : Env} {s : State} {m : MethodId} {args : Array Value} {below : List Frame} {meth : Method} {c : Code} {D : va_G} {a t : Nat → Nat} {cI cZ : ClassId} (ha : aMC a) (F : CallFix p m c b_MO_isRegister 1 s args gt R_MO) (hr : meth.sig.returnType = some .boolean) (hlk : meth.locks = false) (hK : va_K D vwCl [(cI, .int), (cZ, .boolean)] s) (hT : stM t (aM a) s s.heap) :
    ∀ (x0 : Int32) (σ : SS) (q : Int32 × SS), f_MO_isRegister x0 σ = some q → ∀ (H : Heap) (locs : List Loc), va_P D vwCl ((wM a cI cZ) σ) H → va_S (aM a) s.heap H locs → ∀ (ls : Array Slot), lv_has ls 1 [(0, .int x0)] → W p l e { frames := 1, cells := 0, slots := 0, locals := 22 } s m args below meth c H locs 0 0 (MQ below (va_Qi (fun r u => r = q.1 ∧ u = q.2) (pW D (wM a cI cZ) [(cI, .int), (cZ, .boolean)] (stM t) (aM a)) (aM a)) args s 0 0 (aM a)) (F0 m 0 ls []) := by
  obtain ⟨hx, hb, hml, hown, hg⟩ := id F
  intro x0 σ q hf H locs hP hS ls hl
  unfold f_MO_isRegister at hf
  refine lv_iload_n hx hb d_MO_isRegister_0 rfl (lv_at hl 0 rfl) ?_
  refine lv_iconst (v := (0 : Int32)) hx hb d_MO_isRegister_1 (by decide) ?_
  refine lv_bipush (v := (9 : Int32)) hx hb d_MO_isRegister_2 (by decide) ?_
  refine bdK hf (fun q1 h2 hf => ?_)
  refine rc_Si (As := [.int x0, .int (0 : Int32), .int (9 : Int32)]) (rest := []) (stM_g t) F (c_MO_in l ha x0 (0 : Int32) (9 : Int32) σ q1 h2) (cwS 3 hg gc_MO_75 rfl rfl rfl hs_MO_in ⟨Nat.le_of_ble_eq_true rfl, Nat.le_of_ble_eq_true rfl⟩) hK hT hP hS rfl hl.1 rfl (Nat.le_of_ble_eq_true rfl) d_MO_isRegister_4 ⟨Nat.zero_le _, Nat.zero_le _⟩ (fun H locs hP hS => ?_)
  exact rr_zg hx hb hr hlk (stM_g t) hK hT hP hS hf d_MO_isRegister_7
set_option maxHeartbeats 4000000 in
set_option maxRecDepth 100000 in
theorem c_MO_isRegister (l : Launch) {D : va_G} {a t : Nat → Nat} {cI cZ : ClassId} (ha : aMC a) (x0 : Int32) (σ : SS) (q : Int32 × SS) (hf : f_MO_isRegister x0 σ = some q) : Met l y_MO_isRegister ws_MO_isRegister { frames := 1, cells := 0, slots := 0, locals := 22 } (va_Pc [.int x0] (pW D (wM a cI cZ) [(cI, .int), (cZ, .boolean)] (stM t) (aM a) σ)) (va_Qi (fun r u => r = q.1 ∧ u = q.2) (pW D (wM a cI cZ) [(cI, .int), (cZ, .boolean)] (stM t) (aM a)) (aM a)) 0 0 (aM a) := by
  refine Met.ofW (cc := b_MO_isRegister) (maxL := 1) (ret := some .boolean) (by decide) rfl ?_
  intro p e s m args below meth c s₁ B hml hv
  obtain ⟨rfl, hP, hK, hT⟩ := hv
  have hl := lv_entry ([.int x0]) (n := 1) (Nat.le_of_ble_eq_true rfl)
  rw [lg_entry_eq]
  generalize (lg_sl ([.int x0]) ++ List.replicate (1 - (lg_sl ([.int x0])).length) Slot.unset).toArray = ls at hl ⊢
  exact e_MO_isRegister ha ⟨B.exec, B.bytes, hml, findClass_of_methodNamed B.named, fun w h => atoms_spec (ws := ws_MO_isRegister) B.pre w (List.mem_cons_of_mem _ h)⟩ B.returns B.notSynchronized hK hT x0 σ q hf s.heap [] hP va_S.rf ls hl
theorem d_MO_isRight_0 : decode b_MO_isRight 0 = .ok (.iload_n 0, 1) := by decide +kernel
theorem d_MO_isRight_1 : decode b_MO_isRight 1 = .ok (.iconst 0, 1) := by decide +kernel
theorem d_MO_isRight_2 : decode b_MO_isRight 2 = .ok (.bipush 6, 2) := by decide +kernel
theorem d_MO_isRight_4 : decode b_MO_isRight 4 = .ok (.invokestatic 75, 3) := by decide +kernel
theorem d_MO_isRight_7 : decode b_MO_isRight 7 = .ok (.istore 4, 2) := by decide +kernel
theorem d_MO_isRight_9 : decode b_MO_isRight 9 = .ok (.iload_n 0, 1) := by decide +kernel
theorem d_MO_isRight_10 : decode b_MO_isRight 10 = .ok (.ifCond .ne 16, 3) := by decide +kernel
theorem d_MO_isRight_13 : decode b_MO_isRight 13 = .ok (.iload_n 2, 1) := by decide +kernel
theorem d_MO_isRight_14 : decode b_MO_isRight 14 = .ok (.sipush (-999), 3) := by decide +kernel
theorem d_MO_isRight_17 : decode b_MO_isRight 17 = .ok (.sipush 999, 3) := by decide +kernel
theorem d_MO_isRight_20 : decode b_MO_isRight 20 = .ok (.invokestatic 75, 3) := by decide +kernel
theorem d_MO_isRight_23 : decode b_MO_isRight 23 = .ok (.goto 41, 3) := by decide +kernel
theorem d_MO_isRight_26 : decode b_MO_isRight 26 = .ok (.iload_n 0, 1) := by decide +kernel
theorem d_MO_isRight_27 : decode b_MO_isRight 27 = .ok (.bipush 9, 2) := by decide +kernel
theorem d_MO_isRight_29 : decode b_MO_isRight 29 = .ok (.if_icmp .ne 13, 3) := by decide +kernel
theorem d_MO_isRight_32 : decode b_MO_isRight 32 = .ok (.iload_n 2, 1) := by decide +kernel
theorem d_MO_isRight_33 : decode b_MO_isRight 33 = .ok (.iconst 0, 1) := by decide +kernel
theorem d_MO_isRight_34 : decode b_MO_isRight 34 = .ok (.bipush 39, 2) := by decide +kernel
theorem d_MO_isRight_36 : decode b_MO_isRight 36 = .ok (.invokestatic 75, 3) := by decide +kernel
theorem d_MO_isRight_39 : decode b_MO_isRight 39 = .ok (.goto 25, 3) := by decide +kernel
theorem d_MO_isRight_42 : decode b_MO_isRight 42 = .ok (.iload_n 0, 1) := by decide +kernel
theorem d_MO_isRight_43 : decode b_MO_isRight 43 = .ok (.bipush 11, 2) := by decide +kernel
theorem d_MO_isRight_45 : decode b_MO_isRight 45 = .ok (.if_icmp .ne 15, 3) := by decide +kernel
theorem d_MO_isRight_48 : decode b_MO_isRight 48 = .ok (.iload_n 2, 1) := by decide +kernel
theorem d_MO_isRight_49 : decode b_MO_isRight 49 = .ok (.ifCond .ne 7, 3) := by decide +kernel
theorem d_MO_isRight_52 : decode b_MO_isRight 52 = .ok (.iconst 1, 1) := by decide +kernel
theorem d_MO_isRight_53 : decode b_MO_isRight 53 = .ok (.goto 11, 3) := by decide +kernel
theorem d_MO_isRight_56 : decode b_MO_isRight 56 = .ok (.iconst 0, 1) := by decide +kernel
theorem d_MO_isRight_57 : decode b_MO_isRight 57 = .ok (.goto 7, 3) := by decide +kernel
theorem d_MO_isRight_60 : decode b_MO_isRight 60 = .ok (.iload_n 2, 1) := by decide +kernel
theorem d_MO_isRight_61 : decode b_MO_isRight 61 = .ok (.invokestatic 79, 3) := by decide +kernel
theorem d_MO_isRight_64 : decode b_MO_isRight 64 = .ok (.istore 5, 2) := by decide +kernel
theorem d_MO_isRight_66 : decode b_MO_isRight 66 = .ok (.iload_n 0, 1) := by decide +kernel
theorem d_MO_isRight_67 : decode b_MO_isRight 67 = .ok (.iconst 2, 1) := by decide +kernel
theorem d_MO_isRight_68 : decode b_MO_isRight 68 = .ok (.iconst 5, 1) := by decide +kernel
theorem d_MO_isRight_69 : decode b_MO_isRight 69 = .ok (.invokestatic 75, 3) := by decide +kernel
theorem d_MO_isRight_72 : decode b_MO_isRight 72 = .ok (.ifCond .ne 9, 3) := by decide +kernel
theorem d_MO_isRight_75 : decode b_MO_isRight 75 = .ok (.iload_n 0, 1) := by decide +kernel
theorem d_MO_isRight_76 : decode b_MO_isRight 76 = .ok (.bipush 7, 2) := by decide +kernel
theorem d_MO_isRight_78 : decode b_MO_isRight 78 = .ok (.if_icmp .ne 10, 3) := by decide +kernel
theorem d_MO_isRight_81 : decode b_MO_isRight 81 = .ok (.iload_n 3, 1) := by decide +kernel
theorem d_MO_isRight_82 : decode b_MO_isRight 82 = .ok (.invokestatic 79, 3) := by decide +kernel
theorem d_MO_isRight_85 : decode b_MO_isRight 85 = .ok (.goto 28, 3) := by decide +kernel
theorem d_MO_isRight_88 : decode b_MO_isRight 88 = .ok (.iload_n 0, 1) := by decide +kernel
theorem d_MO_isRight_89 : decode b_MO_isRight 89 = .ok (.bipush 10, 2) := by decide +kernel
theorem d_MO_isRight_91 : decode b_MO_isRight 91 = .ok (.if_icmp .ne 13, 3) := by decide +kernel
theorem d_MO_isRight_94 : decode b_MO_isRight 94 = .ok (.iload_n 3, 1) := by decide +kernel
theorem d_MO_isRight_95 : decode b_MO_isRight 95 = .ok (.iconst 0, 1) := by decide +kernel
theorem d_MO_isRight_96 : decode b_MO_isRight 96 = .ok (.bipush 39, 2) := by decide +kernel
theorem d_MO_isRight_98 : decode b_MO_isRight 98 = .ok (.invokestatic 75, 3) := by decide +kernel
theorem d_MO_isRight_101 : decode b_MO_isRight 101 = .ok (.goto 12, 3) := by decide +kernel
theorem d_MO_isRight_104 : decode b_MO_isRight 104 = .ok (.iload_n 3, 1) := by decide +kernel
theorem d_MO_isRight_105 : decode b_MO_isRight 105 = .ok (.ifCond .ne 7, 3) := by decide +kernel
theorem d_MO_isRight_108 : decode b_MO_isRight 108 = .ok (.iconst 1, 1) := by decide +kernel
theorem d_MO_isRight_109 : decode b_MO_isRight 109 = .ok (.goto 4, 3) := by decide +kernel
theorem d_MO_isRight_112 : decode b_MO_isRight 112 = .ok (.iconst 0, 1) := by decide +kernel
theorem d_MO_isRight_113 : decode b_MO_isRight 113 = .ok (.istore 6, 2) := by decide +kernel
theorem d_MO_isRight_115 : decode b_MO_isRight 115 = .ok (.iload_n 0, 1) := by decide +kernel
theorem d_MO_isRight_116 : decode b_MO_isRight 116 = .ok (.iconst 0, 1) := by decide +kernel
theorem d_MO_isRight_117 : decode b_MO_isRight 117 = .ok (.bipush 11, 2) := by decide +kernel
theorem d_MO_isRight_119 : decode b_MO_isRight 119 = .ok (.invokestatic 75, 3) := by decide +kernel
theorem d_MO_isRight_122 : decode b_MO_isRight 122 = .ok (.ifCond .eq 36, 3) := by decide +kernel
theorem d_MO_isRight_125 : decode b_MO_isRight 125 = .ok (.iload 5, 2) := by decide +kernel
theorem d_MO_isRight_127 : decode b_MO_isRight 127 = .ok (.ifCond .eq 31, 3) := by decide +kernel
theorem d_MO_isRight_130 : decode b_MO_isRight 130 = .ok (.iload 6, 2) := by decide +kernel
theorem d_MO_isRight_132 : decode b_MO_isRight 132 = .ok (.ifCond .eq 26, 3) := by decide +kernel
theorem d_MO_isRight_135 : decode b_MO_isRight 135 = .ok (.iload 4, 2) := by decide +kernel
theorem d_MO_isRight_137 : decode b_MO_isRight 137 = .ok (.ifCond .eq 13, 3) := by decide +kernel
theorem d_MO_isRight_140 : decode b_MO_isRight 140 = .ok (.iload_n 1, 1) := by decide +kernel
theorem d_MO_isRight_141 : decode b_MO_isRight 141 = .ok (.invokestatic 79, 3) := by decide +kernel
theorem d_MO_isRight_144 : decode b_MO_isRight 144 = .ok (.ifCond .eq 14, 3) := by decide +kernel
theorem d_MO_isRight_147 : decode b_MO_isRight 147 = .ok (.goto 7, 3) := by decide +kernel
theorem d_MO_isRight_150 : decode b_MO_isRight 150 = .ok (.iload_n 1, 1) := by decide +kernel
theorem d_MO_isRight_151 : decode b_MO_isRight 151 = .ok (.ifCond .ne 7, 3) := by decide +kernel
theorem d_MO_isRight_154 : decode b_MO_isRight 154 = .ok (.iconst 1, 1) := by decide +kernel
theorem d_MO_isRight_155 : decode b_MO_isRight 155 = .ok (.goto 4, 3) := by decide +kernel
theorem d_MO_isRight_158 : decode b_MO_isRight 158 = .ok (.iconst 0, 1) := by decide +kernel
theorem d_MO_isRight_159 : decode b_MO_isRight 159 = .ok (.ireturn, 1) := by decide +kernel
theorem gc_MO_79 : GoodIn gt (wsS R_MO 79 y_MO_isRegister ws_MO_isRegister) := gd_S gw_672 gw_673 gw_7 gw_674
def b_MO_isRight_113 (x0 x1 x4 x5 y0 : Int32) (σ : SS) : Option (Int32 × SS) :=
  (f_MO_in x0 (0 : Int32) (11 : Int32) σ).bind fun q1 => (if q1.1 = 0 then some ((0 : Int32), q1.2) else (if x5 = 0 then some ((0 : Int32), q1.2) else (if y0 = 0 then some ((0 : Int32), q1.2) else (if x4 = 0 then (if x1 = 0 then some ((1 : Int32), q1.2) else some ((0 : Int32), q1.2)) else (f_MO_isRegister x1 q1.2).bind fun q8 => (if q8.1 = 0 then some ((0 : Int32), q8.2) else some ((1 : Int32), q8.2))))))
set_option maxHeartbeats 4000000 in
set_option maxRecDepth 100000 in
theorem k_MO_isRight_113 {p : Program} {l : Launch} {e : Env} {s : State} {m : MethodId} {args : Array Value} {below : List Frame} {meth : Method} {c : Code} {D : va_G} {a t : Nat → Nat} {cI cZ : ClassId} (ha : aMC a) (F : CallFix p m c b_MO_isRight 7 s args gt R_MO) (hr : meth.sig.returnType = some .boolean) (hlk : meth.locks = false) (hK : va_K D vwCl [(cI, .int), (cZ, .boolean)] s) (hT : stM t (aM a) s s.heap) :
    ∀ (x0 x1 x4 x5 y0 : Int32) (σ : SS) (q : Int32 × SS), b_MO_isRight_113 x0 x1 x4 x5 y0 σ = some q → ∀ (H : Heap) (locs : List Loc), va_P D vwCl ((wM a cI cZ) σ) H → va_S (aM a) s.heap H locs → ∀ (ls : Array Slot), lv_has ls 7 [(0, .int x0), (1, .int x1), (4, .int x4), (5, .int x5)] → W p l e { frames := 2, cells := 0, slots := 0, locals := 42 } s m args below meth c H locs 0 0 (MQ below (va_Qi (fun r u => r = q.1 ∧ u = q.2) (pW D (wM a cI cZ) [(cI, .int), (cZ, .boolean)] (stM t) (aM a)) (aM a)) args s 0 0 (aM a)) (F0 m 113 ls [.int y0]) := by
  obtain ⟨hx, hb, hml, hown, hg⟩ := id F
  intro x0 x1 x4 x5 y0 σ q hf H locs hP hS ls hl
  unfold b_MO_isRight_113 at hf
  refine lv_istore (lv' := [(6, .int y0), (0, .int x0), (1, .int x1), (4, .int x4), (5, .int x5)]) hx hb d_MO_isRight_113 hl (by decide) rfl (fun ls hl => ?_)
  refine lv_iload_n hx hb d_MO_isRight_115 rfl (lv_at hl 1 rfl) ?_
  refine lv_iconst (v := (0 : Int32)) hx hb d_MO_isRight_116 (by decide) ?_
  refine lv_bipush (v := (11 : Int32)) hx hb d_MO_isRight_117 (by decide) ?_
  refine bdK hf (fun q1 h2 hf => ?_)
  refine rc_Si (As := [.int x0, .int (0 : Int32), .int (11 : Int32)]) (rest := []) (stM_g t) F (c_MO_in l ha x0 (0 : Int32) (11 : Int32) σ q1 h2) (cwS 3 hg gc_MO_75 rfl rfl rfl hs_MO_in ⟨Nat.le_of_ble_eq_true rfl, Nat.le_of_ble_eq_true rfl⟩) hK hT hP hS rfl hl.1 rfl (Nat.le_of_ble_eq_true rfl) d_MO_isRight_119 ⟨Nat.zero_le _, Nat.zero_le _⟩ (fun H locs hP hS => ?_)
  refine lv_if_eq (tgt := 158) hx hb d_MO_isRight_122 (by decide) (fun c3 => ?_) (fun c3 => ?_)
  · replace hf := (if_pos c3).symm.trans hf
    refine lv_iconst (v := (0 : Int32)) hx hb d_MO_isRight_158 (by decide) ?_
    exact rr_z hx hb hr hlk (stM_g t) hK hT hP hS (Or.inl rfl) hf d_MO_isRight_159
  · replace hf := (if_neg c3).symm.trans hf
    refine lv_iload hx hb d_MO_isRight_125 (lv_at hl 4 rfl) ?_
    refine lv_if_eq (tgt := 158) hx hb d_MO_isRight_127 (by decide) (fun c4 => ?_) (fun c4 => ?_)
    · replace hf := (if_pos c4).symm.trans hf
      refine lv_iconst (v := (0 : Int32)) hx hb d_MO_isRight_158 (by decide) ?_
      exact rr_z hx hb hr hlk (stM_g t) hK hT hP hS (Or.inl rfl) hf d_MO_isRight_159
    · replace hf := (if_neg c4).symm.trans hf
      refine lv_iload hx hb d_MO_isRight_130 (lv_at hl 0 rfl) ?_
      refine lv_if_eq (tgt := 158) hx hb d_MO_isRight_132 (by decide) (fun c5 => ?_) (fun c5 => ?_)
      · replace hf := (if_pos c5).symm.trans hf
        refine lv_iconst (v := (0 : Int32)) hx hb d_MO_isRight_158 (by decide) ?_
        exact rr_z hx hb hr hlk (stM_g t) hK hT hP hS (Or.inl rfl) hf d_MO_isRight_159
      · replace hf := (if_neg c5).symm.trans hf
        refine lv_iload hx hb d_MO_isRight_135 (lv_at hl 3 rfl) ?_
        refine lv_if_eq (tgt := 150) hx hb d_MO_isRight_137 (by decide) (fun c6 => ?_) (fun c6 => ?_)
        · replace hf := (if_pos c6).symm.trans hf
          refine lv_iload_n hx hb d_MO_isRight_150 rfl (lv_at hl 2 rfl) ?_
          refine lv_if_ne (tgt := 158) hx hb d_MO_isRight_151 (by decide) (fun c7 => ?_) (fun c7 => ?_)
          · replace hf := (if_neg c7).symm.trans hf
            refine lv_iconst (v := (0 : Int32)) hx hb d_MO_isRight_158 (by decide) ?_
            exact rr_z hx hb hr hlk (stM_g t) hK hT hP hS (Or.inl rfl) hf d_MO_isRight_159
          · replace hf := (if_pos c7).symm.trans hf
            refine lv_iconst (v := (1 : Int32)) hx hb d_MO_isRight_154 (by decide) ?_
            refine lv_goto (tgt := 159) hx hb d_MO_isRight_155 (by decide) ?_
            exact rr_z hx hb hr hlk (stM_g t) hK hT hP hS (Or.inr rfl) hf d_MO_isRight_159
        · replace hf := (if_neg c6).symm.trans hf
          refine lv_iload_n hx hb d_MO_isRight_140 rfl (lv_at hl 2 rfl) ?_
          refine bdK hf (fun q8 h9 hf => ?_)
          refine rc_Si (As := [.int x1]) (rest := []) (stM_g t) F (c_MO_isRegister l ha x1 q1.2 q8 h9) (cwS 1 hg gc_MO_79 rfl rfl rfl hs_MO_isRegister ⟨Nat.le_of_ble_eq_true rfl, Nat.le_of_ble_eq_true rfl⟩) hK hT hP hS rfl hl.1 rfl (Nat.le_of_ble_eq_true rfl) d_MO_isRight_141 ⟨Nat.zero_le _, Nat.zero_le _⟩ (fun H locs hP hS => ?_)
          refine lv_if_eq (tgt := 158) hx hb d_MO_isRight_144 (by decide) (fun c10 => ?_) (fun c10 => ?_)
          · replace hf := (if_pos c10).symm.trans hf
            refine lv_iconst (v := (0 : Int32)) hx hb d_MO_isRight_158 (by decide) ?_
            exact rr_z hx hb hr hlk (stM_g t) hK hT hP hS (Or.inl rfl) hf d_MO_isRight_159
          · replace hf := (if_neg c10).symm.trans hf
            refine lv_goto (tgt := 154) hx hb d_MO_isRight_147 (by decide) ?_
            refine lv_iconst (v := (1 : Int32)) hx hb d_MO_isRight_154 (by decide) ?_
            refine lv_goto (tgt := 159) hx hb d_MO_isRight_155 (by decide) ?_
            exact rr_z hx hb hr hlk (stM_g t) hK hT hP hS (Or.inr rfl) hf d_MO_isRight_159
def b_MO_isRight_64 (x0 x1 x3 x4 y0 : Int32) (σ : SS) : Option (Int32 × SS) :=
  (f_MO_in x0 (2 : Int32) (5 : Int32) σ).bind fun q1 => (if q1.1 = 0 then (if x0 = (7 : Int32) then (f_MO_isRegister x3 q1.2).bind fun q11 => b_MO_isRight_113 x0 x1 x4 y0 q11.1 q11.2 else (if x0 = (10 : Int32) then (f_MO_in x3 (0 : Int32) (39 : Int32) q1.2).bind fun q9 => b_MO_isRight_113 x0 x1 x4 y0 q9.1 q9.2 else (if x3 = 0 then b_MO_isRight_113 x0 x1 x4 y0 (1 : Int32) q1.2 else b_MO_isRight_113 x0 x1 x4 y0 (0 : Int32) q1.2))) else (f_MO_isRegister x3 q1.2).bind fun q4 => b_MO_isRight_113 x0 x1 x4 y0 q4.1 q4.2)
set_option maxHeartbeats 4000000 in
set_option maxRecDepth 100000 in
theorem k_MO_isRight_64 {p : Program} {l : Launch} {e : Env} {s : State} {m : MethodId} {args : Array Value} {below : List Frame} {meth : Method} {c : Code} {D : va_G} {a t : Nat → Nat} {cI cZ : ClassId} (ha : aMC a) (F : CallFix p m c b_MO_isRight 7 s args gt R_MO) (hr : meth.sig.returnType = some .boolean) (hlk : meth.locks = false) (hK : va_K D vwCl [(cI, .int), (cZ, .boolean)] s) (hT : stM t (aM a) s s.heap) :
    ∀ (x0 x1 x3 x4 y0 : Int32) (σ : SS) (q : Int32 × SS), b_MO_isRight_64 x0 x1 x3 x4 y0 σ = some q → ∀ (H : Heap) (locs : List Loc), va_P D vwCl ((wM a cI cZ) σ) H → va_S (aM a) s.heap H locs → ∀ (ls : Array Slot), lv_has ls 7 [(0, .int x0), (1, .int x1), (3, .int x3), (4, .int x4)] → W p l e { frames := 2, cells := 0, slots := 0, locals := 42 } s m args below meth c H locs 0 0 (MQ below (va_Qi (fun r u => r = q.1 ∧ u = q.2) (pW D (wM a cI cZ) [(cI, .int), (cZ, .boolean)] (stM t) (aM a)) (aM a)) args s 0 0 (aM a)) (F0 m 64 ls [.int y0]) := by
  obtain ⟨hx, hb, hml, hown, hg⟩ := id F
  intro x0 x1 x3 x4 y0 σ q hf H locs hP hS ls hl
  unfold b_MO_isRight_64 at hf
  refine lv_istore (lv' := [(5, .int y0), (0, .int x0), (1, .int x1), (3, .int x3), (4, .int x4)]) hx hb d_MO_isRight_64 hl (by decide) rfl (fun ls hl => ?_)
  refine lv_iload_n hx hb d_MO_isRight_66 rfl (lv_at hl 1 rfl) ?_
  refine lv_iconst (v := (2 : Int32)) hx hb d_MO_isRight_67 (by decide) ?_
  refine lv_iconst (v := (5 : Int32)) hx hb d_MO_isRight_68 (by decide) ?_
  refine bdK hf (fun q1 h2 hf => ?_)
  refine rc_Si (As := [.int x0, .int (2 : Int32), .int (5 : Int32)]) (rest := []) (stM_g t) F (c_MO_in l ha x0 (2 : Int32) (5 : Int32) σ q1 h2) (cwS 3 hg gc_MO_75 rfl rfl rfl hs_MO_in ⟨Nat.le_of_ble_eq_true rfl, Nat.le_of_ble_eq_true rfl⟩) hK hT hP hS rfl hl.1 rfl (Nat.le_of_ble_eq_true rfl) d_MO_isRight_69 ⟨Nat.zero_le _, Nat.zero_le _⟩ (fun H locs hP hS => ?_)
  refine lv_if_ne (tgt := 81) hx hb d_MO_isRight_72 (by decide) (fun c3 => ?_) (fun c3 => ?_)
  · replace hf := (if_neg c3).symm.trans hf
    refine lv_iload_n hx hb d_MO_isRight_81 rfl (lv_at hl 3 rfl) ?_
    refine bdK hf (fun q4 h5 hf => ?_)
    refine rc_Si (As := [.int x3]) (rest := []) (stM_g t) F (c_MO_isRegister l ha x3 q1.2 q4 h5) (cwS 1 hg gc_MO_79 rfl rfl rfl hs_MO_isRegister ⟨Nat.le_of_ble_eq_true rfl, Nat.le_of_ble_eq_true rfl⟩) hK hT hP hS rfl hl.1 rfl (Nat.le_of_ble_eq_true rfl) d_MO_isRight_82 ⟨Nat.zero_le _, Nat.zero_le _⟩ (fun H locs hP hS => ?_)
    refine lv_goto (tgt := 113) hx hb d_MO_isRight_85 (by decide) ?_
    exact k_MO_isRight_113 ha F hr hlk hK hT x0 x1 x4 y0 q4.1 q4.2 q hf _ _ hP hS ls (lv_sub hl [1, 2, 4, 0] rfl)
  · replace hf := (if_pos c3).symm.trans hf
    refine lv_iload_n hx hb d_MO_isRight_75 rfl (lv_at hl 1 rfl) ?_
    refine lv_bipush (v := (7 : Int32)) hx hb d_MO_isRight_76 (by decide) ?_
    refine lv_icmp_ne (tgt := 88) hx hb d_MO_isRight_78 (by decide) (fun c6 => ?_) (fun c6 => ?_)
    · replace hf := (if_neg c6).symm.trans hf
      refine lv_iload_n hx hb d_MO_isRight_88 rfl (lv_at hl 1 rfl) ?_
      refine lv_bipush (v := (10 : Int32)) hx hb d_MO_isRight_89 (by decide) ?_
      refine lv_icmp_ne (tgt := 104) hx hb d_MO_isRight_91 (by decide) (fun c7 => ?_) (fun c7 => ?_)
      · replace hf := (if_neg c7).symm.trans hf
        refine lv_iload_n hx hb d_MO_isRight_104 rfl (lv_at hl 3 rfl) ?_
        refine lv_if_ne (tgt := 112) hx hb d_MO_isRight_105 (by decide) (fun c8 => ?_) (fun c8 => ?_)
        · replace hf := (if_neg c8).symm.trans hf
          refine lv_iconst (v := (0 : Int32)) hx hb d_MO_isRight_112 (by decide) ?_
          exact k_MO_isRight_113 ha F hr hlk hK hT x0 x1 x4 y0 (0 : Int32) q1.2 q hf _ _ hP hS ls (lv_sub hl [1, 2, 4, 0] rfl)
        · replace hf := (if_pos c8).symm.trans hf
          refine lv_iconst (v := (1 : Int32)) hx hb d_MO_isRight_108 (by decide) ?_
          refine lv_goto (tgt := 113) hx hb d_MO_isRight_109 (by decide) ?_
          exact k_MO_isRight_113 ha F hr hlk hK hT x0 x1 x4 y0 (1 : Int32) q1.2 q hf _ _ hP hS ls (lv_sub hl [1, 2, 4, 0] rfl)
      · replace hf := (if_pos c7).symm.trans hf
        refine lv_iload_n hx hb d_MO_isRight_94 rfl (lv_at hl 3 rfl) ?_
        refine lv_iconst (v := (0 : Int32)) hx hb d_MO_isRight_95 (by decide) ?_
        refine lv_bipush (v := (39 : Int32)) hx hb d_MO_isRight_96 (by decide) ?_
        refine bdK hf (fun q9 h10 hf => ?_)
        refine rc_Si (As := [.int x3, .int (0 : Int32), .int (39 : Int32)]) (rest := []) (stM_g t) F (c_MO_in l ha x3 (0 : Int32) (39 : Int32) q1.2 q9 h10) (cwS 3 hg gc_MO_75 rfl rfl rfl hs_MO_in ⟨Nat.le_of_ble_eq_true rfl, Nat.le_of_ble_eq_true rfl⟩) hK hT hP hS rfl hl.1 rfl (Nat.le_of_ble_eq_true rfl) d_MO_isRight_98 ⟨Nat.zero_le _, Nat.zero_le _⟩ (fun H locs hP hS => ?_)
        refine lv_goto (tgt := 113) hx hb d_MO_isRight_101 (by decide) ?_
        exact k_MO_isRight_113 ha F hr hlk hK hT x0 x1 x4 y0 q9.1 q9.2 q hf _ _ hP hS ls (lv_sub hl [1, 2, 4, 0] rfl)
    · replace hf := (if_pos c6).symm.trans hf
      refine lv_iload_n hx hb d_MO_isRight_81 rfl (lv_at hl 3 rfl) ?_
      refine bdK hf (fun q11 h12 hf => ?_)
      refine rc_Si (As := [.int x3]) (rest := []) (stM_g t) F (c_MO_isRegister l ha x3 q1.2 q11 h12) (cwS 1 hg gc_MO_79 rfl rfl rfl hs_MO_isRegister ⟨Nat.le_of_ble_eq_true rfl, Nat.le_of_ble_eq_true rfl⟩) hK hT hP hS rfl hl.1 rfl (Nat.le_of_ble_eq_true rfl) d_MO_isRight_82 ⟨Nat.zero_le _, Nat.zero_le _⟩ (fun H locs hP hS => ?_)
      refine lv_goto (tgt := 113) hx hb d_MO_isRight_85 (by decide) ?_
      exact k_MO_isRight_113 ha F hr hlk hK hT x0 x1 x4 y0 q11.1 q11.2 q hf _ _ hP hS ls (lv_sub hl [1, 2, 4, 0] rfl)
def f_MO_isRight (x0 x1 x2 x3 : Int32) (σ : SS) : Option (Int32 × SS) :=
  (f_MO_in x0 (0 : Int32) (6 : Int32) σ).bind fun q1 => (if x0 = 0 then (f_MO_in x2 (-999 : Int32) (999 : Int32) q1.2).bind fun q11 => b_MO_isRight_64 x0 x1 x3 q1.1 q11.1 q11.2 else (if x0 = (9 : Int32) then (f_MO_in x2 (0 : Int32) (39 : Int32) q1.2).bind fun q9 => b_MO_isRight_64 x0 x1 x3 q1.1 q9.1 q9.2 else (if x0 = (11 : Int32) then (if x2 = 0 then b_MO_isRight_64 x0 x1 x3 q1.1 (1 : Int32) q1.2 else b_MO_isRight_64 x0 x1 x3 q1.1 (0 : Int32) q1.2) else (f_MO_isRegister x2 q1.2).bind fun q6 => b_MO_isRight_64 x0 x1 x3 q1.1 q6.1 q6.2)))
set_option maxHeartbeats 4000000 in
set_option maxRecDepth 100000 in
theorem e_MO_isRight {p : Program} {l : Launch} {e : Env} {s : State} {m : MethodId} {args : Array Value} {below : List Frame} {meth : Method} {c : Code} {D : va_G} {a t : Nat → Nat} {cI cZ : ClassId} (ha : aMC a) (F : CallFix p m c b_MO_isRight 7 s args gt R_MO) (hr : meth.sig.returnType = some .boolean) (hlk : meth.locks = false) (hK : va_K D vwCl [(cI, .int), (cZ, .boolean)] s) (hT : stM t (aM a) s s.heap) :
    ∀ (x0 x1 x2 x3 : Int32) (σ : SS) (q : Int32 × SS), f_MO_isRight x0 x1 x2 x3 σ = some q → ∀ (H : Heap) (locs : List Loc), va_P D vwCl ((wM a cI cZ) σ) H → va_S (aM a) s.heap H locs → ∀ (ls : Array Slot), lv_has ls 7 [(0, .int x0), (1, .int x1), (2, .int x2), (3, .int x3)] → W p l e { frames := 2, cells := 0, slots := 0, locals := 42 } s m args below meth c H locs 0 0 (MQ below (va_Qi (fun r u => r = q.1 ∧ u = q.2) (pW D (wM a cI cZ) [(cI, .int), (cZ, .boolean)] (stM t) (aM a)) (aM a)) args s 0 0 (aM a)) (F0 m 0 ls []) := by
  obtain ⟨hx, hb, hml, hown, hg⟩ := id F
  intro x0 x1 x2 x3 σ q hf H locs hP hS ls hl
  unfold f_MO_isRight at hf
  refine lv_iload_n hx hb d_MO_isRight_0 rfl (lv_at hl 0 rfl) ?_
  refine lv_iconst (v := (0 : Int32)) hx hb d_MO_isRight_1 (by decide) ?_
  refine lv_bipush (v := (6 : Int32)) hx hb d_MO_isRight_2 (by decide) ?_
  refine bdK hf (fun q1 h2 hf => ?_)
  refine rc_Si (As := [.int x0, .int (0 : Int32), .int (6 : Int32)]) (rest := []) (stM_g t) F (c_MO_in l ha x0 (0 : Int32) (6 : Int32) σ q1 h2) (cwS 3 hg gc_MO_75 rfl rfl rfl hs_MO_in ⟨Nat.le_of_ble_eq_true rfl, Nat.le_of_ble_eq_true rfl⟩) hK hT hP hS rfl hl.1 rfl (Nat.le_of_ble_eq_true rfl) d_MO_isRight_4 ⟨Nat.zero_le _, Nat.zero_le _⟩ (fun H locs hP hS => ?_)
  refine lv_istore (lv' := [(4, .int q1.1), (0, .int x0), (1, .int x1), (2, .int x2), (3, .int x3)]) hx hb d_MO_isRight_7 hl (by decide) rfl (fun ls hl => ?_)
  refine lv_iload_n hx hb d_MO_isRight_9 rfl (lv_at hl 1 rfl) ?_
  refine lv_if_ne (tgt := 26) hx hb d_MO_isRight_10 (by decide) (fun c3 => ?_) (fun c3 => ?_)
  · replace hf := (if_neg c3).symm.trans hf
    refine lv_iload_n hx hb d_MO_isRight_26 rfl (lv_at hl 1 rfl) ?_
    refine lv_bipush (v := (9 : Int32)) hx hb d_MO_isRight_27 (by decide) ?_
    refine lv_icmp_ne (tgt := 42) hx hb d_MO_isRight_29 (by decide) (fun c4 => ?_) (fun c4 => ?_)
    · replace hf := (if_neg c4).symm.trans hf
      refine lv_iload_n hx hb d_MO_isRight_42 rfl (lv_at hl 1 rfl) ?_
      refine lv_bipush (v := (11 : Int32)) hx hb d_MO_isRight_43 (by decide) ?_
      refine lv_icmp_ne (tgt := 60) hx hb d_MO_isRight_45 (by decide) (fun c5 => ?_) (fun c5 => ?_)
      · replace hf := (if_neg c5).symm.trans hf
        refine lv_iload_n hx hb d_MO_isRight_60 rfl (lv_at hl 3 rfl) ?_
        refine bdK hf (fun q6 h7 hf => ?_)
        refine rc_Si (As := [.int x2]) (rest := []) (stM_g t) F (c_MO_isRegister l ha x2 q1.2 q6 h7) (cwS 1 hg gc_MO_79 rfl rfl rfl hs_MO_isRegister ⟨Nat.le_of_ble_eq_true rfl, Nat.le_of_ble_eq_true rfl⟩) hK hT hP hS rfl hl.1 rfl (Nat.le_of_ble_eq_true rfl) d_MO_isRight_61 ⟨Nat.zero_le _, Nat.zero_le _⟩ (fun H locs hP hS => ?_)
        exact k_MO_isRight_64 ha F hr hlk hK hT x0 x1 x3 q1.1 q6.1 q6.2 q hf _ _ hP hS ls (lv_sub hl [1, 2, 4, 0] rfl)
      · replace hf := (if_pos c5).symm.trans hf
        refine lv_iload_n hx hb d_MO_isRight_48 rfl (lv_at hl 3 rfl) ?_
        refine lv_if_ne (tgt := 56) hx hb d_MO_isRight_49 (by decide) (fun c8 => ?_) (fun c8 => ?_)
        · replace hf := (if_neg c8).symm.trans hf
          refine lv_iconst (v := (0 : Int32)) hx hb d_MO_isRight_56 (by decide) ?_
          refine lv_goto (tgt := 64) hx hb d_MO_isRight_57 (by decide) ?_
          exact k_MO_isRight_64 ha F hr hlk hK hT x0 x1 x3 q1.1 (0 : Int32) q1.2 q hf _ _ hP hS ls (lv_sub hl [1, 2, 4, 0] rfl)
        · replace hf := (if_pos c8).symm.trans hf
          refine lv_iconst (v := (1 : Int32)) hx hb d_MO_isRight_52 (by decide) ?_
          refine lv_goto (tgt := 64) hx hb d_MO_isRight_53 (by decide) ?_
          exact k_MO_isRight_64 ha F hr hlk hK hT x0 x1 x3 q1.1 (1 : Int32) q1.2 q hf _ _ hP hS ls (lv_sub hl [1, 2, 4, 0] rfl)
    · replace hf := (if_pos c4).symm.trans hf
      refine lv_iload_n hx hb d_MO_isRight_32 rfl (lv_at hl 3 rfl) ?_
      refine lv_iconst (v := (0 : Int32)) hx hb d_MO_isRight_33 (by decide) ?_
      refine lv_bipush (v := (39 : Int32)) hx hb d_MO_isRight_34 (by decide) ?_
      refine bdK hf (fun q9 h10 hf => ?_)
      refine rc_Si (As := [.int x2, .int (0 : Int32), .int (39 : Int32)]) (rest := []) (stM_g t) F (c_MO_in l ha x2 (0 : Int32) (39 : Int32) q1.2 q9 h10) (cwS 3 hg gc_MO_75 rfl rfl rfl hs_MO_in ⟨Nat.le_of_ble_eq_true rfl, Nat.le_of_ble_eq_true rfl⟩) hK hT hP hS rfl hl.1 rfl (Nat.le_of_ble_eq_true rfl) d_MO_isRight_36 ⟨Nat.zero_le _, Nat.zero_le _⟩ (fun H locs hP hS => ?_)
      refine lv_goto (tgt := 64) hx hb d_MO_isRight_39 (by decide) ?_
      exact k_MO_isRight_64 ha F hr hlk hK hT x0 x1 x3 q1.1 q9.1 q9.2 q hf _ _ hP hS ls (lv_sub hl [1, 2, 4, 0] rfl)
  · replace hf := (if_pos c3).symm.trans hf
    refine lv_iload_n hx hb d_MO_isRight_13 rfl (lv_at hl 3 rfl) ?_
    refine lv_sipush (v := (-999 : Int32)) hx hb d_MO_isRight_14 (by decide) ?_
    refine lv_sipush (v := (999 : Int32)) hx hb d_MO_isRight_17 (by decide) ?_
    refine bdK hf (fun q11 h12 hf => ?_)
    refine rc_Si (As := [.int x2, .int (-999 : Int32), .int (999 : Int32)]) (rest := []) (stM_g t) F (c_MO_in l ha x2 (-999 : Int32) (999 : Int32) q1.2 q11 h12) (cwS 3 hg gc_MO_75 rfl rfl rfl hs_MO_in ⟨Nat.le_of_ble_eq_true rfl, Nat.le_of_ble_eq_true rfl⟩) hK hT hP hS rfl hl.1 rfl (Nat.le_of_ble_eq_true rfl) d_MO_isRight_20 ⟨Nat.zero_le _, Nat.zero_le _⟩ (fun H locs hP hS => ?_)
    refine lv_goto (tgt := 64) hx hb d_MO_isRight_23 (by decide) ?_
    exact k_MO_isRight_64 ha F hr hlk hK hT x0 x1 x3 q1.1 q11.1 q11.2 q hf _ _ hP hS ls (lv_sub hl [1, 2, 4, 0] rfl)
set_option maxHeartbeats 4000000 in
set_option maxRecDepth 100000 in
theorem c_MO_isRight (l : Launch) {D : va_G} {a t : Nat → Nat} {cI cZ : ClassId} (ha : aMC a) (x0 x1 x2 x3 : Int32) (σ : SS) (q : Int32 × SS) (hf : f_MO_isRight x0 x1 x2 x3 σ = some q) : Met l y_MO_isRight ws_MO_isRight { frames := 2, cells := 0, slots := 0, locals := 42 } (va_Pc [.int x0, .int x1, .int x2, .int x3] (pW D (wM a cI cZ) [(cI, .int), (cZ, .boolean)] (stM t) (aM a) σ)) (va_Qi (fun r u => r = q.1 ∧ u = q.2) (pW D (wM a cI cZ) [(cI, .int), (cZ, .boolean)] (stM t) (aM a)) (aM a)) 0 0 (aM a) := by
  refine Met.ofW (cc := b_MO_isRight) (maxL := 7) (ret := some .boolean) (by decide) rfl ?_
  intro p e s m args below meth c s₁ B hml hv
  obtain ⟨rfl, hP, hK, hT⟩ := hv
  have hl := lv_entry ([.int x0, .int x1, .int x2, .int x3]) (n := 7) (Nat.le_of_ble_eq_true rfl)
  rw [lg_entry_eq]
  generalize (lg_sl ([.int x0, .int x1, .int x2, .int x3]) ++ List.replicate (7 - (lg_sl ([.int x0, .int x1, .int x2, .int x3])).length) Slot.unset).toArray = ls at hl ⊢
  exact e_MO_isRight ha ⟨B.exec, B.bytes, hml, findClass_of_methodNamed B.named, fun w h => atoms_spec (ws := ws_MO_isRight) B.pre w (List.mem_cons_of_mem _ h)⟩ B.returns B.notSynchronized hK hT x0 x1 x2 x3 σ q hf s.heap [] hP va_S.rf ls hl
theorem d_MO_put_0 : decode b_MO_put 0 = .ok (.aload_n 0, 1) := by decide +kernel
theorem d_MO_put_1 : decode b_MO_put 1 = .ok (.getfield 7, 3) := by decide +kernel
theorem d_MO_put_4 : decode b_MO_put 4 = .ok (.iload_n 1, 1) := by decide +kernel
theorem d_MO_put_5 : decode b_MO_put 5 = .ok (.iload_n 2, 1) := by decide +kernel
theorem d_MO_put_6 : decode b_MO_put 6 = .ok (.iastore, 1) := by decide +kernel
theorem d_MO_put_7 : decode b_MO_put 7 = .ok (.aload_n 0, 1) := by decide +kernel
theorem d_MO_put_8 : decode b_MO_put 8 = .ok (.getfield 13, 3) := by decide +kernel
theorem d_MO_put_11 : decode b_MO_put 11 = .ok (.iload_n 1, 1) := by decide +kernel
theorem d_MO_put_12 : decode b_MO_put 12 = .ok (.iload_n 3, 1) := by decide +kernel
theorem d_MO_put_13 : decode b_MO_put 13 = .ok (.iastore, 1) := by decide +kernel
theorem d_MO_put_14 : decode b_MO_put 14 = .ok (.aload_n 0, 1) := by decide +kernel
theorem d_MO_put_15 : decode b_MO_put 15 = .ok (.getfield 16, 3) := by decide +kernel
theorem d_MO_put_18 : decode b_MO_put 18 = .ok (.iload_n 1, 1) := by decide +kernel
theorem d_MO_put_19 : decode b_MO_put 19 = .ok (.iload 4, 2) := by decide +kernel
theorem d_MO_put_21 : decode b_MO_put 21 = .ok (.iastore, 1) := by decide +kernel
theorem d_MO_put_22 : decode b_MO_put 22 = .ok (.aload_n 0, 1) := by decide +kernel
theorem d_MO_put_23 : decode b_MO_put 23 = .ok (.getfield 19, 3) := by decide +kernel
theorem d_MO_put_26 : decode b_MO_put 26 = .ok (.iload_n 1, 1) := by decide +kernel
theorem d_MO_put_27 : decode b_MO_put 27 = .ok (.iload 5, 2) := by decide +kernel
theorem d_MO_put_29 : decode b_MO_put 29 = .ok (.iastore, 1) := by decide +kernel
theorem d_MO_put_30 : decode b_MO_put 30 = .ok (.aload_n 0, 1) := by decide +kernel
theorem d_MO_put_31 : decode b_MO_put 31 = .ok (.iconst 0, 1) := by decide +kernel
theorem d_MO_put_32 : decode b_MO_put 32 = .ok (.putfield 83, 3) := by decide +kernel
theorem d_MO_put_35 : decode b_MO_put 35 = .ok (.return_, 1) := by decide +kernel
def f_MO_put (x1 x2 x3 x4 x5 : Int32) (σ : SS) : Option (SS) :=
  (sto σ 0 40 x1 x2).bind fun σ1 => (sto σ1 1 40 x1 x3).bind fun σ3 => (sto σ3 2 40 x1 x4).bind fun σ5 => (sto σ5 3 40 x1 x5).bind fun σ7 => (sf σ7 22 (0 : Int32)).bind fun σ9 => some σ9
set_option maxHeartbeats 4000000 in
set_option maxRecDepth 100000 in
theorem e_MO_put {p : Program} {l : Launch} {e : Env} {s : State} {m : MethodId} {args : Array Value} {below : List Frame} {meth : Method} {c : Code} {D : va_G} {a t : Nat → Nat} {cI cZ : ClassId} (ha : aMC a) (F : CallFix p m c b_MO_put 6 s args gt R_MO) (hr : meth.sig.returnType = none) (hlk : meth.locks = false) (hK : va_K D vwCl [(cI, .int), (cZ, .boolean)] s) (hT : stM t (aM a) s s.heap) :
    ∀ (x1 x2 x3 x4 x5 : Int32) (σ : SS) (q : SS), f_MO_put x1 x2 x3 x4 x5 σ = some q → ∀ (H : Heap) (locs : List Loc), va_P D vwCl ((wM a cI cZ) σ) H → va_S (aM a) s.heap H locs → ∀ (ls : Array Slot), lv_has ls 6 [(0, .ref (a 0)), (1, .int x1), (2, .int x2), (3, .int x3), (4, .int x4), (5, .int x5)] → W p l e { frames := 0, cells := 0, slots := 0, locals := 0 } s m args below meth c H locs 0 0 (MQ below (va_Qv (fun u => u = q) (pW D (wM a cI cZ) [(cI, .int), (cZ, .boolean)] (stM t) (aM a)) (aM a)) args s 0 0 (aM a)) (F0 m 0 ls []) := by
  obtain ⟨hx, hb, hml, hown, hg⟩ := id F
  intro x1 x2 x3 x4 x5 σ q hf H locs hP hS ls hl
  unfold f_MO_put at hf
  refine lv_aload_n hx hb d_MO_put_0 rfl (lv_at hl 0 rfl) ?_
  refine va_get (D := D) (ci := 6) (v := .ref (a 1)) (C := R_MO) (T := T_MO) (N := 26) hx hb hg in_MO hown hK hP 0 rfl rfl 2 (by decide) (hg _ gw_585) (fun _ h9 => h9) rfl d_MO_put_1 ?_
  refine lv_iload_n hx hb d_MO_put_4 rfl (lv_at hl 1 rfl) ?_
  refine lv_iload_n hx hb d_MO_put_5 rfl (lv_at hl 2 rfl) ?_
  refine bdK hf (fun σ1 h2 hf => ?_)
  refine r_iast (wf := (wM a cI cZ)) hx hb hK hP (dM ha σ) hS 1 0 rfl rfl (fun _ _ => rfl) h2 d_MO_put_6 (fun H locs hP hS => ?_)
  refine lv_aload_n hx hb d_MO_put_7 rfl (lv_at hl 0 rfl) ?_
  refine va_get (D := D) (ci := 6) (v := .ref (a 2)) (C := R_MO) (T := T_MO) (N := 26) hx hb hg in_MO hown hK hP 0 rfl rfl 3 (by decide) (hg _ gw_586) (fun _ h9 => h9) rfl d_MO_put_8 ?_
  refine lv_iload_n hx hb d_MO_put_11 rfl (lv_at hl 1 rfl) ?_
  refine lv_iload_n hx hb d_MO_put_12 rfl (lv_at hl 3 rfl) ?_
  refine bdK hf (fun σ3 h4 hf => ?_)
  refine r_iast (wf := (wM a cI cZ)) hx hb hK hP (dM ha σ1) hS 2 0 rfl rfl (fun _ _ => rfl) h4 d_MO_put_13 (fun H locs hP hS => ?_)
  refine lv_aload_n hx hb d_MO_put_14 rfl (lv_at hl 0 rfl) ?_
  refine va_get (D := D) (ci := 6) (v := .ref (a 3)) (C := R_MO) (T := T_MO) (N := 26) hx hb hg in_MO hown hK hP 0 rfl rfl 4 (by decide) (hg _ gw_587) (fun _ h9 => h9) rfl d_MO_put_15 ?_
  refine lv_iload_n hx hb d_MO_put_18 rfl (lv_at hl 1 rfl) ?_
  refine lv_iload hx hb d_MO_put_19 (lv_at hl 4 rfl) ?_
  refine bdK hf (fun σ5 h6 hf => ?_)
  refine r_iast (wf := (wM a cI cZ)) hx hb hK hP (dM ha σ3) hS 3 0 rfl rfl (fun _ _ => rfl) h6 d_MO_put_21 (fun H locs hP hS => ?_)
  refine lv_aload_n hx hb d_MO_put_22 rfl (lv_at hl 0 rfl) ?_
  refine va_get (D := D) (ci := 6) (v := .ref (a 4)) (C := R_MO) (T := T_MO) (N := 26) hx hb hg in_MO hown hK hP 0 rfl rfl 5 (by decide) (hg _ gw_588) (fun _ h9 => h9) rfl d_MO_put_23 ?_
  refine lv_iload_n hx hb d_MO_put_26 rfl (lv_at hl 1 rfl) ?_
  refine lv_iload hx hb d_MO_put_27 (lv_at hl 5 rfl) ?_
  refine bdK hf (fun σ7 h8 hf => ?_)
  refine r_iast (wf := (wM a cI cZ)) hx hb hK hP (dM ha σ5) hS 4 0 rfl rfl (fun _ _ => rfl) h8 d_MO_put_29 (fun H locs hP hS => ?_)
  refine lv_aload_n hx hb d_MO_put_30 rfl (lv_at hl 0 rfl) ?_
  refine lv_iconst (v := (0 : Int32)) hx hb d_MO_put_31 (by decide) ?_
  refine bdK hf (fun σ9 h10 hf => ?_)
  refine va_put (D := D) (ci := 6) (v := .int (0 : Int32)) (ty := .boolean) (C := R_MO) (T := T_MO) (N := 26) hx hb hg in_MO t_MO t_MO_ok n_MO hown hK hP (dM ha σ7) hS 0 rfl rfl 6 (by decide) (hg _ gw_589) (fun _ h9 => h9) rfl (by decide +kernel) rfl rfl (Nat.le_of_ble_eq_true rfl) d_MO_put_32 (fun H locs hP _ hS => ?_)
  replace hP := sf_P (wf := (wM a cI cZ)) h10 hP rfl
  exact rr_v hx hb hr hlk (stM_g t) hK hT hP hS hf d_MO_put_35
set_option maxHeartbeats 4000000 in
set_option maxRecDepth 100000 in
theorem c_MO_put (l : Launch) {D : va_G} {a t : Nat → Nat} {cI cZ : ClassId} (ha : aMC a) (x1 x2 x3 x4 x5 : Int32) (σ : SS) (q : SS) (hf : f_MO_put x1 x2 x3 x4 x5 σ = some q) : Met l y_MO_put ws_MO_put { frames := 0, cells := 0, slots := 0, locals := 0 } (va_Pc [.ref (a 0), .int x1, .int x2, .int x3, .int x4, .int x5] (pW D (wM a cI cZ) [(cI, .int), (cZ, .boolean)] (stM t) (aM a) σ)) (va_Qv (fun u => u = q) (pW D (wM a cI cZ) [(cI, .int), (cZ, .boolean)] (stM t) (aM a)) (aM a)) 0 0 (aM a) := by
  refine Met.ofW (cc := b_MO_put) (maxL := 6) (ret := none) (by decide) rfl ?_
  intro p e s m args below meth c s₁ B hml hv
  obtain ⟨rfl, hP, hK, hT⟩ := hv
  have hl := lv_entry ([.ref (a 0), .int x1, .int x2, .int x3, .int x4, .int x5]) (n := 6) (Nat.le_of_ble_eq_true rfl)
  rw [lg_entry_eq]
  generalize (lg_sl ([.ref (a 0), .int x1, .int x2, .int x3, .int x4, .int x5]) ++ List.replicate (6 - (lg_sl ([.ref (a 0), .int x1, .int x2, .int x3, .int x4, .int x5])).length) Slot.unset).toArray = ls at hl ⊢
  exact e_MO_put ha ⟨B.exec, B.bytes, hml, findClass_of_methodNamed B.named, fun w h => atoms_spec (ws := ws_MO_put) B.pre w (List.mem_cons_of_mem _ h)⟩ B.returns B.notSynchronized hK hT x1 x2 x3 x4 x5 σ q hf s.heap [] hP va_S.rf ls hl
theorem d_MO_add_0 : decode b_MO_add 0 = .ok (.aload_n 0, 1) := by decide +kernel
theorem d_MO_add_1 : decode b_MO_add 1 = .ok (.getfield 87, 3) := by decide +kernel
theorem d_MO_add_4 : decode b_MO_add 4 = .ok (.bipush 40, 2) := by decide +kernel
theorem d_MO_add_6 : decode b_MO_add 6 = .ok (.if_icmp .ge 14, 3) := by decide +kernel
theorem d_MO_add_9 : decode b_MO_add 9 = .ok (.iload_n 1, 1) := by decide +kernel
theorem d_MO_add_10 : decode b_MO_add 10 = .ok (.iload_n 2, 1) := by decide +kernel
theorem d_MO_add_11 : decode b_MO_add 11 = .ok (.iload_n 3, 1) := by decide +kernel
theorem d_MO_add_12 : decode b_MO_add 12 = .ok (.iload 4, 2) := by decide +kernel
theorem d_MO_add_14 : decode b_MO_add 14 = .ok (.invokestatic 90, 3) := by decide +kernel
theorem d_MO_add_17 : decode b_MO_add 17 = .ok (.ifCond .ne 5, 3) := by decide +kernel
theorem d_MO_add_20 : decode b_MO_add 20 = .ok (.iconst (-1), 1) := by decide +kernel
theorem d_MO_add_21 : decode b_MO_add 21 = .ok (.ireturn, 1) := by decide +kernel
theorem d_MO_add_22 : decode b_MO_add 22 = .ok (.aload_n 0, 1) := by decide +kernel
theorem d_MO_add_23 : decode b_MO_add 23 = .ok (.aload_n 0, 1) := by decide +kernel
theorem d_MO_add_24 : decode b_MO_add 24 = .ok (.getfield 87, 3) := by decide +kernel
theorem d_MO_add_27 : decode b_MO_add 27 = .ok (.iload_n 1, 1) := by decide +kernel
theorem d_MO_add_28 : decode b_MO_add 28 = .ok (.iload_n 2, 1) := by decide +kernel
theorem d_MO_add_29 : decode b_MO_add 29 = .ok (.iload_n 3, 1) := by decide +kernel
theorem d_MO_add_30 : decode b_MO_add 30 = .ok (.iload 4, 2) := by decide +kernel
theorem d_MO_add_32 : decode b_MO_add 32 = .ok (.invokevirtual 94, 3) := by decide +kernel
theorem d_MO_add_35 : decode b_MO_add 35 = .ok (.aload_n 0, 1) := by decide +kernel
theorem d_MO_add_36 : decode b_MO_add 36 = .ok (.aload_n 0, 1) := by decide +kernel
theorem d_MO_add_37 : decode b_MO_add 37 = .ok (.getfield 87, 3) := by decide +kernel
theorem d_MO_add_40 : decode b_MO_add 40 = .ok (.iconst 1, 1) := by decide +kernel
theorem d_MO_add_41 : decode b_MO_add 41 = .ok (.iadd, 1) := by decide +kernel
theorem d_MO_add_42 : decode b_MO_add 42 = .ok (.putfield 87, 3) := by decide +kernel
theorem d_MO_add_45 : decode b_MO_add 45 = .ok (.aload_n 0, 1) := by decide +kernel
theorem d_MO_add_46 : decode b_MO_add 46 = .ok (.getfield 87, 3) := by decide +kernel
theorem d_MO_add_49 : decode b_MO_add 49 = .ok (.iconst 1, 1) := by decide +kernel
theorem d_MO_add_50 : decode b_MO_add 50 = .ok (.isub, 1) := by decide +kernel
theorem d_MO_add_51 : decode b_MO_add 51 = .ok (.ireturn, 1) := by decide +kernel
theorem gc_MO_90 : GoodIn gt (wsS R_MO 90 y_MO_isRight ws_MO_isRight) := gd_S gw_666 gw_667 gw_7 gw_668
theorem gc_MO_94 : GoodIn gt (wsV R_MO 94 R_MO y_MO_put ws_MO_put) := gd_V gw_675 gw_677 gs_34 gw_7 gw_678
def f_MO_add (x1 x2 x3 x4 : Int32) (σ : SS) : Option (Int32 × SS) :=
  (if (40 : Int32) ≤ (σ 21 0) then some ((-1 : Int32), σ) else (f_MO_isRight x1 x2 x3 x4 σ).bind fun q2 => (if q2.1 = 0 then some ((-1 : Int32), q2.2) else (f_MO_put (q2.2 21 0) x1 x2 x3 x4 q2.2).bind fun σ5 => (sf σ5 21 ((σ5 21 0) + (1 : Int32))).bind fun σ7 => some (((σ7 21 0) - (1 : Int32)), σ7)))
set_option maxHeartbeats 4000000 in
set_option maxRecDepth 100000 in
theorem e_MO_add {p : Program} {l : Launch} {e : Env} {s : State} {m : MethodId} {args : Array Value} {below : List Frame} {meth : Method} {c : Code} {D : va_G} {a t : Nat → Nat} {cI cZ : ClassId} (ha : aMC a) (F : CallFix p m c b_MO_add 5 s args gt R_MO) (hr : meth.sig.returnType = some .int) (hlk : meth.locks = false) (hK : va_K D vwCl [(cI, .int), (cZ, .boolean)] s) (hT : stM t (aM a) s s.heap) :
    ∀ (x1 x2 x3 x4 : Int32) (σ : SS) (q : Int32 × SS), f_MO_add x1 x2 x3 x4 σ = some q → ∀ (H : Heap) (locs : List Loc), va_P D vwCl ((wM a cI cZ) σ) H → va_S (aM a) s.heap H locs → ∀ (ls : Array Slot), lv_has ls 5 [(0, .ref (a 0)), (1, .int x1), (2, .int x2), (3, .int x3), (4, .int x4)] → W p l e { frames := 3, cells := 0, slots := 0, locals := 68 } s m args below meth c H locs 0 0 (MQ below (va_Qi (fun r u => r = q.1 ∧ u = q.2) (pW D (wM a cI cZ) [(cI, .int), (cZ, .boolean)] (stM t) (aM a)) (aM a)) args s 0 0 (aM a)) (F0 m 0 ls []) := by
  obtain ⟨hx, hb, hml, hown, hg⟩ := id F
  intro x1 x2 x3 x4 σ q hf H locs hP hS ls hl
  unfold f_MO_add at hf
  refine lv_aload_n hx hb d_MO_add_0 rfl (lv_at hl 0 rfl) ?_
  refine va_get (D := D) (ci := 6) (v := .int (σ 21 0)) (C := R_MO) (T := T_MO) (N := 26) hx hb hg in_MO hown hK hP 0 rfl rfl 1 (by decide) (hg _ gw_584) (fun _ h9 => h9) rfl d_MO_add_1 ?_
  refine lv_bipush (v := (40 : Int32)) hx hb d_MO_add_4 (by decide) ?_
  refine lv_icmp_ge (tgt := 20) hx hb d_MO_add_6 (by decide) (fun c1 => ?_) (fun c1 => ?_)
  · replace hf := (if_pos c1).symm.trans hf
    refine lv_iconst (v := (-1 : Int32)) hx hb d_MO_add_20 (by decide) ?_
    exact rr_i hx hb hr hlk (stM_g t) hK hT hP hS hf d_MO_add_21
  · replace hf := (if_neg c1).symm.trans hf
    refine lv_iload_n hx hb d_MO_add_9 rfl (lv_at hl 1 rfl) ?_
    refine lv_iload_n hx hb d_MO_add_10 rfl (lv_at hl 2 rfl) ?_
    refine lv_iload_n hx hb d_MO_add_11 rfl (lv_at hl 3 rfl) ?_
    refine lv_iload hx hb d_MO_add_12 (lv_at hl 4 rfl) ?_
    refine bdK hf (fun q2 h3 hf => ?_)
    refine rc_Si (As := [.int x1, .int x2, .int x3, .int x4]) (rest := []) (stM_g t) F (c_MO_isRight l ha x1 x2 x3 x4 σ q2 h3) (cwS 4 hg gc_MO_90 rfl rfl rfl hs_MO_isRight ⟨Nat.le_of_ble_eq_true rfl, Nat.le_of_ble_eq_true rfl⟩) hK hT hP hS rfl hl.1 rfl (Nat.le_of_ble_eq_true rfl) d_MO_add_14 ⟨Nat.zero_le _, Nat.zero_le _⟩ (fun H locs hP hS => ?_)
    refine lv_if_ne (tgt := 22) hx hb d_MO_add_17 (by decide) (fun c4 => ?_) (fun c4 => ?_)
    · replace hf := (if_neg c4).symm.trans hf
      refine lv_aload_n hx hb d_MO_add_22 rfl (lv_at hl 0 rfl) ?_
      refine lv_aload_n hx hb d_MO_add_23 rfl (lv_at hl 0 rfl) ?_
      refine va_get (D := D) (ci := 6) (v := .int (q2.2 21 0)) (C := R_MO) (T := T_MO) (N := 26) hx hb hg in_MO hown hK hP 0 rfl rfl 1 (by decide) (hg _ gw_584) (fun _ h9 => h9) rfl d_MO_add_24 ?_
      refine lv_iload_n hx hb d_MO_add_27 rfl (lv_at hl 1 rfl) ?_
      refine lv_iload_n hx hb d_MO_add_28 rfl (lv_at hl 2 rfl) ?_
      refine lv_iload_n hx hb d_MO_add_29 rfl (lv_at hl 3 rfl) ?_
      refine lv_iload hx hb d_MO_add_30 (lv_at hl 4 rfl) ?_
      refine bdK hf (fun σ5 h6 hf => ?_)
      refine rc_Vv (As := [.int (q2.2 21 0), .int x1, .int x2, .int x3, .int x4]) (rest := []) (b := a 0) (stM_g t) F (c_MO_put l ha (q2.2 21 0) x1 x2 x3 x4 q2.2 σ5 h6) (cwV 5 hg gc_MO_94 rfl rfl rfl hs_MO_put ⟨Nat.le_of_ble_eq_true rfl, Nat.le_of_ble_eq_true rfl⟩) hK hT hP hS (va_recv hK hP (ci := 6) (q0 := 0) rfl rfl) rfl hl.1 rfl (Nat.le_of_ble_eq_true rfl) d_MO_add_32 ⟨Nat.zero_le _, Nat.zero_le _⟩ (fun H locs hP hS => ?_)
      refine lv_aload_n hx hb d_MO_add_35 rfl (lv_at hl 0 rfl) ?_
      refine lv_aload_n hx hb d_MO_add_36 rfl (lv_at hl 0 rfl) ?_
      refine va_get (D := D) (ci := 6) (v := .int (σ5 21 0)) (C := R_MO) (T := T_MO) (N := 26) hx hb hg in_MO hown hK hP 0 rfl rfl 1 (by decide) (hg _ gw_584) (fun _ h9 => h9) rfl d_MO_add_37 ?_
      refine lv_iconst (v := (1 : Int32)) hx hb d_MO_add_40 (by decide) ?_
      refine lv_iadd hx hb d_MO_add_41 ?_
      refine bdK hf (fun σ7 h8 hf => ?_)
      refine va_put (D := D) (ci := 6) (v := .int ((σ5 21 0) + (1 : Int32))) (ty := .int) (C := R_MO) (T := T_MO) (N := 26) hx hb hg in_MO t_MO t_MO_ok n_MO hown hK hP (dM ha σ5) hS 0 rfl rfl 1 (by decide) (hg _ gw_584) (fun _ h9 => h9) rfl (by decide +kernel) rfl rfl (Nat.le_of_ble_eq_true rfl) d_MO_add_42 (fun H locs hP _ hS => ?_)
      replace hP := sf_P (wf := (wM a cI cZ)) h8 hP rfl
      refine lv_aload_n hx hb d_MO_add_45 rfl (lv_at hl 0 rfl) ?_
      refine va_get (D := D) (ci := 6) (v := .int (σ7 21 0)) (C := R_MO) (T := T_MO) (N := 26) hx hb hg in_MO hown hK hP 0 rfl rfl 1 (by decide) (hg _ gw_584) (fun _ h9 => h9) rfl d_MO_add_46 ?_
      refine lv_iconst (v := (1 : Int32)) hx hb d_MO_add_49 (by decide) ?_
      refine lv_isub hx hb d_MO_add_50 ?_
      exact rr_i hx hb hr hlk (stM_g t) hK hT hP hS hf d_MO_add_51
    · replace hf := (if_pos c4).symm.trans hf
      refine lv_iconst (v := (-1 : Int32)) hx hb d_MO_add_20 (by decide) ?_
      exact rr_i hx hb hr hlk (stM_g t) hK hT hP hS hf d_MO_add_21
set_option maxHeartbeats 4000000 in
set_option maxRecDepth 100000 in
theorem c_MO_add (l : Launch) {D : va_G} {a t : Nat → Nat} {cI cZ : ClassId} (ha : aMC a) (x1 x2 x3 x4 : Int32) (σ : SS) (q : Int32 × SS) (hf : f_MO_add x1 x2 x3 x4 σ = some q) : Met l y_MO_add ws_MO_add { frames := 3, cells := 0, slots := 0, locals := 68 } (va_Pc [.ref (a 0), .int x1, .int x2, .int x3, .int x4] (pW D (wM a cI cZ) [(cI, .int), (cZ, .boolean)] (stM t) (aM a) σ)) (va_Qi (fun r u => r = q.1 ∧ u = q.2) (pW D (wM a cI cZ) [(cI, .int), (cZ, .boolean)] (stM t) (aM a)) (aM a)) 0 0 (aM a) := by
  refine Met.ofW (cc := b_MO_add) (maxL := 5) (ret := some .int) (by decide) rfl ?_
  intro p e s m args below meth c s₁ B hml hv
  obtain ⟨rfl, hP, hK, hT⟩ := hv
  have hl := lv_entry ([.ref (a 0), .int x1, .int x2, .int x3, .int x4]) (n := 5) (Nat.le_of_ble_eq_true rfl)
  rw [lg_entry_eq]
  generalize (lg_sl ([.ref (a 0), .int x1, .int x2, .int x3, .int x4]) ++ List.replicate (5 - (lg_sl ([.ref (a 0), .int x1, .int x2, .int x3, .int x4])).length) Slot.unset).toArray = ls at hl ⊢
  exact e_MO_add ha ⟨B.exec, B.bytes, hml, findClass_of_methodNamed B.named, fun w h => atoms_spec (ws := ws_MO_add) B.pre w (List.mem_cons_of_mem _ h)⟩ B.returns B.notSynchronized hK hT x1 x2 x3 x4 σ q hf s.heap [] hP va_S.rf ls hl
theorem d_MO_set_0 : decode b_MO_set 0 = .ok (.iload_n 1, 1) := by decide +kernel
theorem d_MO_set_1 : decode b_MO_set 1 = .ok (.iconst 0, 1) := by decide +kernel
theorem d_MO_set_2 : decode b_MO_set 2 = .ok (.aload_n 0, 1) := by decide +kernel
theorem d_MO_set_3 : decode b_MO_set 3 = .ok (.getfield 87, 3) := by decide +kernel
theorem d_MO_set_6 : decode b_MO_set 6 = .ok (.iconst 1, 1) := by decide +kernel
theorem d_MO_set_7 : decode b_MO_set 7 = .ok (.isub, 1) := by decide +kernel
theorem d_MO_set_8 : decode b_MO_set 8 = .ok (.invokestatic 75, 3) := by decide +kernel
theorem d_MO_set_11 : decode b_MO_set 11 = .ok (.ifCond .eq 15, 3) := by decide +kernel
theorem d_MO_set_14 : decode b_MO_set 14 = .ok (.iload_n 2, 1) := by decide +kernel
theorem d_MO_set_15 : decode b_MO_set 15 = .ok (.iload_n 3, 1) := by decide +kernel
theorem d_MO_set_16 : decode b_MO_set 16 = .ok (.iload 4, 2) := by decide +kernel
theorem d_MO_set_18 : decode b_MO_set 18 = .ok (.iload 5, 2) := by decide +kernel
theorem d_MO_set_20 : decode b_MO_set 20 = .ok (.invokestatic 90, 3) := by decide +kernel
theorem d_MO_set_23 : decode b_MO_set 23 = .ok (.ifCond .ne 5, 3) := by decide +kernel
theorem d_MO_set_26 : decode b_MO_set 26 = .ok (.iconst 0, 1) := by decide +kernel
theorem d_MO_set_27 : decode b_MO_set 27 = .ok (.ireturn, 1) := by decide +kernel
theorem d_MO_set_28 : decode b_MO_set 28 = .ok (.aload_n 0, 1) := by decide +kernel
theorem d_MO_set_29 : decode b_MO_set 29 = .ok (.iload_n 1, 1) := by decide +kernel
theorem d_MO_set_30 : decode b_MO_set 30 = .ok (.iload_n 2, 1) := by decide +kernel
theorem d_MO_set_31 : decode b_MO_set 31 = .ok (.iload_n 3, 1) := by decide +kernel
theorem d_MO_set_32 : decode b_MO_set 32 = .ok (.iload 4, 2) := by decide +kernel
theorem d_MO_set_34 : decode b_MO_set 34 = .ok (.iload 5, 2) := by decide +kernel
theorem d_MO_set_36 : decode b_MO_set 36 = .ok (.invokevirtual 94, 3) := by decide +kernel
theorem d_MO_set_39 : decode b_MO_set 39 = .ok (.iconst 1, 1) := by decide +kernel
theorem d_MO_set_40 : decode b_MO_set 40 = .ok (.ireturn, 1) := by decide +kernel
def f_MO_set (x1 x2 x3 x4 x5 : Int32) (σ : SS) : Option (Int32 × SS) :=
  (f_MO_in x1 (0 : Int32) ((σ 21 0) - (1 : Int32)) σ).bind fun q1 => (if q1.1 = 0 then some ((0 : Int32), q1.2) else (f_MO_isRight x2 x3 x4 x5 q1.2).bind fun q4 => (if q4.1 = 0 then some ((0 : Int32), q4.2) else (f_MO_put x1 x2 x3 x4 x5 q4.2).bind fun σ7 => some ((1 : Int32), σ7)))
set_option maxHeartbeats 4000000 in
set_option maxRecDepth 100000 in
theorem e_MO_set {p : Program} {l : Launch} {e : Env} {s : State} {m : MethodId} {args : Array Value} {below : List Frame} {meth : Method} {c : Code} {D : va_G} {a t : Nat → Nat} {cI cZ : ClassId} (ha : aMC a) (F : CallFix p m c b_MO_set 6 s args gt R_MO) (hr : meth.sig.returnType = some .boolean) (hlk : meth.locks = false) (hK : va_K D vwCl [(cI, .int), (cZ, .boolean)] s) (hT : stM t (aM a) s s.heap) :
    ∀ (x1 x2 x3 x4 x5 : Int32) (σ : SS) (q : Int32 × SS), f_MO_set x1 x2 x3 x4 x5 σ = some q → ∀ (H : Heap) (locs : List Loc), va_P D vwCl ((wM a cI cZ) σ) H → va_S (aM a) s.heap H locs → ∀ (ls : Array Slot), lv_has ls 6 [(0, .ref (a 0)), (1, .int x1), (2, .int x2), (3, .int x3), (4, .int x4), (5, .int x5)] → W p l e { frames := 3, cells := 0, slots := 0, locals := 68 } s m args below meth c H locs 0 0 (MQ below (va_Qi (fun r u => r = q.1 ∧ u = q.2) (pW D (wM a cI cZ) [(cI, .int), (cZ, .boolean)] (stM t) (aM a)) (aM a)) args s 0 0 (aM a)) (F0 m 0 ls []) := by
  obtain ⟨hx, hb, hml, hown, hg⟩ := id F
  intro x1 x2 x3 x4 x5 σ q hf H locs hP hS ls hl
  unfold f_MO_set at hf
  refine lv_iload_n hx hb d_MO_set_0 rfl (lv_at hl 1 rfl) ?_
  refine lv_iconst (v := (0 : Int32)) hx hb d_MO_set_1 (by decide) ?_
  refine lv_aload_n hx hb d_MO_set_2 rfl (lv_at hl 0 rfl) ?_
  refine va_get (D := D) (ci := 6) (v := .int (σ 21 0)) (C := R_MO) (T := T_MO) (N := 26) hx hb hg in_MO hown hK hP 0 rfl rfl 1 (by decide) (hg _ gw_584) (fun _ h9 => h9) rfl d_MO_set_3 ?_
  refine lv_iconst (v := (1 : Int32)) hx hb d_MO_set_6 (by decide) ?_
  refine lv_isub hx hb d_MO_set_7 ?_
  refine bdK hf (fun q1 h2 hf => ?_)
  refine rc_Si (As := [.int x1, .int (0 : Int32), .int ((σ 21 0) - (1 : Int32))]) (rest := []) (stM_g t) F (c_MO_in l ha x1 (0 : Int32) ((σ 21 0) - (1 : Int32)) σ q1 h2) (cwS 3 hg gc_MO_75 rfl rfl rfl hs_MO_in ⟨Nat.le_of_ble_eq_true rfl, Nat.le_of_ble_eq_true rfl⟩) hK hT hP hS rfl hl.1 rfl (Nat.le_of_ble_eq_true rfl) d_MO_set_8 ⟨Nat.zero_le _, Nat.zero_le _⟩ (fun H locs hP hS => ?_)
  refine lv_if_eq (tgt := 26) hx hb d_MO_set_11 (by decide) (fun c3 => ?_) (fun c3 => ?_)
  · replace hf := (if_pos c3).symm.trans hf
    refine lv_iconst (v := (0 : Int32)) hx hb d_MO_set_26 (by decide) ?_
    exact rr_z hx hb hr hlk (stM_g t) hK hT hP hS (Or.inl rfl) hf d_MO_set_27
  · replace hf := (if_neg c3).symm.trans hf
    refine lv_iload_n hx hb d_MO_set_14 rfl (lv_at hl 2 rfl) ?_
    refine lv_iload_n hx hb d_MO_set_15 rfl (lv_at hl 3 rfl) ?_
    refine lv_iload hx hb d_MO_set_16 (lv_at hl 4 rfl) ?_
    refine lv_iload hx hb d_MO_set_18 (lv_at hl 5 rfl) ?_
    refine bdK hf (fun q4 h5 hf => ?_)
    refine rc_Si (As := [.int x2, .int x3, .int x4, .int x5]) (rest := []) (stM_g t) F (c_MO_isRight l ha x2 x3 x4 x5 q1.2 q4 h5) (cwS 4 hg gc_MO_90 rfl rfl rfl hs_MO_isRight ⟨Nat.le_of_ble_eq_true rfl, Nat.le_of_ble_eq_true rfl⟩) hK hT hP hS rfl hl.1 rfl (Nat.le_of_ble_eq_true rfl) d_MO_set_20 ⟨Nat.zero_le _, Nat.zero_le _⟩ (fun H locs hP hS => ?_)
    refine lv_if_ne (tgt := 28) hx hb d_MO_set_23 (by decide) (fun c6 => ?_) (fun c6 => ?_)
    · replace hf := (if_neg c6).symm.trans hf
      refine lv_aload_n hx hb d_MO_set_28 rfl (lv_at hl 0 rfl) ?_
      refine lv_iload_n hx hb d_MO_set_29 rfl (lv_at hl 1 rfl) ?_
      refine lv_iload_n hx hb d_MO_set_30 rfl (lv_at hl 2 rfl) ?_
      refine lv_iload_n hx hb d_MO_set_31 rfl (lv_at hl 3 rfl) ?_
      refine lv_iload hx hb d_MO_set_32 (lv_at hl 4 rfl) ?_
      refine lv_iload hx hb d_MO_set_34 (lv_at hl 5 rfl) ?_
      refine bdK hf (fun σ7 h8 hf => ?_)
      refine rc_Vv (As := [.int x1, .int x2, .int x3, .int x4, .int x5]) (rest := []) (b := a 0) (stM_g t) F (c_MO_put l ha x1 x2 x3 x4 x5 q4.2 σ7 h8) (cwV 5 hg gc_MO_94 rfl rfl rfl hs_MO_put ⟨Nat.le_of_ble_eq_true rfl, Nat.le_of_ble_eq_true rfl⟩) hK hT hP hS (va_recv hK hP (ci := 6) (q0 := 0) rfl rfl) rfl hl.1 rfl (Nat.le_of_ble_eq_true rfl) d_MO_set_36 ⟨Nat.zero_le _, Nat.zero_le _⟩ (fun H locs hP hS => ?_)
      refine lv_iconst (v := (1 : Int32)) hx hb d_MO_set_39 (by decide) ?_
      exact rr_z hx hb hr hlk (stM_g t) hK hT hP hS (Or.inr rfl) hf d_MO_set_40
    · replace hf := (if_pos c6).symm.trans hf
      refine lv_iconst (v := (0 : Int32)) hx hb d_MO_set_26 (by decide) ?_
      exact rr_z hx hb hr hlk (stM_g t) hK hT hP hS (Or.inl rfl) hf d_MO_set_27
set_option maxHeartbeats 4000000 in
set_option maxRecDepth 100000 in
theorem c_MO_set (l : Launch) {D : va_G} {a t : Nat → Nat} {cI cZ : ClassId} (ha : aMC a) (x1 x2 x3 x4 x5 : Int32) (σ : SS) (q : Int32 × SS) (hf : f_MO_set x1 x2 x3 x4 x5 σ = some q) : Met l y_MO_set ws_MO_set { frames := 3, cells := 0, slots := 0, locals := 68 } (va_Pc [.ref (a 0), .int x1, .int x2, .int x3, .int x4, .int x5] (pW D (wM a cI cZ) [(cI, .int), (cZ, .boolean)] (stM t) (aM a) σ)) (va_Qi (fun r u => r = q.1 ∧ u = q.2) (pW D (wM a cI cZ) [(cI, .int), (cZ, .boolean)] (stM t) (aM a)) (aM a)) 0 0 (aM a) := by
  refine Met.ofW (cc := b_MO_set) (maxL := 6) (ret := some .boolean) (by decide) rfl ?_
  intro p e s m args below meth c s₁ B hml hv
  obtain ⟨rfl, hP, hK, hT⟩ := hv
  have hl := lv_entry ([.ref (a 0), .int x1, .int x2, .int x3, .int x4, .int x5]) (n := 6) (Nat.le_of_ble_eq_true rfl)
  rw [lg_entry_eq]
  generalize (lg_sl ([.ref (a 0), .int x1, .int x2, .int x3, .int x4, .int x5]) ++ List.replicate (6 - (lg_sl ([.ref (a 0), .int x1, .int x2, .int x3, .int x4, .int x5])).length) Slot.unset).toArray = ls at hl ⊢
  exact e_MO_set ha ⟨B.exec, B.bytes, hml, findClass_of_methodNamed B.named, fun w h => atoms_spec (ws := ws_MO_set) B.pre w (List.mem_cons_of_mem _ h)⟩ B.returns B.notSynchronized hK hT x1 x2 x3 x4 x5 σ q hf s.heap [] hP va_S.rf ls hl
theorem d_MO_cut_0 : decode b_MO_cut 0 = .ok (.iload_n 1, 1) := by decide +kernel
theorem d_MO_cut_1 : decode b_MO_cut 1 = .ok (.iconst 0, 1) := by decide +kernel
theorem d_MO_cut_2 : decode b_MO_cut 2 = .ok (.aload_n 0, 1) := by decide +kernel
theorem d_MO_cut_3 : decode b_MO_cut 3 = .ok (.getfield 87, 3) := by decide +kernel
theorem d_MO_cut_6 : decode b_MO_cut 6 = .ok (.invokestatic 75, 3) := by decide +kernel
theorem d_MO_cut_9 : decode b_MO_cut 9 = .ok (.ifCond .ne 5, 3) := by decide +kernel
theorem d_MO_cut_12 : decode b_MO_cut 12 = .ok (.iconst 0, 1) := by decide +kernel
theorem d_MO_cut_13 : decode b_MO_cut 13 = .ok (.ireturn, 1) := by decide +kernel
theorem d_MO_cut_14 : decode b_MO_cut 14 = .ok (.aload_n 0, 1) := by decide +kernel
theorem d_MO_cut_15 : decode b_MO_cut 15 = .ok (.iload_n 1, 1) := by decide +kernel
theorem d_MO_cut_16 : decode b_MO_cut 16 = .ok (.putfield 87, 3) := by decide +kernel
theorem d_MO_cut_19 : decode b_MO_cut 19 = .ok (.aload_n 0, 1) := by decide +kernel
theorem d_MO_cut_20 : decode b_MO_cut 20 = .ok (.iconst 0, 1) := by decide +kernel
theorem d_MO_cut_21 : decode b_MO_cut 21 = .ok (.putfield 83, 3) := by decide +kernel
theorem d_MO_cut_24 : decode b_MO_cut 24 = .ok (.iconst 1, 1) := by decide +kernel
theorem d_MO_cut_25 : decode b_MO_cut 25 = .ok (.ireturn, 1) := by decide +kernel
def f_MO_cut (x1 : Int32) (σ : SS) : Option (Int32 × SS) :=
  (f_MO_in x1 (0 : Int32) (σ 21 0) σ).bind fun q1 => (if q1.1 = 0 then some ((0 : Int32), q1.2) else (sf q1.2 21 x1).bind fun σ4 => (sf σ4 22 (0 : Int32)).bind fun σ6 => some ((1 : Int32), σ6))
set_option maxHeartbeats 4000000 in
set_option maxRecDepth 100000 in
theorem e_MO_cut {p : Program} {l : Launch} {e : Env} {s : State} {m : MethodId} {args : Array Value} {below : List Frame} {meth : Method} {c : Code} {D : va_G} {a t : Nat → Nat} {cI cZ : ClassId} (ha : aMC a) (F : CallFix p m c b_MO_cut 2 s args gt R_MO) (hr : meth.sig.returnType = some .boolean) (hlk : meth.locks = false) (hK : va_K D vwCl [(cI, .int), (cZ, .boolean)] s) (hT : stM t (aM a) s s.heap) :
    ∀ (x1 : Int32) (σ : SS) (q : Int32 × SS), f_MO_cut x1 σ = some q → ∀ (H : Heap) (locs : List Loc), va_P D vwCl ((wM a cI cZ) σ) H → va_S (aM a) s.heap H locs → ∀ (ls : Array Slot), lv_has ls 2 [(0, .ref (a 0)), (1, .int x1)] → W p l e { frames := 1, cells := 0, slots := 0, locals := 22 } s m args below meth c H locs 0 0 (MQ below (va_Qi (fun r u => r = q.1 ∧ u = q.2) (pW D (wM a cI cZ) [(cI, .int), (cZ, .boolean)] (stM t) (aM a)) (aM a)) args s 0 0 (aM a)) (F0 m 0 ls []) := by
  obtain ⟨hx, hb, hml, hown, hg⟩ := id F
  intro x1 σ q hf H locs hP hS ls hl
  unfold f_MO_cut at hf
  refine lv_iload_n hx hb d_MO_cut_0 rfl (lv_at hl 1 rfl) ?_
  refine lv_iconst (v := (0 : Int32)) hx hb d_MO_cut_1 (by decide) ?_
  refine lv_aload_n hx hb d_MO_cut_2 rfl (lv_at hl 0 rfl) ?_
  refine va_get (D := D) (ci := 6) (v := .int (σ 21 0)) (C := R_MO) (T := T_MO) (N := 26) hx hb hg in_MO hown hK hP 0 rfl rfl 1 (by decide) (hg _ gw_584) (fun _ h9 => h9) rfl d_MO_cut_3 ?_
  refine bdK hf (fun q1 h2 hf => ?_)
  refine rc_Si (As := [.int x1, .int (0 : Int32), .int (σ 21 0)]) (rest := []) (stM_g t) F (c_MO_in l ha x1 (0 : Int32) (σ 21 0) σ q1 h2) (cwS 3 hg gc_MO_75 rfl rfl rfl hs_MO_in ⟨Nat.le_of_ble_eq_true rfl, Nat.le_of_ble_eq_true rfl⟩) hK hT hP hS rfl hl.1 rfl (Nat.le_of_ble_eq_true rfl) d_MO_cut_6 ⟨Nat.zero_le _, Nat.zero_le _⟩ (fun H locs hP hS => ?_)
  refine lv_if_ne (tgt := 14) hx hb d_MO_cut_9 (by decide) (fun c3 => ?_) (fun c3 => ?_)
  · replace hf := (if_neg c3).symm.trans hf
    refine lv_aload_n hx hb d_MO_cut_14 rfl (lv_at hl 0 rfl) ?_
    refine lv_iload_n hx hb d_MO_cut_15 rfl (lv_at hl 1 rfl) ?_
    refine bdK hf (fun σ4 h5 hf => ?_)
    refine va_put (D := D) (ci := 6) (v := .int x1) (ty := .int) (C := R_MO) (T := T_MO) (N := 26) hx hb hg in_MO t_MO t_MO_ok n_MO hown hK hP (dM ha q1.2) hS 0 rfl rfl 1 (by decide) (hg _ gw_584) (fun _ h9 => h9) rfl (by decide +kernel) rfl rfl (Nat.le_of_ble_eq_true rfl) d_MO_cut_16 (fun H locs hP _ hS => ?_)
    replace hP := sf_P (wf := (wM a cI cZ)) h5 hP rfl
    refine lv_aload_n hx hb d_MO_cut_19 rfl (lv_at hl 0 rfl) ?_
    refine lv_iconst (v := (0 : Int32)) hx hb d_MO_cut_20 (by decide) ?_
    refine bdK hf (fun σ6 h7 hf => ?_)
    refine va_put (D := D) (ci := 6) (v := .int (0 : Int32)) (ty := .boolean) (C := R_MO) (T := T_MO) (N := 26) hx hb hg in_MO t_MO t_MO_ok n_MO hown hK hP (dM ha σ4) hS 0 rfl rfl 6 (by decide) (hg _ gw_589) (fun _ h9 => h9) rfl (by decide +kernel) rfl rfl (Nat.le_of_ble_eq_true rfl) d_MO_cut_21 (fun H locs hP _ hS => ?_)
    replace hP := sf_P (wf := (wM a cI cZ)) h7 hP rfl
    refine lv_iconst (v := (1 : Int32)) hx hb d_MO_cut_24 (by decide) ?_
    exact rr_z hx hb hr hlk (stM_g t) hK hT hP hS (Or.inr rfl) hf d_MO_cut_25
  · replace hf := (if_pos c3).symm.trans hf
    refine lv_iconst (v := (0 : Int32)) hx hb d_MO_cut_12 (by decide) ?_
    exact rr_z hx hb hr hlk (stM_g t) hK hT hP hS (Or.inl rfl) hf d_MO_cut_13
set_option maxHeartbeats 4000000 in
set_option maxRecDepth 100000 in
theorem c_MO_cut (l : Launch) {D : va_G} {a t : Nat → Nat} {cI cZ : ClassId} (ha : aMC a) (x1 : Int32) (σ : SS) (q : Int32 × SS) (hf : f_MO_cut x1 σ = some q) : Met l y_MO_cut ws_MO_cut { frames := 1, cells := 0, slots := 0, locals := 22 } (va_Pc [.ref (a 0), .int x1] (pW D (wM a cI cZ) [(cI, .int), (cZ, .boolean)] (stM t) (aM a) σ)) (va_Qi (fun r u => r = q.1 ∧ u = q.2) (pW D (wM a cI cZ) [(cI, .int), (cZ, .boolean)] (stM t) (aM a)) (aM a)) 0 0 (aM a) := by
  refine Met.ofW (cc := b_MO_cut) (maxL := 2) (ret := some .boolean) (by decide) rfl ?_
  intro p e s m args below meth c s₁ B hml hv
  obtain ⟨rfl, hP, hK, hT⟩ := hv
  have hl := lv_entry ([.ref (a 0), .int x1]) (n := 2) (Nat.le_of_ble_eq_true rfl)
  rw [lg_entry_eq]
  generalize (lg_sl ([.ref (a 0), .int x1]) ++ List.replicate (2 - (lg_sl ([.ref (a 0), .int x1])).length) Slot.unset).toArray = ls at hl ⊢
  exact e_MO_cut ha ⟨B.exec, B.bytes, hml, findClass_of_methodNamed B.named, fun w h => atoms_spec (ws := ws_MO_cut) B.pre w (List.mem_cons_of_mem _ h)⟩ B.returns B.notSynchronized hK hT x1 σ q hf s.heap [] hP va_S.rf ls hl
theorem d_MO_size_0 : decode b_MO_size 0 = .ok (.aload_n 0, 1) := by decide +kernel
theorem d_MO_size_1 : decode b_MO_size 1 = .ok (.getfield 87, 3) := by decide +kernel
theorem d_MO_size_4 : decode b_MO_size 4 = .ok (.ireturn, 1) := by decide +kernel
def f_MO_size (σ : SS) : Option (Int32 × SS) :=
  some ((σ 21 0), σ)
set_option maxHeartbeats 4000000 in
set_option maxRecDepth 100000 in
theorem e_MO_size {p : Program} {l : Launch} {e : Env} {s : State} {m : MethodId} {args : Array Value} {below : List Frame} {meth : Method} {c : Code} {D : va_G} {a t : Nat → Nat} {cI cZ : ClassId} (ha : aMC a) (F : CallFix p m c b_MO_size 1 s args gt R_MO) (hr : meth.sig.returnType = some .int) (hlk : meth.locks = false) (hK : va_K D vwCl [(cI, .int), (cZ, .boolean)] s) (hT : stM t (aM a) s s.heap) :
    ∀ (σ : SS) (q : Int32 × SS), f_MO_size σ = some q → ∀ (H : Heap) (locs : List Loc), va_P D vwCl ((wM a cI cZ) σ) H → va_S (aM a) s.heap H locs → ∀ (ls : Array Slot), lv_has ls 1 [(0, .ref (a 0))] → W p l e { frames := 0, cells := 0, slots := 0, locals := 0 } s m args below meth c H locs 0 0 (MQ below (va_Qi (fun r u => r = q.1 ∧ u = q.2) (pW D (wM a cI cZ) [(cI, .int), (cZ, .boolean)] (stM t) (aM a)) (aM a)) args s 0 0 (aM a)) (F0 m 0 ls []) := by
  obtain ⟨hx, hb, hml, hown, hg⟩ := id F
  intro σ q hf H locs hP hS ls hl
  unfold f_MO_size at hf
  refine lv_aload_n hx hb d_MO_size_0 rfl (lv_at hl 0 rfl) ?_
  refine va_get (D := D) (ci := 6) (v := .int (σ 21 0)) (C := R_MO) (T := T_MO) (N := 26) hx hb hg in_MO hown hK hP 0 rfl rfl 1 (by decide) (hg _ gw_584) (fun _ h9 => h9) rfl d_MO_size_1 ?_
  exact rr_i hx hb hr hlk (stM_g t) hK hT hP hS hf d_MO_size_4
set_option maxHeartbeats 4000000 in
set_option maxRecDepth 100000 in
theorem c_MO_size (l : Launch) {D : va_G} {a t : Nat → Nat} {cI cZ : ClassId} (ha : aMC a) (σ : SS) (q : Int32 × SS) (hf : f_MO_size σ = some q) : Met l y_MO_size ws_MO_size { frames := 0, cells := 0, slots := 0, locals := 0 } (va_Pc [.ref (a 0)] (pW D (wM a cI cZ) [(cI, .int), (cZ, .boolean)] (stM t) (aM a) σ)) (va_Qi (fun r u => r = q.1 ∧ u = q.2) (pW D (wM a cI cZ) [(cI, .int), (cZ, .boolean)] (stM t) (aM a)) (aM a)) 0 0 (aM a) := by
  refine Met.ofW (cc := b_MO_size) (maxL := 1) (ret := some .int) (by decide) rfl ?_
  intro p e s m args below meth c s₁ B hml hv
  obtain ⟨rfl, hP, hK, hT⟩ := hv
  have hl := lv_entry ([.ref (a 0)]) (n := 1) (Nat.le_of_ble_eq_true rfl)
  rw [lg_entry_eq]
  generalize (lg_sl ([.ref (a 0)]) ++ List.replicate (1 - (lg_sl ([.ref (a 0)])).length) Slot.unset).toArray = ls at hl ⊢
  exact e_MO_size ha ⟨B.exec, B.bytes, hml, findClass_of_methodNamed B.named, fun w h => atoms_spec (ws := ws_MO_size) B.pre w (List.mem_cons_of_mem _ h)⟩ B.returns B.notSynchronized hK hT σ q hf s.heap [] hP va_S.rf ls hl
theorem d_MO_isWriter_0 : decode b_MO_isWriter 0 = .ok (.aload_n 0, 1) := by decide +kernel
theorem d_MO_isWriter_1 : decode b_MO_isWriter 1 = .ok (.getfield 7, 3) := by decide +kernel
theorem d_MO_isWriter_4 : decode b_MO_isWriter 4 = .ok (.iload_n 1, 1) := by decide +kernel
theorem d_MO_isWriter_5 : decode b_MO_isWriter 5 = .ok (.iaload, 1) := by decide +kernel
theorem d_MO_isWriter_6 : decode b_MO_isWriter 6 = .ok (.bipush 6, 2) := by decide +kernel
theorem d_MO_isWriter_8 : decode b_MO_isWriter 8 = .ok (.if_icmp .gt 7, 3) := by decide +kernel
theorem d_MO_isWriter_11 : decode b_MO_isWriter 11 = .ok (.iconst 1, 1) := by decide +kernel
theorem d_MO_isWriter_12 : decode b_MO_isWriter 12 = .ok (.goto 4, 3) := by decide +kernel
theorem d_MO_isWriter_15 : decode b_MO_isWriter 15 = .ok (.iconst 0, 1) := by decide +kernel
theorem d_MO_isWriter_16 : decode b_MO_isWriter 16 = .ok (.ireturn, 1) := by decide +kernel
def f_MO_isWriter (x1 : Int32) (σ : SS) : Option (Int32 × SS) :=
  (ld (σ 0) 40 x1).bind fun v1 => (if (6 : Int32) < v1 then some ((0 : Int32), σ) else some ((1 : Int32), σ))
set_option maxHeartbeats 4000000 in
set_option maxRecDepth 100000 in
theorem e_MO_isWriter {p : Program} {l : Launch} {e : Env} {s : State} {m : MethodId} {args : Array Value} {below : List Frame} {meth : Method} {c : Code} {D : va_G} {a t : Nat → Nat} {cI cZ : ClassId} (ha : aMC a) (F : CallFix p m c b_MO_isWriter 2 s args gt R_MO) (hr : meth.sig.returnType = some .boolean) (hlk : meth.locks = false) (hK : va_K D vwCl [(cI, .int), (cZ, .boolean)] s) (hT : stM t (aM a) s s.heap) :
    ∀ (x1 : Int32) (σ : SS) (q : Int32 × SS), f_MO_isWriter x1 σ = some q → ∀ (H : Heap) (locs : List Loc), va_P D vwCl ((wM a cI cZ) σ) H → va_S (aM a) s.heap H locs → ∀ (ls : Array Slot), lv_has ls 2 [(0, .ref (a 0)), (1, .int x1)] → W p l e { frames := 0, cells := 0, slots := 0, locals := 0 } s m args below meth c H locs 0 0 (MQ below (va_Qi (fun r u => r = q.1 ∧ u = q.2) (pW D (wM a cI cZ) [(cI, .int), (cZ, .boolean)] (stM t) (aM a)) (aM a)) args s 0 0 (aM a)) (F0 m 0 ls []) := by
  obtain ⟨hx, hb, hml, hown, hg⟩ := id F
  intro x1 σ q hf H locs hP hS ls hl
  unfold f_MO_isWriter at hf
  refine lv_aload_n hx hb d_MO_isWriter_0 rfl (lv_at hl 0 rfl) ?_
  refine va_get (D := D) (ci := 6) (v := .ref (a 1)) (C := R_MO) (T := T_MO) (N := 26) hx hb hg in_MO hown hK hP 0 rfl rfl 2 (by decide) (hg _ gw_585) (fun _ h9 => h9) rfl d_MO_isWriter_1 ?_
  refine lv_iload_n hx hb d_MO_isWriter_4 rfl (lv_at hl 1 rfl) ?_
  refine bdK hf (fun v1 h2 hf => ?_)
  refine r_iald hx hb hK hP 1 0 rfl rfl h2 d_MO_isWriter_5 ?_
  refine lv_bipush (v := (6 : Int32)) hx hb d_MO_isWriter_6 (by decide) ?_
  refine lv_icmp_gt (tgt := 15) hx hb d_MO_isWriter_8 (by decide) (fun c3 => ?_) (fun c3 => ?_)
  · replace hf := (if_pos c3).symm.trans hf
    refine lv_iconst (v := (0 : Int32)) hx hb d_MO_isWriter_15 (by decide) ?_
    exact rr_z hx hb hr hlk (stM_g t) hK hT hP hS (Or.inl rfl) hf d_MO_isWriter_16
  · replace hf := (if_neg c3).symm.trans hf
    refine lv_iconst (v := (1 : Int32)) hx hb d_MO_isWriter_11 (by decide) ?_
    refine lv_goto (tgt := 16) hx hb d_MO_isWriter_12 (by decide) ?_
    exact rr_z hx hb hr hlk (stM_g t) hK hT hP hS (Or.inr rfl) hf d_MO_isWriter_16
set_option maxHeartbeats 4000000 in
set_option maxRecDepth 100000 in
theorem c_MO_isWriter (l : Launch) {D : va_G} {a t : Nat → Nat} {cI cZ : ClassId} (ha : aMC a) (x1 : Int32) (σ : SS) (q : Int32 × SS) (hf : f_MO_isWriter x1 σ = some q) : Met l y_MO_isWriter ws_MO_isWriter { frames := 0, cells := 0, slots := 0, locals := 0 } (va_Pc [.ref (a 0), .int x1] (pW D (wM a cI cZ) [(cI, .int), (cZ, .boolean)] (stM t) (aM a) σ)) (va_Qi (fun r u => r = q.1 ∧ u = q.2) (pW D (wM a cI cZ) [(cI, .int), (cZ, .boolean)] (stM t) (aM a)) (aM a)) 0 0 (aM a) := by
  refine Met.ofW (cc := b_MO_isWriter) (maxL := 2) (ret := some .boolean) (by decide) rfl ?_
  intro p e s m args below meth c s₁ B hml hv
  obtain ⟨rfl, hP, hK, hT⟩ := hv
  have hl := lv_entry ([.ref (a 0), .int x1]) (n := 2) (Nat.le_of_ble_eq_true rfl)
  rw [lg_entry_eq]
  generalize (lg_sl ([.ref (a 0), .int x1]) ++ List.replicate (2 - (lg_sl ([.ref (a 0), .int x1])).length) Slot.unset).toArray = ls at hl ⊢
  exact e_MO_isWriter ha ⟨B.exec, B.bytes, hml, findClass_of_methodNamed B.named, fun w h => atoms_spec (ws := ws_MO_isWriter) B.pre w (List.mem_cons_of_mem _ h)⟩ B.returns B.notSynchronized hK hT x1 σ q hf s.heap [] hP va_S.rf ls hl
theorem d_MO_writes_0 : decode b_MO_writes 0 = .ok (.aload_n 0, 1) := by decide +kernel
theorem d_MO_writes_1 : decode b_MO_writes 1 = .ok (.iload_n 1, 1) := by decide +kernel
theorem d_MO_writes_2 : decode b_MO_writes 2 = .ok (.invokevirtual 98, 3) := by decide +kernel
theorem d_MO_writes_5 : decode b_MO_writes 5 = .ok (.ifCond .eq 17, 3) := by decide +kernel
theorem d_MO_writes_8 : decode b_MO_writes 8 = .ok (.aload_n 0, 1) := by decide +kernel
theorem d_MO_writes_9 : decode b_MO_writes 9 = .ok (.getfield 13, 3) := by decide +kernel
theorem d_MO_writes_12 : decode b_MO_writes 12 = .ok (.iload_n 1, 1) := by decide +kernel
theorem d_MO_writes_13 : decode b_MO_writes 13 = .ok (.iaload, 1) := by decide +kernel
theorem d_MO_writes_14 : decode b_MO_writes 14 = .ok (.iload_n 2, 1) := by decide +kernel
theorem d_MO_writes_15 : decode b_MO_writes 15 = .ok (.if_icmp .ne 7, 3) := by decide +kernel
theorem d_MO_writes_18 : decode b_MO_writes 18 = .ok (.iconst 1, 1) := by decide +kernel
theorem d_MO_writes_19 : decode b_MO_writes 19 = .ok (.goto 4, 3) := by decide +kernel
theorem d_MO_writes_22 : decode b_MO_writes 22 = .ok (.iconst 0, 1) := by decide +kernel
theorem d_MO_writes_23 : decode b_MO_writes 23 = .ok (.ireturn, 1) := by decide +kernel
theorem gc_MO_98 : GoodIn gt (wsV R_MO 98 R_MO y_MO_isWriter ws_MO_isWriter) := gd_V gw_719 gw_721 gs_41 gw_7 gw_722
def f_MO_writes (x1 x2 : Int32) (σ : SS) : Option (Int32 × SS) :=
  (f_MO_isWriter x1 σ).bind fun q1 => (if q1.1 = 0 then some ((0 : Int32), q1.2) else (ld (q1.2 1) 40 x1).bind fun v4 => (if v4 = x2 then some ((1 : Int32), q1.2) else some ((0 : Int32), q1.2)))
set_option maxHeartbeats 4000000 in
set_option maxRecDepth 100000 in
theorem e_MO_writes {p : Program} {l : Launch} {e : Env} {s : State} {m : MethodId} {args : Array Value} {below : List Frame} {meth : Method} {c : Code} {D : va_G} {a t : Nat → Nat} {cI cZ : ClassId} (ha : aMC a) (F : CallFix p m c b_MO_writes 3 s args gt R_MO) (hr : meth.sig.returnType = some .boolean) (hlk : meth.locks = false) (hK : va_K D vwCl [(cI, .int), (cZ, .boolean)] s) (hT : stM t (aM a) s s.heap) :
    ∀ (x1 x2 : Int32) (σ : SS) (q : Int32 × SS), f_MO_writes x1 x2 σ = some q → ∀ (H : Heap) (locs : List Loc), va_P D vwCl ((wM a cI cZ) σ) H → va_S (aM a) s.heap H locs → ∀ (ls : Array Slot), lv_has ls 3 [(0, .ref (a 0)), (1, .int x1), (2, .int x2)] → W p l e { frames := 1, cells := 0, slots := 0, locals := 21 } s m args below meth c H locs 0 0 (MQ below (va_Qi (fun r u => r = q.1 ∧ u = q.2) (pW D (wM a cI cZ) [(cI, .int), (cZ, .boolean)] (stM t) (aM a)) (aM a)) args s 0 0 (aM a)) (F0 m 0 ls []) := by
  obtain ⟨hx, hb, hml, hown, hg⟩ := id F
  intro x1 x2 σ q hf H locs hP hS ls hl
  unfold f_MO_writes at hf
  refine lv_aload_n hx hb d_MO_writes_0 rfl (lv_at hl 0 rfl) ?_
  refine lv_iload_n hx hb d_MO_writes_1 rfl (lv_at hl 1 rfl) ?_
  refine bdK hf (fun q1 h2 hf => ?_)
  refine rc_Vi (As := [.int x1]) (rest := []) (b := a 0) (stM_g t) F (c_MO_isWriter l ha x1 σ q1 h2) (cwV 1 hg gc_MO_98 rfl rfl rfl hs_MO_isWriter ⟨Nat.le_of_ble_eq_true rfl, Nat.le_of_ble_eq_true rfl⟩) hK hT hP hS (va_recv hK hP (ci := 6) (q0 := 0) rfl rfl) rfl hl.1 rfl (Nat.le_of_ble_eq_true rfl) d_MO_writes_2 ⟨Nat.zero_le _, Nat.zero_le _⟩ (fun H locs hP hS => ?_)
  refine lv_if_eq (tgt := 22) hx hb d_MO_writes_5 (by decide) (fun c3 => ?_) (fun c3 => ?_)
  · replace hf := (if_pos c3).symm.trans hf
    refine lv_iconst (v := (0 : Int32)) hx hb d_MO_writes_22 (by decide) ?_
    exact rr_z hx hb hr hlk (stM_g t) hK hT hP hS (Or.inl rfl) hf d_MO_writes_23
  · replace hf := (if_neg c3).symm.trans hf
    refine lv_aload_n hx hb d_MO_writes_8 rfl (lv_at hl 0 rfl) ?_
    refine va_get (D := D) (ci := 6) (v := .ref (a 2)) (C := R_MO) (T := T_MO) (N := 26) hx hb hg in_MO hown hK hP 0 rfl rfl 3 (by decide) (hg _ gw_586) (fun _ h9 => h9) rfl d_MO_writes_9 ?_
    refine lv_iload_n hx hb d_MO_writes_12 rfl (lv_at hl 1 rfl) ?_
    refine bdK hf (fun v4 h5 hf => ?_)
    refine r_iald hx hb hK hP 2 0 rfl rfl h5 d_MO_writes_13 ?_
    refine lv_iload_n hx hb d_MO_writes_14 rfl (lv_at hl 2 rfl) ?_
    refine lv_icmp_ne (tgt := 22) hx hb d_MO_writes_15 (by decide) (fun c6 => ?_) (fun c6 => ?_)
    · replace hf := (if_neg c6).symm.trans hf
      refine lv_iconst (v := (0 : Int32)) hx hb d_MO_writes_22 (by decide) ?_
      exact rr_z hx hb hr hlk (stM_g t) hK hT hP hS (Or.inl rfl) hf d_MO_writes_23
    · replace hf := (if_pos c6).symm.trans hf
      refine lv_iconst (v := (1 : Int32)) hx hb d_MO_writes_18 (by decide) ?_
      refine lv_goto (tgt := 23) hx hb d_MO_writes_19 (by decide) ?_
      exact rr_z hx hb hr hlk (stM_g t) hK hT hP hS (Or.inr rfl) hf d_MO_writes_23
set_option maxHeartbeats 4000000 in
set_option maxRecDepth 100000 in
theorem c_MO_writes (l : Launch) {D : va_G} {a t : Nat → Nat} {cI cZ : ClassId} (ha : aMC a) (x1 x2 : Int32) (σ : SS) (q : Int32 × SS) (hf : f_MO_writes x1 x2 σ = some q) : Met l y_MO_writes ws_MO_writes { frames := 1, cells := 0, slots := 0, locals := 21 } (va_Pc [.ref (a 0), .int x1, .int x2] (pW D (wM a cI cZ) [(cI, .int), (cZ, .boolean)] (stM t) (aM a) σ)) (va_Qi (fun r u => r = q.1 ∧ u = q.2) (pW D (wM a cI cZ) [(cI, .int), (cZ, .boolean)] (stM t) (aM a)) (aM a)) 0 0 (aM a) := by
  refine Met.ofW (cc := b_MO_writes) (maxL := 3) (ret := some .boolean) (by decide) rfl ?_
  intro p e s m args below meth c s₁ B hml hv
  obtain ⟨rfl, hP, hK, hT⟩ := hv
  have hl := lv_entry ([.ref (a 0), .int x1, .int x2]) (n := 3) (Nat.le_of_ble_eq_true rfl)
  rw [lg_entry_eq]
  generalize (lg_sl ([.ref (a 0), .int x1, .int x2]) ++ List.replicate (3 - (lg_sl ([.ref (a 0), .int x1, .int x2])).length) Slot.unset).toArray = ls at hl ⊢
  exact e_MO_writes ha ⟨B.exec, B.bytes, hml, findClass_of_methodNamed B.named, fun w h => atoms_spec (ws := ws_MO_writes) B.pre w (List.mem_cons_of_mem _ h)⟩ B.returns B.notSynchronized hK hT x1 x2 σ q hf s.heap [] hP va_S.rf ls hl
