theorem d_RC_count_0 : decode b_RC_count 0 = .ok (.aload_n 0, 1) := by decide +kernel
theorem d_RC_count_1 : decode b_RC_count 1 = .ok (.getfield 46, 3) := by decide +kernel
theorem d_RC_count_4 : decode b_RC_count 4 = .ok (.ireturn, 1) := by decide +kernel
def f_RC_count (σ : SS) : Option (Int32 × SS) :=
  some ((σ 25 0), σ)
set_option maxHeartbeats 4000000 in
set_option maxRecDepth 100000 in
theorem e_RC_count {p : Program} {l : Launch} {e : Env} {s : State} {m : MethodId} {args : Array Value} {below : List Frame} {meth : Method} {c : Code} {D : va_G} {a t : Nat → Nat} {cI cZ : ClassId} (ha : aCC a) (F : CallFix p m c b_RC_count 1 s args gt R_RC) (hr : meth.sig.returnType = some .int) (hlk : meth.locks = false) (hK : va_K D vwCl [(cI, .int), (cZ, .boolean)] s) (hT : stC t (aC a) s s.heap) :
    ∀ (σ : SS) (q : Int32 × SS), f_RC_count σ = some q → ∀ (H : Heap) (locs : List Loc), va_P D vwCl ((wC a cI cZ) σ) H → va_S (aC a) s.heap H locs → ∀ (ls : Array Slot), lv_has ls 1 [(0, .ref (a 1))] → W p l e { frames := 0, cells := 0, slots := 0, locals := 0 } s m args below meth c H locs 0 0 (MQ below (va_Qi (fun r u => r = q.1 ∧ u = q.2) (pW D (wC a cI cZ) [(cI, .int), (cZ, .boolean)] (stC t) (aC a)) (aC a)) args s 0 0 (aC a)) (F0 m 0 ls []) := by
  obtain ⟨hx, hb, hml, hown, hg⟩ := id F
  intro σ q hf H locs hP hS ls hl
  unfold f_RC_count at hf
  refine lv_aload_n hx hb d_RC_count_0 rfl (lv_at hl 0 rfl) ?_
  refine va_get (D := D) (ci := 1) (v := .int (σ 25 0)) (C := R_RC) (T := T_RC) (N := 8) hx hb hg in_RC hown hK hP 1 rfl rfl 7 (by decide) (hg _ gw_30) (fun _ h9 => h9) rfl d_RC_count_1 ?_
  exact rr_i hx hb hr hlk (stC_g t) hK hT hP hS hf d_RC_count_4
set_option maxHeartbeats 4000000 in
set_option maxRecDepth 100000 in
theorem c_RC_count (l : Launch) {D : va_G} {a t : Nat → Nat} {cI cZ : ClassId} (ha : aCC a) (σ : SS) (q : Int32 × SS) (hf : f_RC_count σ = some q) : Met l y_RC_count ws_RC_count { frames := 0, cells := 0, slots := 0, locals := 0 } (va_Pc [.ref (a 1)] (pW D (wC a cI cZ) [(cI, .int), (cZ, .boolean)] (stC t) (aC a) σ)) (va_Qi (fun r u => r = q.1 ∧ u = q.2) (pW D (wC a cI cZ) [(cI, .int), (cZ, .boolean)] (stC t) (aC a)) (aC a)) 0 0 (aC a) := by
  refine Met.ofW (cc := b_RC_count) (maxL := 1) (ret := some .int) (by decide) rfl ?_
  intro p e s m args below meth c s₁ B hml hv
  obtain ⟨rfl, hP, hK, hT⟩ := hv
  have hl := lv_entry ([.ref (a 1)]) (n := 1) (Nat.le_of_ble_eq_true rfl)
  rw [lg_entry_eq]
  generalize (lg_sl ([.ref (a 1)]) ++ List.replicate (1 - (lg_sl ([.ref (a 1)])).length) Slot.unset).toArray = ls at hl ⊢
  exact e_RC_count ha ⟨B.exec, B.bytes, hml, findClass_of_methodNamed B.named, fun w h => atoms_spec (ws := ws_RC_count) B.pre w (List.mem_cons_of_mem _ h)⟩ B.returns B.notSynchronized hK hT σ q hf s.heap [] hP va_S.rf ls hl
theorem d_RC_isOfKind_0 : decode b_RC_isOfKind 0 = .ok (.iload_n 0, 1) := by decide +kernel
theorem d_RC_isOfKind_1 : decode b_RC_isOfKind 1 = .ok (.tableswitch 79 1 3 #[27, 43, 59], 27) := by decide +kernel
theorem d_RC_isOfKind_28 : decode b_RC_isOfKind 28 = .ok (.iload_n 1, 1) := by decide +kernel
theorem d_RC_isOfKind_29 : decode b_RC_isOfKind 29 = .ok (.ifCond .lt 13, 3) := by decide +kernel
theorem d_RC_isOfKind_32 : decode b_RC_isOfKind 32 = .ok (.iload_n 1, 1) := by decide +kernel
theorem d_RC_isOfKind_33 : decode b_RC_isOfKind 33 = .ok (.bipush 10, 2) := by decide +kernel
theorem d_RC_isOfKind_35 : decode b_RC_isOfKind 35 = .ok (.if_icmp .ge 7, 3) := by decide +kernel
theorem d_RC_isOfKind_38 : decode b_RC_isOfKind 38 = .ok (.iconst 1, 1) := by decide +kernel
theorem d_RC_isOfKind_39 : decode b_RC_isOfKind 39 = .ok (.goto 4, 3) := by decide +kernel
theorem d_RC_isOfKind_42 : decode b_RC_isOfKind 42 = .ok (.iconst 0, 1) := by decide +kernel
theorem d_RC_isOfKind_43 : decode b_RC_isOfKind 43 = .ok (.ireturn, 1) := by decide +kernel
theorem d_RC_isOfKind_44 : decode b_RC_isOfKind 44 = .ok (.iload_n 1, 1) := by decide +kernel
theorem d_RC_isOfKind_45 : decode b_RC_isOfKind 45 = .ok (.ifCond .lt 13, 3) := by decide +kernel
theorem d_RC_isOfKind_48 : decode b_RC_isOfKind 48 = .ok (.iload_n 1, 1) := by decide +kernel
theorem d_RC_isOfKind_49 : decode b_RC_isOfKind 49 = .ok (.bipush 40, 2) := by decide +kernel
theorem d_RC_isOfKind_51 : decode b_RC_isOfKind 51 = .ok (.if_icmp .ge 7, 3) := by decide +kernel
theorem d_RC_isOfKind_54 : decode b_RC_isOfKind 54 = .ok (.iconst 1, 1) := by decide +kernel
theorem d_RC_isOfKind_55 : decode b_RC_isOfKind 55 = .ok (.goto 4, 3) := by decide +kernel
theorem d_RC_isOfKind_58 : decode b_RC_isOfKind 58 = .ok (.iconst 0, 1) := by decide +kernel
theorem d_RC_isOfKind_59 : decode b_RC_isOfKind 59 = .ok (.ireturn, 1) := by decide +kernel
theorem d_RC_isOfKind_60 : decode b_RC_isOfKind 60 = .ok (.iload_n 1, 1) := by decide +kernel
theorem d_RC_isOfKind_61 : decode b_RC_isOfKind 61 = .ok (.sipush (-999), 3) := by decide +kernel
theorem d_RC_isOfKind_64 : decode b_RC_isOfKind 64 = .ok (.if_icmp .lt 14, 3) := by decide +kernel
theorem d_RC_isOfKind_67 : decode b_RC_isOfKind 67 = .ok (.iload_n 1, 1) := by decide +kernel
theorem d_RC_isOfKind_68 : decode b_RC_isOfKind 68 = .ok (.sipush 999, 3) := by decide +kernel
theorem d_RC_isOfKind_71 : decode b_RC_isOfKind 71 = .ok (.if_icmp .gt 7, 3) := by decide +kernel
theorem d_RC_isOfKind_74 : decode b_RC_isOfKind 74 = .ok (.iconst 1, 1) := by decide +kernel
theorem d_RC_isOfKind_75 : decode b_RC_isOfKind 75 = .ok (.goto 4, 3) := by decide +kernel
theorem d_RC_isOfKind_78 : decode b_RC_isOfKind 78 = .ok (.iconst 0, 1) := by decide +kernel
theorem d_RC_isOfKind_79 : decode b_RC_isOfKind 79 = .ok (.ireturn, 1) := by decide +kernel
theorem d_RC_isOfKind_80 : decode b_RC_isOfKind 80 = .ok (.iload_n 1, 1) := by decide +kernel
theorem d_RC_isOfKind_81 : decode b_RC_isOfKind 81 = .ok (.ifCond .ne 7, 3) := by decide +kernel
theorem d_RC_isOfKind_84 : decode b_RC_isOfKind 84 = .ok (.iconst 1, 1) := by decide +kernel
theorem d_RC_isOfKind_85 : decode b_RC_isOfKind 85 = .ok (.goto 4, 3) := by decide +kernel
theorem d_RC_isOfKind_88 : decode b_RC_isOfKind 88 = .ok (.iconst 0, 1) := by decide +kernel
theorem d_RC_isOfKind_89 : decode b_RC_isOfKind 89 = .ok (.ireturn, 1) := by decide +kernel
def f_RC_isOfKind (x0 x1 : Int32) (σ : SS) : Option (Int32 × SS) :=
  (if x0 = (1 : Int32) then (if x1 < 0 then some ((0 : Int32), σ) else (if (10 : Int32) ≤ x1 then some ((0 : Int32), σ) else some ((1 : Int32), σ))) else (if x0 = (2 : Int32) then (if x1 < 0 then some ((0 : Int32), σ) else (if (40 : Int32) ≤ x1 then some ((0 : Int32), σ) else some ((1 : Int32), σ))) else (if x0 = (3 : Int32) then (if x1 < (-999 : Int32) then some ((0 : Int32), σ) else (if (999 : Int32) < x1 then some ((0 : Int32), σ) else some ((1 : Int32), σ))) else (if x1 = 0 then some ((1 : Int32), σ) else some ((0 : Int32), σ)))))
set_option maxHeartbeats 4000000 in
set_option maxRecDepth 100000 in
theorem e_RC_isOfKind {p : Program} {l : Launch} {e : Env} {s : State} {m : MethodId} {args : Array Value} {below : List Frame} {meth : Method} {c : Code} {D : va_G} {a t : Nat → Nat} {cI cZ : ClassId} (ha : aCC a) (F : CallFix p m c b_RC_isOfKind 2 s args gt R_RC) (hr : meth.sig.returnType = some .boolean) (hlk : meth.locks = false) (hK : va_K D vwCl [(cI, .int), (cZ, .boolean)] s) (hT : stC t (aC a) s s.heap) :
    ∀ (x0 x1 : Int32) (σ : SS) (q : Int32 × SS), f_RC_isOfKind x0 x1 σ = some q → ∀ (H : Heap) (locs : List Loc), va_P D vwCl ((wC a cI cZ) σ) H → va_S (aC a) s.heap H locs → ∀ (ls : Array Slot), lv_has ls 2 [(0, .int x0), (1, .int x1)] → W p l e { frames := 0, cells := 0, slots := 0, locals := 0 } s m args below meth c H locs 0 0 (MQ below (va_Qi (fun r u => r = q.1 ∧ u = q.2) (pW D (wC a cI cZ) [(cI, .int), (cZ, .boolean)] (stC t) (aC a)) (aC a)) args s 0 0 (aC a)) (F0 m 0 ls []) := by
  obtain ⟨hx, hb, hml, hown, hg⟩ := id F
  intro x0 x1 σ q hf H locs hP hS ls hl
  unfold f_RC_isOfKind at hf
  refine lv_iload_n hx hb d_RC_isOfKind_0 rfl (lv_at hl 0 rfl) ?_
  by_cases c1 : x0 = (1 : Int32)
  · replace hf := (if_pos c1).symm.trans hf
    refine lv_tableIn (off := 27) (tgt := 28) hx hb d_RC_isOfKind_1 (by rw [c1]; decide) (by rw [c1]; decide) (by rw [c1]; rfl) (by decide) ?_
    refine lv_iload_n hx hb d_RC_isOfKind_28 rfl (lv_at hl 1 rfl) ?_
    refine lv_if_lt (tgt := 42) hx hb d_RC_isOfKind_29 (by decide) (fun c4 => ?_) (fun c4 => ?_)
    · replace hf := (if_pos c4).symm.trans hf
      refine lv_iconst (v := (0 : Int32)) hx hb d_RC_isOfKind_42 (by decide) ?_
      exact rr_z hx hb hr hlk (stC_g t) hK hT hP hS (Or.inl rfl) hf d_RC_isOfKind_43
    · replace hf := (if_neg c4).symm.trans hf
      refine lv_iload_n hx hb d_RC_isOfKind_32 rfl (lv_at hl 1 rfl) ?_
      refine lv_bipush (v := (10 : Int32)) hx hb d_RC_isOfKind_33 (by decide) ?_
      refine lv_icmp_ge (tgt := 42) hx hb d_RC_isOfKind_35 (by decide) (fun c5 => ?_) (fun c5 => ?_)
      · replace hf := (if_pos c5).symm.trans hf
        refine lv_iconst (v := (0 : Int32)) hx hb d_RC_isOfKind_42 (by decide) ?_
        exact rr_z hx hb hr hlk (stC_g t) hK hT hP hS (Or.inl rfl) hf d_RC_isOfKind_43
      · replace hf := (if_neg c5).symm.trans hf
        refine lv_iconst (v := (1 : Int32)) hx hb d_RC_isOfKind_38 (by decide) ?_
        refine lv_goto (tgt := 43) hx hb d_RC_isOfKind_39 (by decide) ?_
        exact rr_z hx hb hr hlk (stC_g t) hK hT hP hS (Or.inr rfl) hf d_RC_isOfKind_43
  · replace hf := (if_neg c1).symm.trans hf
    by_cases c2 : x0 = (2 : Int32)
    · replace hf := (if_pos c2).symm.trans hf
      refine lv_tableIn (off := 43) (tgt := 44) hx hb d_RC_isOfKind_1 (by rw [c2]; decide) (by rw [c2]; decide) (by rw [c2]; rfl) (by decide) ?_
      refine lv_iload_n hx hb d_RC_isOfKind_44 rfl (lv_at hl 1 rfl) ?_
      refine lv_if_lt (tgt := 58) hx hb d_RC_isOfKind_45 (by decide) (fun c6 => ?_) (fun c6 => ?_)
      · replace hf := (if_pos c6).symm.trans hf
        refine lv_iconst (v := (0 : Int32)) hx hb d_RC_isOfKind_58 (by decide) ?_
        exact rr_z hx hb hr hlk (stC_g t) hK hT hP hS (Or.inl rfl) hf d_RC_isOfKind_59
      · replace hf := (if_neg c6).symm.trans hf
        refine lv_iload_n hx hb d_RC_isOfKind_48 rfl (lv_at hl 1 rfl) ?_
        refine lv_bipush (v := (40 : Int32)) hx hb d_RC_isOfKind_49 (by decide) ?_
        refine lv_icmp_ge (tgt := 58) hx hb d_RC_isOfKind_51 (by decide) (fun c7 => ?_) (fun c7 => ?_)
        · replace hf := (if_pos c7).symm.trans hf
          refine lv_iconst (v := (0 : Int32)) hx hb d_RC_isOfKind_58 (by decide) ?_
          exact rr_z hx hb hr hlk (stC_g t) hK hT hP hS (Or.inl rfl) hf d_RC_isOfKind_59
        · replace hf := (if_neg c7).symm.trans hf
          refine lv_iconst (v := (1 : Int32)) hx hb d_RC_isOfKind_54 (by decide) ?_
          refine lv_goto (tgt := 59) hx hb d_RC_isOfKind_55 (by decide) ?_
          exact rr_z hx hb hr hlk (stC_g t) hK hT hP hS (Or.inr rfl) hf d_RC_isOfKind_59
    · replace hf := (if_neg c2).symm.trans hf
      by_cases c3 : x0 = (3 : Int32)
      · replace hf := (if_pos c3).symm.trans hf
        refine lv_tableIn (off := 59) (tgt := 60) hx hb d_RC_isOfKind_1 (by rw [c3]; decide) (by rw [c3]; decide) (by rw [c3]; rfl) (by decide) ?_
        refine lv_iload_n hx hb d_RC_isOfKind_60 rfl (lv_at hl 1 rfl) ?_
        refine lv_sipush (v := (-999 : Int32)) hx hb d_RC_isOfKind_61 (by decide) ?_
        refine lv_icmp_lt (tgt := 78) hx hb d_RC_isOfKind_64 (by decide) (fun c8 => ?_) (fun c8 => ?_)
        · replace hf := (if_pos c8).symm.trans hf
          refine lv_iconst (v := (0 : Int32)) hx hb d_RC_isOfKind_78 (by decide) ?_
          exact rr_z hx hb hr hlk (stC_g t) hK hT hP hS (Or.inl rfl) hf d_RC_isOfKind_79
        · replace hf := (if_neg c8).symm.trans hf
          refine lv_iload_n hx hb d_RC_isOfKind_67 rfl (lv_at hl 1 rfl) ?_
          refine lv_sipush (v := (999 : Int32)) hx hb d_RC_isOfKind_68 (by decide) ?_
          refine lv_icmp_gt (tgt := 78) hx hb d_RC_isOfKind_71 (by decide) (fun c9 => ?_) (fun c9 => ?_)
          · replace hf := (if_pos c9).symm.trans hf
            refine lv_iconst (v := (0 : Int32)) hx hb d_RC_isOfKind_78 (by decide) ?_
            exact rr_z hx hb hr hlk (stC_g t) hK hT hP hS (Or.inl rfl) hf d_RC_isOfKind_79
          · replace hf := (if_neg c9).symm.trans hf
            refine lv_iconst (v := (1 : Int32)) hx hb d_RC_isOfKind_74 (by decide) ?_
            refine lv_goto (tgt := 79) hx hb d_RC_isOfKind_75 (by decide) ?_
            exact rr_z hx hb hr hlk (stC_g t) hK hT hP hS (Or.inr rfl) hf d_RC_isOfKind_79
      · replace hf := (if_neg c3).symm.trans hf
        have nc1 := lv_neT (a := 1) c1 (by decide)
        have nc2 := lv_neT (a := 2) c2 (by decide)
        have nc3 := lv_neT (a := 3) c3 (by decide)
        refine lv_tableOut (tgt := 80) hx hb d_RC_isOfKind_1 (by omega) (by decide) ?_
        refine lv_iload_n hx hb d_RC_isOfKind_80 rfl (lv_at hl 1 rfl) ?_
        refine lv_if_ne (tgt := 88) hx hb d_RC_isOfKind_81 (by decide) (fun c10 => ?_) (fun c10 => ?_)
        · replace hf := (if_neg c10).symm.trans hf
          refine lv_iconst (v := (0 : Int32)) hx hb d_RC_isOfKind_88 (by decide) ?_
          exact rr_z hx hb hr hlk (stC_g t) hK hT hP hS (Or.inl rfl) hf d_RC_isOfKind_89
        · replace hf := (if_pos c10).symm.trans hf
          refine lv_iconst (v := (1 : Int32)) hx hb d_RC_isOfKind_84 (by decide) ?_
          refine lv_goto (tgt := 89) hx hb d_RC_isOfKind_85 (by decide) ?_
          exact rr_z hx hb hr hlk (stC_g t) hK hT hP hS (Or.inr rfl) hf d_RC_isOfKind_89
set_option maxHeartbeats 4000000 in
set_option maxRecDepth 100000 in
theorem c_RC_isOfKind (l : Launch) {D : va_G} {a t : Nat → Nat} {cI cZ : ClassId} (ha : aCC a) (x0 x1 : Int32) (σ : SS) (q : Int32 × SS) (hf : f_RC_isOfKind x0 x1 σ = some q) : Met l y_RC_isOfKind ws_RC_isOfKind { frames := 0, cells := 0, slots := 0, locals := 0 } (va_Pc [.int x0, .int x1] (pW D (wC a cI cZ) [(cI, .int), (cZ, .boolean)] (stC t) (aC a) σ)) (va_Qi (fun r u => r = q.1 ∧ u = q.2) (pW D (wC a cI cZ) [(cI, .int), (cZ, .boolean)] (stC t) (aC a)) (aC a)) 0 0 (aC a) := by
  refine Met.ofW (cc := b_RC_isOfKind) (maxL := 2) (ret := some .boolean) (by decide) rfl ?_
  intro p e s m args below meth c s₁ B hml hv
  obtain ⟨rfl, hP, hK, hT⟩ := hv
  have hl := lv_entry ([.int x0, .int x1]) (n := 2) (Nat.le_of_ble_eq_true rfl)
  rw [lg_entry_eq]
  generalize (lg_sl ([.int x0, .int x1]) ++ List.replicate (2 - (lg_sl ([.int x0, .int x1])).length) Slot.unset).toArray = ls at hl ⊢
  exact e_RC_isOfKind ha ⟨B.exec, B.bytes, hml, findClass_of_methodNamed B.named, fun w h => atoms_spec (ws := ws_RC_isOfKind) B.pre w (List.mem_cons_of_mem _ h)⟩ B.returns B.notSynchronized hK hT x0 x1 σ q hf s.heap [] hP va_S.rf ls hl
theorem d_RC_fits_0 : decode b_RC_fits 0 = .ok (.iload_n 0, 1) := by decide +kernel
theorem d_RC_fits_1 : decode b_RC_fits 1 = .ok (.ifCond .lt 49, 3) := by decide +kernel
theorem d_RC_fits_4 : decode b_RC_fits 4 = .ok (.iload_n 0, 1) := by decide +kernel
theorem d_RC_fits_5 : decode b_RC_fits 5 = .ok (.bipush 11, 2) := by decide +kernel
theorem d_RC_fits_7 : decode b_RC_fits 7 = .ok (.if_icmp .gt 43, 3) := by decide +kernel
theorem d_RC_fits_10 : decode b_RC_fits 10 = .ok (.getstatic 33, 3) := by decide +kernel
theorem d_RC_fits_13 : decode b_RC_fits 13 = .ok (.iload_n 0, 1) := by decide +kernel
theorem d_RC_fits_14 : decode b_RC_fits 14 = .ok (.iaload, 1) := by decide +kernel
theorem d_RC_fits_15 : decode b_RC_fits 15 = .ok (.iload_n 1, 1) := by decide +kernel
theorem d_RC_fits_16 : decode b_RC_fits 16 = .ok (.invokestatic 36, 3) := by decide +kernel
theorem d_RC_fits_19 : decode b_RC_fits 19 = .ok (.ifCond .eq 31, 3) := by decide +kernel
theorem d_RC_fits_22 : decode b_RC_fits 22 = .ok (.getstatic 40, 3) := by decide +kernel
theorem d_RC_fits_25 : decode b_RC_fits 25 = .ok (.iload_n 0, 1) := by decide +kernel
theorem d_RC_fits_26 : decode b_RC_fits 26 = .ok (.iaload, 1) := by decide +kernel
theorem d_RC_fits_27 : decode b_RC_fits 27 = .ok (.iload_n 2, 1) := by decide +kernel
theorem d_RC_fits_28 : decode b_RC_fits 28 = .ok (.invokestatic 36, 3) := by decide +kernel
theorem d_RC_fits_31 : decode b_RC_fits 31 = .ok (.ifCond .eq 19, 3) := by decide +kernel
theorem d_RC_fits_34 : decode b_RC_fits 34 = .ok (.getstatic 43, 3) := by decide +kernel
theorem d_RC_fits_37 : decode b_RC_fits 37 = .ok (.iload_n 0, 1) := by decide +kernel
theorem d_RC_fits_38 : decode b_RC_fits 38 = .ok (.iaload, 1) := by decide +kernel
theorem d_RC_fits_39 : decode b_RC_fits 39 = .ok (.iload_n 3, 1) := by decide +kernel
theorem d_RC_fits_40 : decode b_RC_fits 40 = .ok (.invokestatic 36, 3) := by decide +kernel
theorem d_RC_fits_43 : decode b_RC_fits 43 = .ok (.ifCond .eq 7, 3) := by decide +kernel
theorem d_RC_fits_46 : decode b_RC_fits 46 = .ok (.iconst 1, 1) := by decide +kernel
theorem d_RC_fits_47 : decode b_RC_fits 47 = .ok (.goto 4, 3) := by decide +kernel
theorem d_RC_fits_50 : decode b_RC_fits 50 = .ok (.iconst 0, 1) := by decide +kernel
theorem d_RC_fits_51 : decode b_RC_fits 51 = .ok (.ireturn, 1) := by decide +kernel
theorem gc_RC_36 : GoodIn gt (wsS R_RC 36 y_RC_isOfKind ws_RC_isOfKind) := gd_S gw_197 gw_198 gw_2 gw_199
def f_RC_fits (x0 x1 x2 x3 : Int32) (σ : SS) : Option (Int32 × SS) :=
  (if x0 < 0 then some ((0 : Int32), σ) else (if (11 : Int32) < x0 then some ((0 : Int32), σ) else (ld tbC0 12 x0).bind fun v3 => (f_RC_isOfKind v3 x1 σ).bind fun q5 => (if q5.1 = 0 then some ((0 : Int32), q5.2) else (ld tbC1 12 x0).bind fun v8 => (f_RC_isOfKind v8 x2 q5.2).bind fun q10 => (if q10.1 = 0 then some ((0 : Int32), q10.2) else (ld tbC2 12 x0).bind fun v13 => (f_RC_isOfKind v13 x3 q10.2).bind fun q15 => (if q15.1 = 0 then some ((0 : Int32), q15.2) else some ((1 : Int32), q15.2))))))
set_option maxHeartbeats 4000000 in
set_option maxRecDepth 100000 in
theorem e_RC_fits {p : Program} {l : Launch} {e : Env} {s : State} {m : MethodId} {args : Array Value} {below : List Frame} {meth : Method} {c : Code} {D : va_G} {a t : Nat → Nat} {cI cZ : ClassId} (ha : aCC a) (F : CallFix p m c b_RC_fits 4 s args gt R_RC) (hr : meth.sig.returnType = some .boolean) (hlk : meth.locks = false) (hK : va_K D vwCl [(cI, .int), (cZ, .boolean)] s) (hT : stC t (aC a) s s.heap) :
    ∀ (x0 x1 x2 x3 : Int32) (σ : SS) (q : Int32 × SS), f_RC_fits x0 x1 x2 x3 σ = some q → ∀ (H : Heap) (locs : List Loc), va_P D vwCl ((wC a cI cZ) σ) H → va_S (aC a) s.heap H locs → ∀ (ls : Array Slot), lv_has ls 4 [(0, .int x0), (1, .int x1), (2, .int x2), (3, .int x3)] → W p l e { frames := 1, cells := 0, slots := 0, locals := 21 } s m args below meth c H locs 0 0 (MQ below (va_Qi (fun r u => r = q.1 ∧ u = q.2) (pW D (wC a cI cZ) [(cI, .int), (cZ, .boolean)] (stC t) (aC a)) (aC a)) args s 0 0 (aC a)) (F0 m 0 ls []) := by
  obtain ⟨hx, hb, hml, hown, hg⟩ := id F
  intro x0 x1 x2 x3 σ q hf H locs hP hS ls hl
  unfold f_RC_fits at hf
  refine lv_iload_n hx hb d_RC_fits_0 rfl (lv_at hl 0 rfl) ?_
  refine lv_if_lt (tgt := 50) hx hb d_RC_fits_1 (by decide) (fun c1 => ?_) (fun c1 => ?_)
  · replace hf := (if_pos c1).symm.trans hf
    refine lv_iconst (v := (0 : Int32)) hx hb d_RC_fits_50 (by decide) ?_
    exact rr_z hx hb hr hlk (stC_g t) hK hT hP hS (Or.inl rfl) hf d_RC_fits_51
  · replace hf := (if_neg c1).symm.trans hf
    refine lv_iload_n hx hb d_RC_fits_4 rfl (lv_at hl 0 rfl) ?_
    refine lv_bipush (v := (11 : Int32)) hx hb d_RC_fits_5 (by decide) ?_
    refine lv_icmp_gt (tgt := 50) hx hb d_RC_fits_7 (by decide) (fun c2 => ?_) (fun c2 => ?_)
    · replace hf := (if_pos c2).symm.trans hf
      refine lv_iconst (v := (0 : Int32)) hx hb d_RC_fits_50 (by decide) ?_
      exact rr_z hx hb hr hlk (stC_g t) hK hT hP hS (Or.inl rfl) hf d_RC_fits_51
    · replace hf := (if_neg c2).symm.trans hf
      refine va_gets hx hb hT.1 hS hown (hg _ gw_195) (fun _ h9 => h9) d_RC_fits_10 ?_
      refine lv_iload_n hx hb d_RC_fits_13 rfl (lv_at hl 0 rfl) ?_
      refine bdK hf (fun v3 h4 hf => ?_)
      refine r_ti hx hb hT.2.1 hS h4 d_RC_fits_14 ?_
      refine lv_iload_n hx hb d_RC_fits_15 rfl (lv_at hl 1 rfl) ?_
      refine bdK hf (fun q5 h6 hf => ?_)
      refine rc_Si (As := [.int v3, .int x1]) (rest := []) (stC_g t) F (c_RC_isOfKind l ha v3 x1 σ q5 h6) (cwS 2 hg gc_RC_36 rfl rfl rfl hs_RC_isOfKind ⟨Nat.le_of_ble_eq_true rfl, Nat.le_of_ble_eq_true rfl⟩) hK hT hP hS rfl hl.1 rfl (Nat.le_of_ble_eq_true rfl) d_RC_fits_16 ⟨Nat.zero_le _, Nat.zero_le _⟩ (fun H locs hP hS => ?_)
      refine lv_if_eq (tgt := 50) hx hb d_RC_fits_19 (by decide) (fun c7 => ?_) (fun c7 => ?_)
      · replace hf := (if_pos c7).symm.trans hf
        refine lv_iconst (v := (0 : Int32)) hx hb d_RC_fits_50 (by decide) ?_
        exact rr_z hx hb hr hlk (stC_g t) hK hT hP hS (Or.inl rfl) hf d_RC_fits_51
      · replace hf := (if_neg c7).symm.trans hf
        refine va_gets hx hb hT.2.2.1 hS hown (hg _ gw_200) (fun _ h9 => h9) d_RC_fits_22 ?_
        refine lv_iload_n hx hb d_RC_fits_25 rfl (lv_at hl 0 rfl) ?_
        refine bdK hf (fun v8 h9 hf => ?_)
        refine r_ti hx hb hT.2.2.2.1 hS h9 d_RC_fits_26 ?_
        refine lv_iload_n hx hb d_RC_fits_27 rfl (lv_at hl 2 rfl) ?_
        refine bdK hf (fun q10 h11 hf => ?_)
        refine rc_Si (As := [.int v8, .int x2]) (rest := []) (stC_g t) F (c_RC_isOfKind l ha v8 x2 q5.2 q10 h11) (cwS 2 hg gc_RC_36 rfl rfl rfl hs_RC_isOfKind ⟨Nat.le_of_ble_eq_true rfl, Nat.le_of_ble_eq_true rfl⟩) hK hT hP hS rfl hl.1 rfl (Nat.le_of_ble_eq_true rfl) d_RC_fits_28 ⟨Nat.zero_le _, Nat.zero_le _⟩ (fun H locs hP hS => ?_)
        refine lv_if_eq (tgt := 50) hx hb d_RC_fits_31 (by decide) (fun c12 => ?_) (fun c12 => ?_)
        · replace hf := (if_pos c12).symm.trans hf
          refine lv_iconst (v := (0 : Int32)) hx hb d_RC_fits_50 (by decide) ?_
          exact rr_z hx hb hr hlk (stC_g t) hK hT hP hS (Or.inl rfl) hf d_RC_fits_51
        · replace hf := (if_neg c12).symm.trans hf
          refine va_gets hx hb hT.2.2.2.2.1 hS hown (hg _ gw_202) (fun _ h9 => h9) d_RC_fits_34 ?_
          refine lv_iload_n hx hb d_RC_fits_37 rfl (lv_at hl 0 rfl) ?_
          refine bdK hf (fun v13 h14 hf => ?_)
          refine r_ti hx hb hT.2.2.2.2.2.1 hS h14 d_RC_fits_38 ?_
          refine lv_iload_n hx hb d_RC_fits_39 rfl (lv_at hl 3 rfl) ?_
          refine bdK hf (fun q15 h16 hf => ?_)
          refine rc_Si (As := [.int v13, .int x3]) (rest := []) (stC_g t) F (c_RC_isOfKind l ha v13 x3 q10.2 q15 h16) (cwS 2 hg gc_RC_36 rfl rfl rfl hs_RC_isOfKind ⟨Nat.le_of_ble_eq_true rfl, Nat.le_of_ble_eq_true rfl⟩) hK hT hP hS rfl hl.1 rfl (Nat.le_of_ble_eq_true rfl) d_RC_fits_40 ⟨Nat.zero_le _, Nat.zero_le _⟩ (fun H locs hP hS => ?_)
          refine lv_if_eq (tgt := 50) hx hb d_RC_fits_43 (by decide) (fun c17 => ?_) (fun c17 => ?_)
          · replace hf := (if_pos c17).symm.trans hf
            refine lv_iconst (v := (0 : Int32)) hx hb d_RC_fits_50 (by decide) ?_
            exact rr_z hx hb hr hlk (stC_g t) hK hT hP hS (Or.inl rfl) hf d_RC_fits_51
          · replace hf := (if_neg c17).symm.trans hf
            refine lv_iconst (v := (1 : Int32)) hx hb d_RC_fits_46 (by decide) ?_
            refine lv_goto (tgt := 51) hx hb d_RC_fits_47 (by decide) ?_
            exact rr_z hx hb hr hlk (stC_g t) hK hT hP hS (Or.inr rfl) hf d_RC_fits_51
set_option maxHeartbeats 4000000 in
set_option maxRecDepth 100000 in
theorem c_RC_fits (l : Launch) {D : va_G} {a t : Nat → Nat} {cI cZ : ClassId} (ha : aCC a) (x0 x1 x2 x3 : Int32) (σ : SS) (q : Int32 × SS) (hf : f_RC_fits x0 x1 x2 x3 σ = some q) : Met l y_RC_fits ws_RC_fits { frames := 1, cells := 0, slots := 0, locals := 21 } (va_Pc [.int x0, .int x1, .int x2, .int x3] (pW D (wC a cI cZ) [(cI, .int), (cZ, .boolean)] (stC t) (aC a) σ)) (va_Qi (fun r u => r = q.1 ∧ u = q.2) (pW D (wC a cI cZ) [(cI, .int), (cZ, .boolean)] (stC t) (aC a)) (aC a)) 0 0 (aC a) := by
  refine Met.ofW (cc := b_RC_fits) (maxL := 4) (ret := some .boolean) (by decide) rfl ?_
  intro p e s m args below meth c s₁ B hml hv
  obtain ⟨rfl, hP, hK, hT⟩ := hv
  have hl := lv_entry ([.int x0, .int x1, .int x2, .int x3]) (n := 4) (Nat.le_of_ble_eq_true rfl)
  rw [lg_entry_eq]
  generalize (lg_sl ([.int x0, .int x1, .int x2, .int x3]) ++ List.replicate (4 - (lg_sl ([.int x0, .int x1, .int x2, .int x3])).length) Slot.unset).toArray = ls at hl ⊢
  exact e_RC_fits ha ⟨B.exec, B.bytes, hml, findClass_of_methodNamed B.named, fun w h => atoms_spec (ws := ws_RC_fits) B.pre w (List.mem_cons_of_mem _ h)⟩ B.returns B.notSynchronized hK hT x0 x1 x2 x3 σ q hf s.heap [] hP va_S.rf ls hl
theorem d_RC_resize_0 : decode b_RC_resize 0 = .ok (.aload_n 0, 1) := by decide +kernel
theorem d_RC_resize_1 : decode b_RC_resize 1 = .ok (.iload_n 1, 1) := by decide +kernel
theorem d_RC_resize_2 : decode b_RC_resize 2 = .ok (.putfield 46, 3) := by decide +kernel
theorem d_RC_resize_5 : decode b_RC_resize 5 = .ok (.return_, 1) := by decide +kernel
def f_RC_resize (x1 : Int32) (σ : SS) : Option (SS) :=
  (sf σ 25 x1).bind fun σ1 => some σ1
set_option maxHeartbeats 4000000 in
set_option maxRecDepth 100000 in
theorem e_RC_resize {p : Program} {l : Launch} {e : Env} {s : State} {m : MethodId} {args : Array Value} {below : List Frame} {meth : Method} {c : Code} {D : va_G} {a t : Nat → Nat} {cI cZ : ClassId} (ha : aCC a) (F : CallFix p m c b_RC_resize 2 s args gt R_RC) (hr : meth.sig.returnType = none) (hlk : meth.locks = false) (hK : va_K D vwCl [(cI, .int), (cZ, .boolean)] s) (hT : stC t (aC a) s s.heap) :
    ∀ (x1 : Int32) (σ : SS) (q : SS), f_RC_resize x1 σ = some q → ∀ (H : Heap) (locs : List Loc), va_P D vwCl ((wC a cI cZ) σ) H → va_S (aC a) s.heap H locs → ∀ (ls : Array Slot), lv_has ls 2 [(0, .ref (a 1)), (1, .int x1)] → W p l e { frames := 0, cells := 0, slots := 0, locals := 0 } s m args below meth c H locs 0 0 (MQ below (va_Qv (fun u => u = q) (pW D (wC a cI cZ) [(cI, .int), (cZ, .boolean)] (stC t) (aC a)) (aC a)) args s 0 0 (aC a)) (F0 m 0 ls []) := by
  obtain ⟨hx, hb, hml, hown, hg⟩ := id F
  intro x1 σ q hf H locs hP hS ls hl
  unfold f_RC_resize at hf
  refine lv_aload_n hx hb d_RC_resize_0 rfl (lv_at hl 0 rfl) ?_
  refine lv_iload_n hx hb d_RC_resize_1 rfl (lv_at hl 1 rfl) ?_
  refine bdK hf (fun σ1 h2 hf => ?_)
  refine va_put (D := D) (ci := 1) (v := .int x1) (ty := .int) (C := R_RC) (T := T_RC) (N := 8) hx hb hg in_RC t_RC t_RC_ok n_RC hown hK hP (dC ha σ) hS 1 rfl rfl 7 (by decide) (hg _ gw_30) (fun _ h9 => h9) rfl (by decide +kernel) rfl rfl (Nat.le_of_ble_eq_true rfl) d_RC_resize_2 (fun H locs hP _ hS => ?_)
  replace hP := sf_P (wf := (wC a cI cZ)) h2 hP rfl
  exact rr_v hx hb hr hlk (stC_g t) hK hT hP hS hf d_RC_resize_5
set_option maxHeartbeats 4000000 in
set_option maxRecDepth 100000 in
theorem c_RC_resize (l : Launch) {D : va_G} {a t : Nat → Nat} {cI cZ : ClassId} (ha : aCC a) (x1 : Int32) (σ : SS) (q : SS) (hf : f_RC_resize x1 σ = some q) : Met l y_RC_resize ws_RC_resize { frames := 0, cells := 0, slots := 0, locals := 0 } (va_Pc [.ref (a 1), .int x1] (pW D (wC a cI cZ) [(cI, .int), (cZ, .boolean)] (stC t) (aC a) σ)) (va_Qv (fun u => u = q) (pW D (wC a cI cZ) [(cI, .int), (cZ, .boolean)] (stC t) (aC a)) (aC a)) 0 0 (aC a) := by
  refine Met.ofW (cc := b_RC_resize) (maxL := 2) (ret := none) (by decide) rfl ?_
  intro p e s m args below meth c s₁ B hml hv
  obtain ⟨rfl, hP, hK, hT⟩ := hv
  have hl := lv_entry ([.ref (a 1), .int x1]) (n := 2) (Nat.le_of_ble_eq_true rfl)
  rw [lg_entry_eq]
  generalize (lg_sl ([.ref (a 1), .int x1]) ++ List.replicate (2 - (lg_sl ([.ref (a 1), .int x1])).length) Slot.unset).toArray = ls at hl ⊢
  exact e_RC_resize ha ⟨B.exec, B.bytes, hml, findClass_of_methodNamed B.named, fun w h => atoms_spec (ws := ws_RC_resize) B.pre w (List.mem_cons_of_mem _ h)⟩ B.returns B.notSynchronized hK hT x1 σ q hf s.heap [] hP va_S.rf ls hl
theorem d_RC_write_0 : decode b_RC_write 0 = .ok (.aload_n 0, 1) := by decide +kernel
theorem d_RC_write_1 : decode b_RC_write 1 = .ok (.getfield 9, 3) := by decide +kernel
theorem d_RC_write_4 : decode b_RC_write 4 = .ok (.iload_n 1, 1) := by decide +kernel
theorem d_RC_write_5 : decode b_RC_write 5 = .ok (.iload_n 2, 1) := by decide +kernel
theorem d_RC_write_6 : decode b_RC_write 6 = .ok (.iastore, 1) := by decide +kernel
theorem d_RC_write_7 : decode b_RC_write 7 = .ok (.aload_n 0, 1) := by decide +kernel
theorem d_RC_write_8 : decode b_RC_write 8 = .ok (.getfield 15, 3) := by decide +kernel
theorem d_RC_write_11 : decode b_RC_write 11 = .ok (.iload_n 1, 1) := by decide +kernel
theorem d_RC_write_12 : decode b_RC_write 12 = .ok (.iload_n 3, 1) := by decide +kernel
theorem d_RC_write_13 : decode b_RC_write 13 = .ok (.iastore, 1) := by decide +kernel
theorem d_RC_write_14 : decode b_RC_write 14 = .ok (.aload_n 0, 1) := by decide +kernel
theorem d_RC_write_15 : decode b_RC_write 15 = .ok (.getfield 18, 3) := by decide +kernel
theorem d_RC_write_18 : decode b_RC_write 18 = .ok (.iload_n 1, 1) := by decide +kernel
theorem d_RC_write_19 : decode b_RC_write 19 = .ok (.iload 4, 2) := by decide +kernel
theorem d_RC_write_21 : decode b_RC_write 21 = .ok (.iastore, 1) := by decide +kernel
theorem d_RC_write_22 : decode b_RC_write 22 = .ok (.aload_n 0, 1) := by decide +kernel
theorem d_RC_write_23 : decode b_RC_write 23 = .ok (.getfield 21, 3) := by decide +kernel
theorem d_RC_write_26 : decode b_RC_write 26 = .ok (.iload_n 1, 1) := by decide +kernel
theorem d_RC_write_27 : decode b_RC_write 27 = .ok (.iload 5, 2) := by decide +kernel
theorem d_RC_write_29 : decode b_RC_write 29 = .ok (.iastore, 1) := by decide +kernel
theorem d_RC_write_30 : decode b_RC_write 30 = .ok (.aload_n 0, 1) := by decide +kernel
theorem d_RC_write_31 : decode b_RC_write 31 = .ok (.getfield 24, 3) := by decide +kernel
theorem d_RC_write_34 : decode b_RC_write 34 = .ok (.iload_n 1, 1) := by decide +kernel
theorem d_RC_write_35 : decode b_RC_write 35 = .ok (.getstatic 33, 3) := by decide +kernel
theorem d_RC_write_38 : decode b_RC_write 38 = .ok (.iload_n 2, 1) := by decide +kernel
theorem d_RC_write_39 : decode b_RC_write 39 = .ok (.iaload, 1) := by decide +kernel
theorem d_RC_write_40 : decode b_RC_write 40 = .ok (.iconst 1, 1) := by decide +kernel
theorem d_RC_write_41 : decode b_RC_write 41 = .ok (.if_icmp .ne 7, 3) := by decide +kernel
theorem d_RC_write_44 : decode b_RC_write 44 = .ok (.iload_n 3, 1) := by decide +kernel
theorem d_RC_write_45 : decode b_RC_write 45 = .ok (.goto 4, 3) := by decide +kernel
theorem d_RC_write_48 : decode b_RC_write 48 = .ok (.iconst (-1), 1) := by decide +kernel
theorem d_RC_write_49 : decode b_RC_write 49 = .ok (.iastore, 1) := by decide +kernel
theorem d_RC_write_50 : decode b_RC_write 50 = .ok (.aload_n 0, 1) := by decide +kernel
theorem d_RC_write_51 : decode b_RC_write 51 = .ok (.getfield 27, 3) := by decide +kernel
theorem d_RC_write_54 : decode b_RC_write 54 = .ok (.iload_n 1, 1) := by decide +kernel
theorem d_RC_write_55 : decode b_RC_write 55 = .ok (.getstatic 40, 3) := by decide +kernel
theorem d_RC_write_58 : decode b_RC_write 58 = .ok (.iload_n 2, 1) := by decide +kernel
theorem d_RC_write_59 : decode b_RC_write 59 = .ok (.iaload, 1) := by decide +kernel
theorem d_RC_write_60 : decode b_RC_write 60 = .ok (.iconst 1, 1) := by decide +kernel
theorem d_RC_write_61 : decode b_RC_write 61 = .ok (.if_icmp .ne 8, 3) := by decide +kernel
theorem d_RC_write_64 : decode b_RC_write 64 = .ok (.iload 4, 2) := by decide +kernel
theorem d_RC_write_66 : decode b_RC_write 66 = .ok (.goto 4, 3) := by decide +kernel
theorem d_RC_write_69 : decode b_RC_write 69 = .ok (.iconst (-1), 1) := by decide +kernel
theorem d_RC_write_70 : decode b_RC_write 70 = .ok (.iastore, 1) := by decide +kernel
theorem d_RC_write_71 : decode b_RC_write 71 = .ok (.aload_n 0, 1) := by decide +kernel
theorem d_RC_write_72 : decode b_RC_write 72 = .ok (.getfield 30, 3) := by decide +kernel
theorem d_RC_write_75 : decode b_RC_write 75 = .ok (.iload_n 1, 1) := by decide +kernel
theorem d_RC_write_76 : decode b_RC_write 76 = .ok (.getstatic 43, 3) := by decide +kernel
theorem d_RC_write_79 : decode b_RC_write 79 = .ok (.iload_n 2, 1) := by decide +kernel
theorem d_RC_write_80 : decode b_RC_write 80 = .ok (.iaload, 1) := by decide +kernel
theorem d_RC_write_81 : decode b_RC_write 81 = .ok (.iconst 1, 1) := by decide +kernel
theorem d_RC_write_82 : decode b_RC_write 82 = .ok (.if_icmp .ne 8, 3) := by decide +kernel
theorem d_RC_write_85 : decode b_RC_write 85 = .ok (.iload 5, 2) := by decide +kernel
theorem d_RC_write_87 : decode b_RC_write 87 = .ok (.goto 4, 3) := by decide +kernel
theorem d_RC_write_90 : decode b_RC_write 90 = .ok (.iconst (-1), 1) := by decide +kernel
theorem d_RC_write_91 : decode b_RC_write 91 = .ok (.iastore, 1) := by decide +kernel
theorem d_RC_write_92 : decode b_RC_write 92 = .ok (.return_, 1) := by decide +kernel
def b_RC_write_49 (x1 x2 x4 x5 y1 y2 : Int32) (σ : SS) : Option (SS) :=
  (sto σ 4 40 y1 y2).bind fun σ1 => (ld tbC1 12 x2).bind fun v3 => (if v3 = (1 : Int32) then (sto σ1 5 40 x1 x4).bind fun σ15 => (ld tbC2 12 x2).bind fun v17 => (if v17 = (1 : Int32) then (sto σ15 6 40 x1 x5).bind fun σ22 => some σ22 else (sto σ15 6 40 x1 (-1 : Int32)).bind fun σ20 => some σ20) else (sto σ1 5 40 x1 (-1 : Int32)).bind fun σ6 => (ld tbC2 12 x2).bind fun v8 => (if v8 = (1 : Int32) then (sto σ6 6 40 x1 x5).bind fun σ13 => some σ13 else (sto σ6 6 40 x1 (-1 : Int32)).bind fun σ11 => some σ11))
set_option maxHeartbeats 4000000 in
set_option maxRecDepth 100000 in
theorem k_RC_write_49 {p : Program} {l : Launch} {e : Env} {s : State} {m : MethodId} {args : Array Value} {below : List Frame} {meth : Method} {c : Code} {D : va_G} {a t : Nat → Nat} {cI cZ : ClassId} (ha : aCC a) (F : CallFix p m c b_RC_write 6 s args gt R_RC) (hr : meth.sig.returnType = none) (hlk : meth.locks = false) (hK : va_K D vwCl [(cI, .int), (cZ, .boolean)] s) (hT : stC t (aC a) s s.heap) :
    ∀ (x1 x2 x4 x5 y1 y2 : Int32) (σ : SS) (q : SS), b_RC_write_49 x1 x2 x4 x5 y1 y2 σ = some q → ∀ (H : Heap) (locs : List Loc), va_P D vwCl ((wC a cI cZ) σ) H → va_S (aC a) s.heap H locs → ∀ (ls : Array Slot), lv_has ls 6 [(0, .ref (a 1)), (1, .int x1), (2, .int x2), (4, .int x4), (5, .int x5)] → W p l e { frames := 0, cells := 0, slots := 0, locals := 0 } s m args below meth c H locs 0 0 (MQ below (va_Qv (fun u => u = q) (pW D (wC a cI cZ) [(cI, .int), (cZ, .boolean)] (stC t) (aC a)) (aC a)) args s 0 0 (aC a)) (F0 m 49 ls [.int y2, .int y1, .ref (a 10)]) := by
  obtain ⟨hx, hb, hml, hown, hg⟩ := id F
  intro x1 x2 x4 x5 y1 y2 σ q hf H locs hP hS ls hl
  unfold b_RC_write_49 at hf
  refine bdK hf (fun σ1 h2 hf => ?_)
  refine r_iast (wf := (wC a cI cZ)) hx hb hK hP (dC ha σ) hS 10 0 rfl rfl (fun _ _ => rfl) h2 d_RC_write_49 (fun H locs hP hS => ?_)
  refine lv_aload_n hx hb d_RC_write_50 rfl (lv_at hl 0 rfl) ?_
  refine va_get (D := D) (ci := 1) (v := .ref (a 11)) (C := R_RC) (T := T_RC) (N := 8) hx hb hg in_RC hown hK hP 1 rfl rfl 5 (by decide) (hg _ gw_28) (fun _ h9 => h9) rfl d_RC_write_51 ?_
  refine lv_iload_n hx hb d_RC_write_54 rfl (lv_at hl 1 rfl) ?_
  refine va_gets hx hb hT.2.2.1 hS hown (hg _ gw_200) (fun _ h9 => h9) d_RC_write_55 ?_
  refine lv_iload_n hx hb d_RC_write_58 rfl (lv_at hl 2 rfl) ?_
  refine bdK hf (fun v3 h4 hf => ?_)
  refine r_ti hx hb hT.2.2.2.1 hS h4 d_RC_write_59 ?_
  refine lv_iconst (v := (1 : Int32)) hx hb d_RC_write_60 (by decide) ?_
  refine lv_icmp_ne (tgt := 69) hx hb d_RC_write_61 (by decide) (fun c5 => ?_) (fun c5 => ?_)
  · replace hf := (if_neg c5).symm.trans hf
    refine lv_iconst (v := (-1 : Int32)) hx hb d_RC_write_69 (by decide) ?_
    refine bdK hf (fun σ6 h7 hf => ?_)
    refine r_iast (wf := (wC a cI cZ)) hx hb hK hP (dC ha σ1) hS 11 0 rfl rfl (fun _ _ => rfl) h7 d_RC_write_70 (fun H locs hP hS => ?_)
    refine lv_aload_n hx hb d_RC_write_71 rfl (lv_at hl 0 rfl) ?_
    refine va_get (D := D) (ci := 1) (v := .ref (a 12)) (C := R_RC) (T := T_RC) (N := 8) hx hb hg in_RC hown hK hP 1 rfl rfl 6 (by decide) (hg _ gw_29) (fun _ h9 => h9) rfl d_RC_write_72 ?_
    refine lv_iload_n hx hb d_RC_write_75 rfl (lv_at hl 1 rfl) ?_
    refine va_gets hx hb hT.2.2.2.2.1 hS hown (hg _ gw_202) (fun _ h9 => h9) d_RC_write_76 ?_
    refine lv_iload_n hx hb d_RC_write_79 rfl (lv_at hl 2 rfl) ?_
    refine bdK hf (fun v8 h9 hf => ?_)
    refine r_ti hx hb hT.2.2.2.2.2.1 hS h9 d_RC_write_80 ?_
    refine lv_iconst (v := (1 : Int32)) hx hb d_RC_write_81 (by decide) ?_
    refine lv_icmp_ne (tgt := 90) hx hb d_RC_write_82 (by decide) (fun c10 => ?_) (fun c10 => ?_)
    · replace hf := (if_neg c10).symm.trans hf
      refine lv_iconst (v := (-1 : Int32)) hx hb d_RC_write_90 (by decide) ?_
      refine bdK hf (fun σ11 h12 hf => ?_)
      refine r_iast (wf := (wC a cI cZ)) hx hb hK hP (dC ha σ6) hS 12 0 rfl rfl (fun _ _ => rfl) h12 d_RC_write_91 (fun H locs hP hS => ?_)
      exact rr_v hx hb hr hlk (stC_g t) hK hT hP hS hf d_RC_write_92
    · replace hf := (if_pos c10).symm.trans hf
      refine lv_iload hx hb d_RC_write_85 (lv_at hl 4 rfl) ?_
      refine lv_goto (tgt := 91) hx hb d_RC_write_87 (by decide) ?_
      refine bdK hf (fun σ13 h14 hf => ?_)
      refine r_iast (wf := (wC a cI cZ)) hx hb hK hP (dC ha σ6) hS 12 0 rfl rfl (fun _ _ => rfl) h14 d_RC_write_91 (fun H locs hP hS => ?_)
      exact rr_v hx hb hr hlk (stC_g t) hK hT hP hS hf d_RC_write_92
  · replace hf := (if_pos c5).symm.trans hf
    refine lv_iload hx hb d_RC_write_64 (lv_at hl 3 rfl) ?_
    refine lv_goto (tgt := 70) hx hb d_RC_write_66 (by decide) ?_
    refine bdK hf (fun σ15 h16 hf => ?_)
    refine r_iast (wf := (wC a cI cZ)) hx hb hK hP (dC ha σ1) hS 11 0 rfl rfl (fun _ _ => rfl) h16 d_RC_write_70 (fun H locs hP hS => ?_)
    refine lv_aload_n hx hb d_RC_write_71 rfl (lv_at hl 0 rfl) ?_
    refine va_get (D := D) (ci := 1) (v := .ref (a 12)) (C := R_RC) (T := T_RC) (N := 8) hx hb hg in_RC hown hK hP 1 rfl rfl 6 (by decide) (hg _ gw_29) (fun _ h9 => h9) rfl d_RC_write_72 ?_
    refine lv_iload_n hx hb d_RC_write_75 rfl (lv_at hl 1 rfl) ?_
    refine va_gets hx hb hT.2.2.2.2.1 hS hown (hg _ gw_202) (fun _ h9 => h9) d_RC_write_76 ?_
    refine lv_iload_n hx hb d_RC_write_79 rfl (lv_at hl 2 rfl) ?_
    refine bdK hf (fun v17 h18 hf => ?_)
    refine r_ti hx hb hT.2.2.2.2.2.1 hS h18 d_RC_write_80 ?_
    refine lv_iconst (v := (1 : Int32)) hx hb d_RC_write_81 (by decide) ?_
    refine lv_icmp_ne (tgt := 90) hx hb d_RC_write_82 (by decide) (fun c19 => ?_) (fun c19 => ?_)
    · replace hf := (if_neg c19).symm.trans hf
      refine lv_iconst (v := (-1 : Int32)) hx hb d_RC_write_90 (by decide) ?_
      refine bdK hf (fun σ20 h21 hf => ?_)
      refine r_iast (wf := (wC a cI cZ)) hx hb hK hP (dC ha σ15) hS 12 0 rfl rfl (fun _ _ => rfl) h21 d_RC_write_91 (fun H locs hP hS => ?_)
      exact rr_v hx hb hr hlk (stC_g t) hK hT hP hS hf d_RC_write_92
    · replace hf := (if_pos c19).symm.trans hf
      refine lv_iload hx hb d_RC_write_85 (lv_at hl 4 rfl) ?_
      refine lv_goto (tgt := 91) hx hb d_RC_write_87 (by decide) ?_
      refine bdK hf (fun σ22 h23 hf => ?_)
      refine r_iast (wf := (wC a cI cZ)) hx hb hK hP (dC ha σ15) hS 12 0 rfl rfl (fun _ _ => rfl) h23 d_RC_write_91 (fun H locs hP hS => ?_)
      exact rr_v hx hb hr hlk (stC_g t) hK hT hP hS hf d_RC_write_92
def f_RC_write (x1 x2 x3 x4 x5 : Int32) (σ : SS) : Option (SS) :=
  (sto σ 0 40 x1 x2).bind fun σ1 => (sto σ1 1 40 x1 x3).bind fun σ3 => (sto σ3 2 40 x1 x4).bind fun σ5 => (sto σ5 3 40 x1 x5).bind fun σ7 => (ld tbC0 12 x2).bind fun v9 => (if v9 = (1 : Int32) then b_RC_write_49 x1 x2 x4 x5 x1 x3 σ7 else b_RC_write_49 x1 x2 x4 x5 x1 (-1 : Int32) σ7)
set_option maxHeartbeats 4000000 in
set_option maxRecDepth 100000 in
theorem e_RC_write {p : Program} {l : Launch} {e : Env} {s : State} {m : MethodId} {args : Array Value} {below : List Frame} {meth : Method} {c : Code} {D : va_G} {a t : Nat → Nat} {cI cZ : ClassId} (ha : aCC a) (F : CallFix p m c b_RC_write 6 s args gt R_RC) (hr : meth.sig.returnType = none) (hlk : meth.locks = false) (hK : va_K D vwCl [(cI, .int), (cZ, .boolean)] s) (hT : stC t (aC a) s s.heap) :
    ∀ (x1 x2 x3 x4 x5 : Int32) (σ : SS) (q : SS), f_RC_write x1 x2 x3 x4 x5 σ = some q → ∀ (H : Heap) (locs : List Loc), va_P D vwCl ((wC a cI cZ) σ) H → va_S (aC a) s.heap H locs → ∀ (ls : Array Slot), lv_has ls 6 [(0, .ref (a 1)), (1, .int x1), (2, .int x2), (3, .int x3), (4, .int x4), (5, .int x5)] → W p l e { frames := 0, cells := 0, slots := 0, locals := 0 } s m args below meth c H locs 0 0 (MQ below (va_Qv (fun u => u = q) (pW D (wC a cI cZ) [(cI, .int), (cZ, .boolean)] (stC t) (aC a)) (aC a)) args s 0 0 (aC a)) (F0 m 0 ls []) := by
  obtain ⟨hx, hb, hml, hown, hg⟩ := id F
  intro x1 x2 x3 x4 x5 σ q hf H locs hP hS ls hl
  unfold f_RC_write at hf
  refine lv_aload_n hx hb d_RC_write_0 rfl (lv_at hl 0 rfl) ?_
  refine va_get (D := D) (ci := 1) (v := .ref (a 6)) (C := R_RC) (T := T_RC) (N := 8) hx hb hg in_RC hown hK hP 1 rfl rfl 0 (by decide) (hg _ gw_23) (fun _ h9 => h9) rfl d_RC_write_1 ?_
  refine lv_iload_n hx hb d_RC_write_4 rfl (lv_at hl 1 rfl) ?_
  refine lv_iload_n hx hb d_RC_write_5 rfl (lv_at hl 2 rfl) ?_
  refine bdK hf (fun σ1 h2 hf => ?_)
  refine r_iast (wf := (wC a cI cZ)) hx hb hK hP (dC ha σ) hS 6 0 rfl rfl (fun _ _ => rfl) h2 d_RC_write_6 (fun H locs hP hS => ?_)
  refine lv_aload_n hx hb d_RC_write_7 rfl (lv_at hl 0 rfl) ?_
  refine va_get (D := D) (ci := 1) (v := .ref (a 7)) (C := R_RC) (T := T_RC) (N := 8) hx hb hg in_RC hown hK hP 1 rfl rfl 1 (by decide) (hg _ gw_24) (fun _ h9 => h9) rfl d_RC_write_8 ?_
  refine lv_iload_n hx hb d_RC_write_11 rfl (lv_at hl 1 rfl) ?_
  refine lv_iload_n hx hb d_RC_write_12 rfl (lv_at hl 3 rfl) ?_
  refine bdK hf (fun σ3 h4 hf => ?_)
  refine r_iast (wf := (wC a cI cZ)) hx hb hK hP (dC ha σ1) hS 7 0 rfl rfl (fun _ _ => rfl) h4 d_RC_write_13 (fun H locs hP hS => ?_)
  refine lv_aload_n hx hb d_RC_write_14 rfl (lv_at hl 0 rfl) ?_
  refine va_get (D := D) (ci := 1) (v := .ref (a 8)) (C := R_RC) (T := T_RC) (N := 8) hx hb hg in_RC hown hK hP 1 rfl rfl 2 (by decide) (hg _ gw_25) (fun _ h9 => h9) rfl d_RC_write_15 ?_
  refine lv_iload_n hx hb d_RC_write_18 rfl (lv_at hl 1 rfl) ?_
  refine lv_iload hx hb d_RC_write_19 (lv_at hl 4 rfl) ?_
  refine bdK hf (fun σ5 h6 hf => ?_)
  refine r_iast (wf := (wC a cI cZ)) hx hb hK hP (dC ha σ3) hS 8 0 rfl rfl (fun _ _ => rfl) h6 d_RC_write_21 (fun H locs hP hS => ?_)
  refine lv_aload_n hx hb d_RC_write_22 rfl (lv_at hl 0 rfl) ?_
  refine va_get (D := D) (ci := 1) (v := .ref (a 9)) (C := R_RC) (T := T_RC) (N := 8) hx hb hg in_RC hown hK hP 1 rfl rfl 3 (by decide) (hg _ gw_26) (fun _ h9 => h9) rfl d_RC_write_23 ?_
  refine lv_iload_n hx hb d_RC_write_26 rfl (lv_at hl 1 rfl) ?_
  refine lv_iload hx hb d_RC_write_27 (lv_at hl 5 rfl) ?_
  refine bdK hf (fun σ7 h8 hf => ?_)
  refine r_iast (wf := (wC a cI cZ)) hx hb hK hP (dC ha σ5) hS 9 0 rfl rfl (fun _ _ => rfl) h8 d_RC_write_29 (fun H locs hP hS => ?_)
  refine lv_aload_n hx hb d_RC_write_30 rfl (lv_at hl 0 rfl) ?_
  refine va_get (D := D) (ci := 1) (v := .ref (a 10)) (C := R_RC) (T := T_RC) (N := 8) hx hb hg in_RC hown hK hP 1 rfl rfl 4 (by decide) (hg _ gw_27) (fun _ h9 => h9) rfl d_RC_write_31 ?_
  refine lv_iload_n hx hb d_RC_write_34 rfl (lv_at hl 1 rfl) ?_
  refine va_gets hx hb hT.1 hS hown (hg _ gw_195) (fun _ h9 => h9) d_RC_write_35 ?_
  refine lv_iload_n hx hb d_RC_write_38 rfl (lv_at hl 2 rfl) ?_
  refine bdK hf (fun v9 h10 hf => ?_)
  refine r_ti hx hb hT.2.1 hS h10 d_RC_write_39 ?_
  refine lv_iconst (v := (1 : Int32)) hx hb d_RC_write_40 (by decide) ?_
  refine lv_icmp_ne (tgt := 48) hx hb d_RC_write_41 (by decide) (fun c11 => ?_) (fun c11 => ?_)
  · replace hf := (if_neg c11).symm.trans hf
    refine lv_iconst (v := (-1 : Int32)) hx hb d_RC_write_48 (by decide) ?_
    exact k_RC_write_49 ha F hr hlk hK hT x1 x2 x4 x5 x1 (-1 : Int32) σ7 q hf _ _ hP hS ls (lv_sub hl [0, 1, 2, 4, 5] rfl)
  · replace hf := (if_pos c11).symm.trans hf
    refine lv_iload_n hx hb d_RC_write_44 rfl (lv_at hl 3 rfl) ?_
    refine lv_goto (tgt := 49) hx hb d_RC_write_45 (by decide) ?_
    exact k_RC_write_49 ha F hr hlk hK hT x1 x2 x4 x5 x1 x3 σ7 q hf _ _ hP hS ls (lv_sub hl [0, 1, 2, 4, 5] rfl)
set_option maxHeartbeats 4000000 in
set_option maxRecDepth 100000 in
theorem c_RC_write (l : Launch) {D : va_G} {a t : Nat → Nat} {cI cZ : ClassId} (ha : aCC a) (x1 x2 x3 x4 x5 : Int32) (σ : SS) (q : SS) (hf : f_RC_write x1 x2 x3 x4 x5 σ = some q) : Met l y_RC_write ws_RC_write { frames := 0, cells := 0, slots := 0, locals := 0 } (va_Pc [.ref (a 1), .int x1, .int x2, .int x3, .int x4, .int x5] (pW D (wC a cI cZ) [(cI, .int), (cZ, .boolean)] (stC t) (aC a) σ)) (va_Qv (fun u => u = q) (pW D (wC a cI cZ) [(cI, .int), (cZ, .boolean)] (stC t) (aC a)) (aC a)) 0 0 (aC a) := by
  refine Met.ofW (cc := b_RC_write) (maxL := 6) (ret := none) (by decide) rfl ?_
  intro p e s m args below meth c s₁ B hml hv
  obtain ⟨rfl, hP, hK, hT⟩ := hv
  have hl := lv_entry ([.ref (a 1), .int x1, .int x2, .int x3, .int x4, .int x5]) (n := 6) (Nat.le_of_ble_eq_true rfl)
  rw [lg_entry_eq]
  generalize (lg_sl ([.ref (a 1), .int x1, .int x2, .int x3, .int x4, .int x5]) ++ List.replicate (6 - (lg_sl ([.ref (a 1), .int x1, .int x2, .int x3, .int x4, .int x5])).length) Slot.unset).toArray = ls at hl ⊢
  exact e_RC_write ha ⟨B.exec, B.bytes, hml, findClass_of_methodNamed B.named, fun w h => atoms_spec (ws := ws_RC_write) B.pre w (List.mem_cons_of_mem _ h)⟩ B.returns B.notSynchronized hK hT x1 x2 x3 x4 x5 σ q hf s.heap [] hP va_S.rf ls hl
theorem d_SC_add_0 : decode b_SC_add 0 = .ok (.aload_n 0, 1) := by decide +kernel
theorem d_SC_add_1 : decode b_SC_add 1 = .ok (.getfield 12, 3) := by decide +kernel
theorem d_SC_add_4 : decode b_SC_add 4 = .ok (.invokevirtual 54, 3) := by decide +kernel
theorem d_SC_add_7 : decode b_SC_add 7 = .ok (.istore 5, 2) := by decide +kernel
theorem d_SC_add_9 : decode b_SC_add 9 = .ok (.iload 5, 2) := by decide +kernel
theorem d_SC_add_11 : decode b_SC_add 11 = .ok (.bipush 40, 2) := by decide +kernel
theorem d_SC_add_13 : decode b_SC_add 13 = .ok (.if_icmp .ge 14, 3) := by decide +kernel
theorem d_SC_add_16 : decode b_SC_add 16 = .ok (.iload_n 1, 1) := by decide +kernel
theorem d_SC_add_17 : decode b_SC_add 17 = .ok (.iload_n 2, 1) := by decide +kernel
theorem d_SC_add_18 : decode b_SC_add 18 = .ok (.iload_n 3, 1) := by decide +kernel
theorem d_SC_add_19 : decode b_SC_add 19 = .ok (.iload 4, 2) := by decide +kernel
theorem d_SC_add_21 : decode b_SC_add 21 = .ok (.invokestatic 58, 3) := by decide +kernel
theorem d_SC_add_24 : decode b_SC_add 24 = .ok (.ifCond .ne 5, 3) := by decide +kernel
theorem d_SC_add_27 : decode b_SC_add 27 = .ok (.iconst (-1), 1) := by decide +kernel
theorem d_SC_add_28 : decode b_SC_add 28 = .ok (.ireturn, 1) := by decide +kernel
theorem d_SC_add_29 : decode b_SC_add 29 = .ok (.aload_n 0, 1) := by decide +kernel
theorem d_SC_add_30 : decode b_SC_add 30 = .ok (.getfield 12, 3) := by decide +kernel
theorem d_SC_add_33 : decode b_SC_add 33 = .ok (.iload 5, 2) := by decide +kernel
theorem d_SC_add_35 : decode b_SC_add 35 = .ok (.iconst 1, 1) := by decide +kernel
theorem d_SC_add_36 : decode b_SC_add 36 = .ok (.iadd, 1) := by decide +kernel
theorem d_SC_add_37 : decode b_SC_add 37 = .ok (.invokevirtual 62, 3) := by decide +kernel
theorem d_SC_add_40 : decode b_SC_add 40 = .ok (.aload_n 0, 1) := by decide +kernel
theorem d_SC_add_41 : decode b_SC_add 41 = .ok (.getfield 12, 3) := by decide +kernel
theorem d_SC_add_44 : decode b_SC_add 44 = .ok (.iload 5, 2) := by decide +kernel
theorem d_SC_add_46 : decode b_SC_add 46 = .ok (.iload_n 1, 1) := by decide +kernel
theorem d_SC_add_47 : decode b_SC_add 47 = .ok (.iload_n 2, 1) := by decide +kernel
theorem d_SC_add_48 : decode b_SC_add 48 = .ok (.iload_n 3, 1) := by decide +kernel
theorem d_SC_add_49 : decode b_SC_add 49 = .ok (.iload 4, 2) := by decide +kernel
theorem d_SC_add_51 : decode b_SC_add 51 = .ok (.invokevirtual 66, 3) := by decide +kernel
theorem d_SC_add_54 : decode b_SC_add 54 = .ok (.aload_n 0, 1) := by decide +kernel
theorem d_SC_add_55 : decode b_SC_add 55 = .ok (.iconst 1, 1) := by decide +kernel
theorem d_SC_add_56 : decode b_SC_add 56 = .ok (.putfield 50, 3) := by decide +kernel
theorem d_SC_add_59 : decode b_SC_add 59 = .ok (.iload 5, 2) := by decide +kernel
theorem d_SC_add_61 : decode b_SC_add 61 = .ok (.ireturn, 1) := by decide +kernel
theorem gc_SC_54 : GoodIn gt (wsV R_SC 54 R_RC y_RC_count ws_RC_count) := gd_V gw_188 gw_189 gw_190 gw_2 gw_191
theorem gc_SC_58 : GoodIn gt (va_wsS R_SC 58 y_RC_fits ws_RC_fits) := gd_T gw_192 gw_193 gw_2 gw_194
theorem gc_SC_62 : GoodIn gt (wsV R_SC 62 R_RC y_RC_resize ws_RC_resize) := gd_V gw_204 gw_205 gw_206 gw_2 gw_207
theorem gc_SC_66 : GoodIn gt (wsV R_SC 66 R_RC y_RC_write ws_RC_write) := gd_V gw_208 gw_209 gw_210 gw_2 gw_211
def f_SC_add (x1 x2 x3 x4 : Int32) (σ : SS) : Option (Int32 × SS) :=
  (f_RC_count σ).bind fun q1 => (if (40 : Int32) ≤ q1.1 then some ((-1 : Int32), q1.2) else (f_RC_fits x1 x2 x3 x4 q1.2).bind fun q4 => (if q4.1 = 0 then some ((-1 : Int32), q4.2) else (f_RC_resize (q1.1 + (1 : Int32)) q4.2).bind fun σ7 => (f_RC_write q1.1 x1 x2 x3 x4 σ7).bind fun σ9 => (sf σ9 24 (1 : Int32)).bind fun σ11 => some (q1.1, σ11)))
set_option maxHeartbeats 4000000 in
set_option maxRecDepth 100000 in
theorem e_SC_add {p : Program} {l : Launch} {e : Env} {s : State} {m : MethodId} {args : Array Value} {below : List Frame} {meth : Method} {c : Code} {D : va_G} {a t : Nat → Nat} {cI cZ : ClassId} (ha : aCC a) (F : CallFix p m c b_SC_add 6 s args gt R_SC) (hr : meth.sig.returnType = some .int) (hlk : meth.locks = false) (hK : va_K D vwCl [(cI, .int), (cZ, .boolean)] s) (hT : stC t (aC a) s s.heap) :
    ∀ (x1 x2 x3 x4 : Int32) (σ : SS) (q : Int32 × SS), f_SC_add x1 x2 x3 x4 σ = some q → ∀ (H : Heap) (locs : List Loc), va_P D vwCl ((wC a cI cZ) σ) H → va_S (aC a) s.heap H locs → ∀ (ls : Array Slot), lv_has ls 6 [(0, .ref (a 0)), (1, .int x1), (2, .int x2), (3, .int x3), (4, .int x4)] → W p l e { frames := 2, cells := 0, slots := 0, locals := 44 } s m args below meth c H locs 0 0 (MQ below (va_Qi (fun r u => r = q.1 ∧ u = q.2) (pW D (wC a cI cZ) [(cI, .int), (cZ, .boolean)] (stC t) (aC a)) (aC a)) args s 0 0 (aC a)) (F0 m 0 ls []) := by
  obtain ⟨hx, hb, hml, hown, hg⟩ := id F
  intro x1 x2 x3 x4 σ q hf H locs hP hS ls hl
  unfold f_SC_add at hf
  refine lv_aload_n hx hb d_SC_add_0 rfl (lv_at hl 0 rfl) ?_
  refine va_get (D := D) (ci := 0) (v := .ref (a 1)) (C := R_SC) (T := T_SC) (N := 6) hx hb hg in_SC hown hK hP 0 rfl rfl 0 (by decide) (hg _ gw_165) (fun _ h9 => h9) rfl d_SC_add_1 ?_
  refine bdK hf (fun q1 h2 hf => ?_)
  refine rc_Vi (As := []) (rest := []) (b := a 1) (stC_g t) F (c_RC_count l ha σ q1 h2) (cwV 0 hg gc_SC_54 rfl rfl rfl hs_RC_count ⟨Nat.le_of_ble_eq_true rfl, Nat.le_of_ble_eq_true rfl⟩) hK hT hP hS (va_recv hK hP (ci := 1) (q0 := 1) rfl rfl) rfl hl.1 rfl (Nat.le_of_ble_eq_true rfl) d_SC_add_4 ⟨Nat.zero_le _, Nat.zero_le _⟩ (fun H locs hP hS => ?_)
  refine lv_istore (lv' := [(5, .int q1.1), (0, .ref (a 0)), (1, .int x1), (2, .int x2), (3, .int x3), (4, .int x4)]) hx hb d_SC_add_7 hl (by decide) rfl (fun ls hl => ?_)
  refine lv_iload hx hb d_SC_add_9 (lv_at hl 0 rfl) ?_
  refine lv_bipush (v := (40 : Int32)) hx hb d_SC_add_11 (by decide) ?_
  refine lv_icmp_ge (tgt := 27) hx hb d_SC_add_13 (by decide) (fun c3 => ?_) (fun c3 => ?_)
  · replace hf := (if_pos c3).symm.trans hf
    refine lv_iconst (v := (-1 : Int32)) hx hb d_SC_add_27 (by decide) ?_
    exact rr_i hx hb hr hlk (stC_g t) hK hT hP hS hf d_SC_add_28
  · replace hf := (if_neg c3).symm.trans hf
    refine lv_iload_n hx hb d_SC_add_16 rfl (lv_at hl 2 rfl) ?_
    refine lv_iload_n hx hb d_SC_add_17 rfl (lv_at hl 3 rfl) ?_
    refine lv_iload_n hx hb d_SC_add_18 rfl (lv_at hl 4 rfl) ?_
    refine lv_iload hx hb d_SC_add_19 (lv_at hl 5 rfl) ?_
    refine bdK hf (fun q4 h5 hf => ?_)
    refine rc_Si (As := [.int x1, .int x2, .int x3, .int x4]) (rest := []) (stC_g t) F (c_RC_fits l ha x1 x2 x3 x4 q1.2 q4 h5) (va_cwS 4 hg gc_SC_58 rfl rfl rfl ht_RC_fits ⟨Nat.le_of_ble_eq_true rfl, Nat.le_of_ble_eq_true rfl⟩) hK hT hP hS rfl hl.1 rfl (Nat.le_of_ble_eq_true rfl) d_SC_add_21 ⟨Nat.zero_le _, Nat.zero_le _⟩ (fun H locs hP hS => ?_)
    refine lv_if_ne (tgt := 29) hx hb d_SC_add_24 (by decide) (fun c6 => ?_) (fun c6 => ?_)
    · replace hf := (if_neg c6).symm.trans hf
      refine lv_aload_n hx hb d_SC_add_29 rfl (lv_at hl 1 rfl) ?_
      refine va_get (D := D) (ci := 0) (v := .ref (a 1)) (C := R_SC) (T := T_SC) (N := 6) hx hb hg in_SC hown hK hP 0 rfl rfl 0 (by decide) (hg _ gw_165) (fun _ h9 => h9) rfl d_SC_add_30 ?_
      refine lv_iload hx hb d_SC_add_33 (lv_at hl 0 rfl) ?_
      refine lv_iconst (v := (1 : Int32)) hx hb d_SC_add_35 (by decide) ?_
      refine lv_iadd hx hb d_SC_add_36 ?_
      refine bdK hf (fun σ7 h8 hf => ?_)
      refine rc_Vv (As := [.int (q1.1 + (1 : Int32))]) (rest := []) (b := a 1) (stC_g t) F (c_RC_resize l ha (q1.1 + (1 : Int32)) q4.2 σ7 h8) (cwV 1 hg gc_SC_62 rfl rfl rfl hs_RC_resize ⟨Nat.le_of_ble_eq_true rfl, Nat.le_of_ble_eq_true rfl⟩) hK hT hP hS (va_recv hK hP (ci := 1) (q0 := 1) rfl rfl) rfl hl.1 rfl (Nat.le_of_ble_eq_true rfl) d_SC_add_37 ⟨Nat.zero_le _, Nat.zero_le _⟩ (fun H locs hP hS => ?_)
      refine lv_aload_n hx hb d_SC_add_40 rfl (lv_at hl 1 rfl) ?_
      refine va_get (D := D) (ci := 0) (v := .ref (a 1)) (C := R_SC) (T := T_SC) (N := 6) hx hb hg in_SC hown hK hP 0 rfl rfl 0 (by decide) (hg _ gw_165) (fun _ h9 => h9) rfl d_SC_add_41 ?_
      refine lv_iload hx hb d_SC_add_44 (lv_at hl 0 rfl) ?_
      refine lv_iload_n hx hb d_SC_add_46 rfl (lv_at hl 2 rfl) ?_
      refine lv_iload_n hx hb d_SC_add_47 rfl (lv_at hl 3 rfl) ?_
      refine lv_iload_n hx hb d_SC_add_48 rfl (lv_at hl 4 rfl) ?_
      refine lv_iload hx hb d_SC_add_49 (lv_at hl 5 rfl) ?_
      refine bdK hf (fun σ9 h10 hf => ?_)
      refine rc_Vv (As := [.int q1.1, .int x1, .int x2, .int x3, .int x4]) (rest := []) (b := a 1) (stC_g t) F (c_RC_write l ha q1.1 x1 x2 x3 x4 σ7 σ9 h10) (cwV 5 hg gc_SC_66 rfl rfl rfl hs_RC_write ⟨Nat.le_of_ble_eq_true rfl, Nat.le_of_ble_eq_true rfl⟩) hK hT hP hS (va_recv hK hP (ci := 1) (q0 := 1) rfl rfl) rfl hl.1 rfl (Nat.le_of_ble_eq_true rfl) d_SC_add_51 ⟨Nat.zero_le _, Nat.zero_le _⟩ (fun H locs hP hS => ?_)
      refine lv_aload_n hx hb d_SC_add_54 rfl (lv_at hl 1 rfl) ?_
      refine lv_iconst (v := (1 : Int32)) hx hb d_SC_add_55 (by decide) ?_
      refine bdK hf (fun σ11 h12 hf => ?_)
      refine va_put (D := D) (ci := 0) (v := .int (1 : Int32)) (ty := .boolean) (C := R_SC) (T := T_SC) (N := 6) hx hb hg in_SC t_SC t_SC_ok n_SC hown hK hP (dC ha σ9) hS 0 rfl rfl 5 (by decide) (hg _ gw_170) (fun _ h9 => h9) rfl (by decide +kernel) rfl rfl (Nat.le_of_ble_eq_true rfl) d_SC_add_56 (fun H locs hP _ hS => ?_)
      replace hP := sf_P (wf := (wC a cI cZ)) h12 hP rfl
      refine lv_iload hx hb d_SC_add_59 (lv_at hl 0 rfl) ?_
      exact rr_i hx hb hr hlk (stC_g t) hK hT hP hS hf d_SC_add_61
    · replace hf := (if_pos c6).symm.trans hf
      refine lv_iconst (v := (-1 : Int32)) hx hb d_SC_add_27 (by decide) ?_
      exact rr_i hx hb hr hlk (stC_g t) hK hT hP hS hf d_SC_add_28
set_option maxHeartbeats 4000000 in
set_option maxRecDepth 100000 in
theorem c_SC_add (l : Launch) {D : va_G} {a t : Nat → Nat} {cI cZ : ClassId} (ha : aCC a) (x1 x2 x3 x4 : Int32) (σ : SS) (q : Int32 × SS) (hf : f_SC_add x1 x2 x3 x4 σ = some q) : Met l y_SC_add ws_SC_add { frames := 2, cells := 0, slots := 0, locals := 44 } (va_Pc [.ref (a 0), .int x1, .int x2, .int x3, .int x4] (pW D (wC a cI cZ) [(cI, .int), (cZ, .boolean)] (stC t) (aC a) σ)) (va_Qi (fun r u => r = q.1 ∧ u = q.2) (pW D (wC a cI cZ) [(cI, .int), (cZ, .boolean)] (stC t) (aC a)) (aC a)) 0 0 (aC a) := by
  refine Met.ofW (cc := b_SC_add) (maxL := 6) (ret := some .int) (by decide) rfl ?_
  intro p e s m args below meth c s₁ B hml hv
  obtain ⟨rfl, hP, hK, hT⟩ := hv
  have hl := lv_entry ([.ref (a 0), .int x1, .int x2, .int x3, .int x4]) (n := 6) (Nat.le_of_ble_eq_true rfl)
  rw [lg_entry_eq]
  generalize (lg_sl ([.ref (a 0), .int x1, .int x2, .int x3, .int x4]) ++ List.replicate (6 - (lg_sl ([.ref (a 0), .int x1, .int x2, .int x3, .int x4])).length) Slot.unset).toArray = ls at hl ⊢
  exact e_SC_add ha ⟨B.exec, B.bytes, hml, findClass_of_methodNamed B.named, fun w h => atoms_spec (ws := ws_SC_add) B.pre w (List.mem_cons_of_mem _ h)⟩ B.returns B.notSynchronized hK hT x1 x2 x3 x4 σ q hf s.heap [] hP va_S.rf ls hl
theorem d_RC_holds_0 : decode b_RC_holds 0 = .ok (.iload_n 1, 1) := by decide +kernel
theorem d_RC_holds_1 : decode b_RC_holds 1 = .ok (.ifCond .lt 15, 3) := by decide +kernel
theorem d_RC_holds_4 : decode b_RC_holds 4 = .ok (.iload_n 1, 1) := by decide +kernel
theorem d_RC_holds_5 : decode b_RC_holds 5 = .ok (.aload_n 0, 1) := by decide +kernel
theorem d_RC_holds_6 : decode b_RC_holds 6 = .ok (.getfield 46, 3) := by decide +kernel
theorem d_RC_holds_9 : decode b_RC_holds 9 = .ok (.if_icmp .ge 7, 3) := by decide +kernel
theorem d_RC_holds_12 : decode b_RC_holds 12 = .ok (.iconst 1, 1) := by decide +kernel
theorem d_RC_holds_13 : decode b_RC_holds 13 = .ok (.goto 4, 3) := by decide +kernel
theorem d_RC_holds_16 : decode b_RC_holds 16 = .ok (.iconst 0, 1) := by decide +kernel
theorem d_RC_holds_17 : decode b_RC_holds 17 = .ok (.ireturn, 1) := by decide +kernel
def f_RC_holds (x1 : Int32) (σ : SS) : Option (Int32 × SS) :=
  (if x1 < 0 then some ((0 : Int32), σ) else (if (σ 25 0) ≤ x1 then some ((0 : Int32), σ) else some ((1 : Int32), σ)))
set_option maxHeartbeats 4000000 in
set_option maxRecDepth 100000 in
theorem e_RC_holds {p : Program} {l : Launch} {e : Env} {s : State} {m : MethodId} {args : Array Value} {below : List Frame} {meth : Method} {c : Code} {D : va_G} {a t : Nat → Nat} {cI cZ : ClassId} (ha : aCC a) (F : CallFix p m c b_RC_holds 2 s args gt R_RC) (hr : meth.sig.returnType = some .boolean) (hlk : meth.locks = false) (hK : va_K D vwCl [(cI, .int), (cZ, .boolean)] s) (hT : stC t (aC a) s s.heap) :
    ∀ (x1 : Int32) (σ : SS) (q : Int32 × SS), f_RC_holds x1 σ = some q → ∀ (H : Heap) (locs : List Loc), va_P D vwCl ((wC a cI cZ) σ) H → va_S (aC a) s.heap H locs → ∀ (ls : Array Slot), lv_has ls 2 [(0, .ref (a 1)), (1, .int x1)] → W p l e { frames := 0, cells := 0, slots := 0, locals := 0 } s m args below meth c H locs 0 0 (MQ below (va_Qi (fun r u => r = q.1 ∧ u = q.2) (pW D (wC a cI cZ) [(cI, .int), (cZ, .boolean)] (stC t) (aC a)) (aC a)) args s 0 0 (aC a)) (F0 m 0 ls []) := by
  obtain ⟨hx, hb, hml, hown, hg⟩ := id F
  intro x1 σ q hf H locs hP hS ls hl
  unfold f_RC_holds at hf
  refine lv_iload_n hx hb d_RC_holds_0 rfl (lv_at hl 1 rfl) ?_
  refine lv_if_lt (tgt := 16) hx hb d_RC_holds_1 (by decide) (fun c1 => ?_) (fun c1 => ?_)
  · replace hf := (if_pos c1).symm.trans hf
    refine lv_iconst (v := (0 : Int32)) hx hb d_RC_holds_16 (by decide) ?_
    exact rr_z hx hb hr hlk (stC_g t) hK hT hP hS (Or.inl rfl) hf d_RC_holds_17
  · replace hf := (if_neg c1).symm.trans hf
    refine lv_iload_n hx hb d_RC_holds_4 rfl (lv_at hl 1 rfl) ?_
    refine lv_aload_n hx hb d_RC_holds_5 rfl (lv_at hl 0 rfl) ?_
    refine va_get (D := D) (ci := 1) (v := .int (σ 25 0)) (C := R_RC) (T := T_RC) (N := 8) hx hb hg in_RC hown hK hP 1 rfl rfl 7 (by decide) (hg _ gw_30) (fun _ h9 => h9) rfl d_RC_holds_6 ?_
    refine lv_icmp_ge (tgt := 16) hx hb d_RC_holds_9 (by decide) (fun c2 => ?_) (fun c2 => ?_)
    · replace hf := (if_pos c2).symm.trans hf
      refine lv_iconst (v := (0 : Int32)) hx hb d_RC_holds_16 (by decide) ?_
      exact rr_z hx hb hr hlk (stC_g t) hK hT hP hS (Or.inl rfl) hf d_RC_holds_17
    · replace hf := (if_neg c2).symm.trans hf
      refine lv_iconst (v := (1 : Int32)) hx hb d_RC_holds_12 (by decide) ?_
      refine lv_goto (tgt := 17) hx hb d_RC_holds_13 (by decide) ?_
      exact rr_z hx hb hr hlk (stC_g t) hK hT hP hS (Or.inr rfl) hf d_RC_holds_17
set_option maxHeartbeats 4000000 in
set_option maxRecDepth 100000 in
theorem c_RC_holds (l : Launch) {D : va_G} {a t : Nat → Nat} {cI cZ : ClassId} (ha : aCC a) (x1 : Int32) (σ : SS) (q : Int32 × SS) (hf : f_RC_holds x1 σ = some q) : Met l y_RC_holds ws_RC_holds { frames := 0, cells := 0, slots := 0, locals := 0 } (va_Pc [.ref (a 1), .int x1] (pW D (wC a cI cZ) [(cI, .int), (cZ, .boolean)] (stC t) (aC a) σ)) (va_Qi (fun r u => r = q.1 ∧ u = q.2) (pW D (wC a cI cZ) [(cI, .int), (cZ, .boolean)] (stC t) (aC a)) (aC a)) 0 0 (aC a) := by
  refine Met.ofW (cc := b_RC_holds) (maxL := 2) (ret := some .boolean) (by decide) rfl ?_
  intro p e s m args below meth c s₁ B hml hv
  obtain ⟨rfl, hP, hK, hT⟩ := hv
  have hl := lv_entry ([.ref (a 1), .int x1]) (n := 2) (Nat.le_of_ble_eq_true rfl)
  rw [lg_entry_eq]
  generalize (lg_sl ([.ref (a 1), .int x1]) ++ List.replicate (2 - (lg_sl ([.ref (a 1), .int x1])).length) Slot.unset).toArray = ls at hl ⊢
  exact e_RC_holds ha ⟨B.exec, B.bytes, hml, findClass_of_methodNamed B.named, fun w h => atoms_spec (ws := ws_RC_holds) B.pre w (List.mem_cons_of_mem _ h)⟩ B.returns B.notSynchronized hK hT x1 σ q hf s.heap [] hP va_S.rf ls hl
theorem d_SC_set_0 : decode b_SC_set 0 = .ok (.aload_n 0, 1) := by decide +kernel
theorem d_SC_set_1 : decode b_SC_set 1 = .ok (.getfield 12, 3) := by decide +kernel
theorem d_SC_set_4 : decode b_SC_set 4 = .ok (.iload_n 1, 1) := by decide +kernel
theorem d_SC_set_5 : decode b_SC_set 5 = .ok (.invokevirtual 70, 3) := by decide +kernel
theorem d_SC_set_8 : decode b_SC_set 8 = .ok (.ifCond .eq 15, 3) := by decide +kernel
theorem d_SC_set_11 : decode b_SC_set 11 = .ok (.iload_n 2, 1) := by decide +kernel
theorem d_SC_set_12 : decode b_SC_set 12 = .ok (.iload_n 3, 1) := by decide +kernel
theorem d_SC_set_13 : decode b_SC_set 13 = .ok (.iload 4, 2) := by decide +kernel
theorem d_SC_set_15 : decode b_SC_set 15 = .ok (.iload 5, 2) := by decide +kernel
theorem d_SC_set_17 : decode b_SC_set 17 = .ok (.invokestatic 58, 3) := by decide +kernel
theorem d_SC_set_20 : decode b_SC_set 20 = .ok (.ifCond .ne 5, 3) := by decide +kernel
theorem d_SC_set_23 : decode b_SC_set 23 = .ok (.iconst 0, 1) := by decide +kernel
theorem d_SC_set_24 : decode b_SC_set 24 = .ok (.ireturn, 1) := by decide +kernel
theorem d_SC_set_25 : decode b_SC_set 25 = .ok (.aload_n 0, 1) := by decide +kernel
theorem d_SC_set_26 : decode b_SC_set 26 = .ok (.getfield 12, 3) := by decide +kernel
theorem d_SC_set_29 : decode b_SC_set 29 = .ok (.iload_n 1, 1) := by decide +kernel
theorem d_SC_set_30 : decode b_SC_set 30 = .ok (.iload_n 2, 1) := by decide +kernel
theorem d_SC_set_31 : decode b_SC_set 31 = .ok (.iload_n 3, 1) := by decide +kernel
theorem d_SC_set_32 : decode b_SC_set 32 = .ok (.iload 4, 2) := by decide +kernel
theorem d_SC_set_34 : decode b_SC_set 34 = .ok (.iload 5, 2) := by decide +kernel
theorem d_SC_set_36 : decode b_SC_set 36 = .ok (.invokevirtual 66, 3) := by decide +kernel
theorem d_SC_set_39 : decode b_SC_set 39 = .ok (.aload_n 0, 1) := by decide +kernel
theorem d_SC_set_40 : decode b_SC_set 40 = .ok (.iconst 1, 1) := by decide +kernel
theorem d_SC_set_41 : decode b_SC_set 41 = .ok (.putfield 50, 3) := by decide +kernel
theorem d_SC_set_44 : decode b_SC_set 44 = .ok (.iconst 1, 1) := by decide +kernel
theorem d_SC_set_45 : decode b_SC_set 45 = .ok (.ireturn, 1) := by decide +kernel
theorem gc_SC_70 : GoodIn gt (wsV R_SC 70 R_RC y_RC_holds ws_RC_holds) := gd_V gw_216 gw_217 gw_218 gw_2 gw_219
def f_SC_set (x1 x2 x3 x4 x5 : Int32) (σ : SS) : Option (Int32 × SS) :=
  (f_RC_holds x1 σ).bind fun q1 => (if q1.1 = 0 then some ((0 : Int32), q1.2) else (f_RC_fits x2 x3 x4 x5 q1.2).bind fun q4 => (if q4.1 = 0 then some ((0 : Int32), q4.2) else (f_RC_write x1 x2 x3 x4 x5 q4.2).bind fun σ7 => (sf σ7 24 (1 : Int32)).bind fun σ9 => some ((1 : Int32), σ9)))
set_option maxHeartbeats 4000000 in
set_option maxRecDepth 100000 in
theorem e_SC_set {p : Program} {l : Launch} {e : Env} {s : State} {m : MethodId} {args : Array Value} {below : List Frame} {meth : Method} {c : Code} {D : va_G} {a t : Nat → Nat} {cI cZ : ClassId} (ha : aCC a) (F : CallFix p m c b_SC_set 6 s args gt R_SC) (hr : meth.sig.returnType = some .boolean) (hlk : meth.locks = false) (hK : va_K D vwCl [(cI, .int), (cZ, .boolean)] s) (hT : stC t (aC a) s s.heap) :
    ∀ (x1 x2 x3 x4 x5 : Int32) (σ : SS) (q : Int32 × SS), f_SC_set x1 x2 x3 x4 x5 σ = some q → ∀ (H : Heap) (locs : List Loc), va_P D vwCl ((wC a cI cZ) σ) H → va_S (aC a) s.heap H locs → ∀ (ls : Array Slot), lv_has ls 6 [(0, .ref (a 0)), (1, .int x1), (2, .int x2), (3, .int x3), (4, .int x4), (5, .int x5)] → W p l e { frames := 2, cells := 0, slots := 0, locals := 44 } s m args below meth c H locs 0 0 (MQ below (va_Qi (fun r u => r = q.1 ∧ u = q.2) (pW D (wC a cI cZ) [(cI, .int), (cZ, .boolean)] (stC t) (aC a)) (aC a)) args s 0 0 (aC a)) (F0 m 0 ls []) := by
  obtain ⟨hx, hb, hml, hown, hg⟩ := id F
  intro x1 x2 x3 x4 x5 σ q hf H locs hP hS ls hl
  unfold f_SC_set at hf
  refine lv_aload_n hx hb d_SC_set_0 rfl (lv_at hl 0 rfl) ?_
  refine va_get (D := D) (ci := 0) (v := .ref (a 1)) (C := R_SC) (T := T_SC) (N := 6) hx hb hg in_SC hown hK hP 0 rfl rfl 0 (by decide) (hg _ gw_165) (fun _ h9 => h9) rfl d_SC_set_1 ?_
  refine lv_iload_n hx hb d_SC_set_4 rfl (lv_at hl 1 rfl) ?_
  refine bdK hf (fun q1 h2 hf => ?_)
  refine rc_Vi (As := [.int x1]) (rest := []) (b := a 1) (stC_g t) F (c_RC_holds l ha x1 σ q1 h2) (cwV 1 hg gc_SC_70 rfl rfl rfl hs_RC_holds ⟨Nat.le_of_ble_eq_true rfl, Nat.le_of_ble_eq_true rfl⟩) hK hT hP hS (va_recv hK hP (ci := 1) (q0 := 1) rfl rfl) rfl hl.1 rfl (Nat.le_of_ble_eq_true rfl) d_SC_set_5 ⟨Nat.zero_le _, Nat.zero_le _⟩ (fun H locs hP hS => ?_)
  refine lv_if_eq (tgt := 23) hx hb d_SC_set_8 (by decide) (fun c3 => ?_) (fun c3 => ?_)
  · replace hf := (if_pos c3).symm.trans hf
    refine lv_iconst (v := (0 : Int32)) hx hb d_SC_set_23 (by decide) ?_
    exact rr_z hx hb hr hlk (stC_g t) hK hT hP hS (Or.inl rfl) hf d_SC_set_24
  · replace hf := (if_neg c3).symm.trans hf
    refine lv_iload_n hx hb d_SC_set_11 rfl (lv_at hl 2 rfl) ?_
    refine lv_iload_n hx hb d_SC_set_12 rfl (lv_at hl 3 rfl) ?_
    refine lv_iload hx hb d_SC_set_13 (lv_at hl 4 rfl) ?_
    refine lv_iload hx hb d_SC_set_15 (lv_at hl 5 rfl) ?_
    refine bdK hf (fun q4 h5 hf => ?_)
    refine rc_Si (As := [.int x2, .int x3, .int x4, .int x5]) (rest := []) (stC_g t) F (c_RC_fits l ha x2 x3 x4 x5 q1.2 q4 h5) (va_cwS 4 hg gc_SC_58 rfl rfl rfl ht_RC_fits ⟨Nat.le_of_ble_eq_true rfl, Nat.le_of_ble_eq_true rfl⟩) hK hT hP hS rfl hl.1 rfl (Nat.le_of_ble_eq_true rfl) d_SC_set_17 ⟨Nat.zero_le _, Nat.zero_le _⟩ (fun H locs hP hS => ?_)
    refine lv_if_ne (tgt := 25) hx hb d_SC_set_20 (by decide) (fun c6 => ?_) (fun c6 => ?_)
    · replace hf := (if_neg c6).symm.trans hf
      refine lv_aload_n hx hb d_SC_set_25 rfl (lv_at hl 0 rfl) ?_
      refine va_get (D := D) (ci := 0) (v := .ref (a 1)) (C := R_SC) (T := T_SC) (N := 6) hx hb hg in_SC hown hK hP 0 rfl rfl 0 (by decide) (hg _ gw_165) (fun _ h9 => h9) rfl d_SC_set_26 ?_
      refine lv_iload_n hx hb d_SC_set_29 rfl (lv_at hl 1 rfl) ?_
      refine lv_iload_n hx hb d_SC_set_30 rfl (lv_at hl 2 rfl) ?_
      refine lv_iload_n hx hb d_SC_set_31 rfl (lv_at hl 3 rfl) ?_
      refine lv_iload hx hb d_SC_set_32 (lv_at hl 4 rfl) ?_
      refine lv_iload hx hb d_SC_set_34 (lv_at hl 5 rfl) ?_
      refine bdK hf (fun σ7 h8 hf => ?_)
      refine rc_Vv (As := [.int x1, .int x2, .int x3, .int x4, .int x5]) (rest := []) (b := a 1) (stC_g t) F (c_RC_write l ha x1 x2 x3 x4 x5 q4.2 σ7 h8) (cwV 5 hg gc_SC_66 rfl rfl rfl hs_RC_write ⟨Nat.le_of_ble_eq_true rfl, Nat.le_of_ble_eq_true rfl⟩) hK hT hP hS (va_recv hK hP (ci := 1) (q0 := 1) rfl rfl) rfl hl.1 rfl (Nat.le_of_ble_eq_true rfl) d_SC_set_36 ⟨Nat.zero_le _, Nat.zero_le _⟩ (fun H locs hP hS => ?_)
      refine lv_aload_n hx hb d_SC_set_39 rfl (lv_at hl 0 rfl) ?_
      refine lv_iconst (v := (1 : Int32)) hx hb d_SC_set_40 (by decide) ?_
      refine bdK hf (fun σ9 h10 hf => ?_)
      refine va_put (D := D) (ci := 0) (v := .int (1 : Int32)) (ty := .boolean) (C := R_SC) (T := T_SC) (N := 6) hx hb hg in_SC t_SC t_SC_ok n_SC hown hK hP (dC ha σ7) hS 0 rfl rfl 5 (by decide) (hg _ gw_170) (fun _ h9 => h9) rfl (by decide +kernel) rfl rfl (Nat.le_of_ble_eq_true rfl) d_SC_set_41 (fun H locs hP _ hS => ?_)
      replace hP := sf_P (wf := (wC a cI cZ)) h10 hP rfl
      refine lv_iconst (v := (1 : Int32)) hx hb d_SC_set_44 (by decide) ?_
      exact rr_z hx hb hr hlk (stC_g t) hK hT hP hS (Or.inr rfl) hf d_SC_set_45
    · replace hf := (if_pos c6).symm.trans hf
      refine lv_iconst (v := (0 : Int32)) hx hb d_SC_set_23 (by decide) ?_
      exact rr_z hx hb hr hlk (stC_g t) hK hT hP hS (Or.inl rfl) hf d_SC_set_24
set_option maxHeartbeats 4000000 in
set_option maxRecDepth 100000 in
theorem c_SC_set (l : Launch) {D : va_G} {a t : Nat → Nat} {cI cZ : ClassId} (ha : aCC a) (x1 x2 x3 x4 x5 : Int32) (σ : SS) (q : Int32 × SS) (hf : f_SC_set x1 x2 x3 x4 x5 σ = some q) : Met l y_SC_set ws_SC_set { frames := 2, cells := 0, slots := 0, locals := 44 } (va_Pc [.ref (a 0), .int x1, .int x2, .int x3, .int x4, .int x5] (pW D (wC a cI cZ) [(cI, .int), (cZ, .boolean)] (stC t) (aC a) σ)) (va_Qi (fun r u => r = q.1 ∧ u = q.2) (pW D (wC a cI cZ) [(cI, .int), (cZ, .boolean)] (stC t) (aC a)) (aC a)) 0 0 (aC a) := by
  refine Met.ofW (cc := b_SC_set) (maxL := 6) (ret := some .boolean) (by decide) rfl ?_
  intro p e s m args below meth c s₁ B hml hv
  obtain ⟨rfl, hP, hK, hT⟩ := hv
  have hl := lv_entry ([.ref (a 0), .int x1, .int x2, .int x3, .int x4, .int x5]) (n := 6) (Nat.le_of_ble_eq_true rfl)
  rw [lg_entry_eq]
  generalize (lg_sl ([.ref (a 0), .int x1, .int x2, .int x3, .int x4, .int x5]) ++ List.replicate (6 - (lg_sl ([.ref (a 0), .int x1, .int x2, .int x3, .int x4, .int x5])).length) Slot.unset).toArray = ls at hl ⊢
  exact e_SC_set ha ⟨B.exec, B.bytes, hml, findClass_of_methodNamed B.named, fun w h => atoms_spec (ws := ws_SC_set) B.pre w (List.mem_cons_of_mem _ h)⟩ B.returns B.notSynchronized hK hT x1 x2 x3 x4 x5 σ q hf s.heap [] hP va_S.rf ls hl
theorem d_SC_cut_0 : decode b_SC_cut 0 = .ok (.iload_n 1, 1) := by decide +kernel
theorem d_SC_cut_1 : decode b_SC_cut 1 = .ok (.ifCond .lt 14, 3) := by decide +kernel
theorem d_SC_cut_4 : decode b_SC_cut 4 = .ok (.iload_n 1, 1) := by decide +kernel
theorem d_SC_cut_5 : decode b_SC_cut 5 = .ok (.aload_n 0, 1) := by decide +kernel
theorem d_SC_cut_6 : decode b_SC_cut 6 = .ok (.getfield 12, 3) := by decide +kernel
theorem d_SC_cut_9 : decode b_SC_cut 9 = .ok (.invokevirtual 54, 3) := by decide +kernel
theorem d_SC_cut_12 : decode b_SC_cut 12 = .ok (.if_icmp .le 5, 3) := by decide +kernel
theorem d_SC_cut_15 : decode b_SC_cut 15 = .ok (.iconst 0, 1) := by decide +kernel
theorem d_SC_cut_16 : decode b_SC_cut 16 = .ok (.ireturn, 1) := by decide +kernel
theorem d_SC_cut_17 : decode b_SC_cut 17 = .ok (.aload_n 0, 1) := by decide +kernel
theorem d_SC_cut_18 : decode b_SC_cut 18 = .ok (.getfield 12, 3) := by decide +kernel
theorem d_SC_cut_21 : decode b_SC_cut 21 = .ok (.iload_n 1, 1) := by decide +kernel
theorem d_SC_cut_22 : decode b_SC_cut 22 = .ok (.invokevirtual 62, 3) := by decide +kernel
theorem d_SC_cut_25 : decode b_SC_cut 25 = .ok (.aload_n 0, 1) := by decide +kernel
theorem d_SC_cut_26 : decode b_SC_cut 26 = .ok (.iconst 1, 1) := by decide +kernel
theorem d_SC_cut_27 : decode b_SC_cut 27 = .ok (.putfield 50, 3) := by decide +kernel
theorem d_SC_cut_30 : decode b_SC_cut 30 = .ok (.iconst 1, 1) := by decide +kernel
theorem d_SC_cut_31 : decode b_SC_cut 31 = .ok (.ireturn, 1) := by decide +kernel
def f_SC_cut (x1 : Int32) (σ : SS) : Option (Int32 × SS) :=
  (if x1 < 0 then some ((0 : Int32), σ) else (f_RC_count σ).bind fun q2 => (if x1 ≤ q2.1 then (f_RC_resize x1 q2.2).bind fun σ5 => (sf σ5 24 (1 : Int32)).bind fun σ7 => some ((1 : Int32), σ7) else some ((0 : Int32), q2.2)))
set_option maxHeartbeats 4000000 in
set_option maxRecDepth 100000 in
theorem e_SC_cut {p : Program} {l : Launch} {e : Env} {s : State} {m : MethodId} {args : Array Value} {below : List Frame} {meth : Method} {c : Code} {D : va_G} {a t : Nat → Nat} {cI cZ : ClassId} (ha : aCC a) (F : CallFix p m c b_SC_cut 2 s args gt R_SC) (hr : meth.sig.returnType = some .boolean) (hlk : meth.locks = false) (hK : va_K D vwCl [(cI, .int), (cZ, .boolean)] s) (hT : stC t (aC a) s s.heap) :
    ∀ (x1 : Int32) (σ : SS) (q : Int32 × SS), f_SC_cut x1 σ = some q → ∀ (H : Heap) (locs : List Loc), va_P D vwCl ((wC a cI cZ) σ) H → va_S (aC a) s.heap H locs → ∀ (ls : Array Slot), lv_has ls 2 [(0, .ref (a 0)), (1, .int x1)] → W p l e { frames := 1, cells := 0, slots := 0, locals := 21 } s m args below meth c H locs 0 0 (MQ below (va_Qi (fun r u => r = q.1 ∧ u = q.2) (pW D (wC a cI cZ) [(cI, .int), (cZ, .boolean)] (stC t) (aC a)) (aC a)) args s 0 0 (aC a)) (F0 m 0 ls []) := by
  obtain ⟨hx, hb, hml, hown, hg⟩ := id F
  intro x1 σ q hf H locs hP hS ls hl
  unfold f_SC_cut at hf
  refine lv_iload_n hx hb d_SC_cut_0 rfl (lv_at hl 1 rfl) ?_
  refine lv_if_lt (tgt := 15) hx hb d_SC_cut_1 (by decide) (fun c1 => ?_) (fun c1 => ?_)
  · replace hf := (if_pos c1).symm.trans hf
    refine lv_iconst (v := (0 : Int32)) hx hb d_SC_cut_15 (by decide) ?_
    exact rr_z hx hb hr hlk (stC_g t) hK hT hP hS (Or.inl rfl) hf d_SC_cut_16
  · replace hf := (if_neg c1).symm.trans hf
    refine lv_iload_n hx hb d_SC_cut_4 rfl (lv_at hl 1 rfl) ?_
    refine lv_aload_n hx hb d_SC_cut_5 rfl (lv_at hl 0 rfl) ?_
    refine va_get (D := D) (ci := 0) (v := .ref (a 1)) (C := R_SC) (T := T_SC) (N := 6) hx hb hg in_SC hown hK hP 0 rfl rfl 0 (by decide) (hg _ gw_165) (fun _ h9 => h9) rfl d_SC_cut_6 ?_
    refine bdK hf (fun q2 h3 hf => ?_)
    refine rc_Vi (As := []) (rest := [.int x1]) (b := a 1) (stC_g t) F (c_RC_count l ha σ q2 h3) (cwV 0 hg gc_SC_54 rfl rfl rfl hs_RC_count ⟨Nat.le_of_ble_eq_true rfl, Nat.le_of_ble_eq_true rfl⟩) hK hT hP hS (va_recv hK hP (ci := 1) (q0 := 1) rfl rfl) rfl hl.1 rfl (Nat.le_of_ble_eq_true rfl) d_SC_cut_9 ⟨Nat.zero_le _, Nat.zero_le _⟩ (fun H locs hP hS => ?_)
    refine lv_icmp_le (tgt := 17) hx hb d_SC_cut_12 (by decide) (fun c4 => ?_) (fun c4 => ?_)
    · replace hf := (if_pos c4).symm.trans hf
      refine lv_aload_n hx hb d_SC_cut_17 rfl (lv_at hl 0 rfl) ?_
      refine va_get (D := D) (ci := 0) (v := .ref (a 1)) (C := R_SC) (T := T_SC) (N := 6) hx hb hg in_SC hown hK hP 0 rfl rfl 0 (by decide) (hg _ gw_165) (fun _ h9 => h9) rfl d_SC_cut_18 ?_
      refine lv_iload_n hx hb d_SC_cut_21 rfl (lv_at hl 1 rfl) ?_
      refine bdK hf (fun σ5 h6 hf => ?_)
      refine rc_Vv (As := [.int x1]) (rest := []) (b := a 1) (stC_g t) F (c_RC_resize l ha x1 q2.2 σ5 h6) (cwV 1 hg gc_SC_62 rfl rfl rfl hs_RC_resize ⟨Nat.le_of_ble_eq_true rfl, Nat.le_of_ble_eq_true rfl⟩) hK hT hP hS (va_recv hK hP (ci := 1) (q0 := 1) rfl rfl) rfl hl.1 rfl (Nat.le_of_ble_eq_true rfl) d_SC_cut_22 ⟨Nat.zero_le _, Nat.zero_le _⟩ (fun H locs hP hS => ?_)
      refine lv_aload_n hx hb d_SC_cut_25 rfl (lv_at hl 0 rfl) ?_
      refine lv_iconst (v := (1 : Int32)) hx hb d_SC_cut_26 (by decide) ?_
      refine bdK hf (fun σ7 h8 hf => ?_)
      refine va_put (D := D) (ci := 0) (v := .int (1 : Int32)) (ty := .boolean) (C := R_SC) (T := T_SC) (N := 6) hx hb hg in_SC t_SC t_SC_ok n_SC hown hK hP (dC ha σ5) hS 0 rfl rfl 5 (by decide) (hg _ gw_170) (fun _ h9 => h9) rfl (by decide +kernel) rfl rfl (Nat.le_of_ble_eq_true rfl) d_SC_cut_27 (fun H locs hP _ hS => ?_)
      replace hP := sf_P (wf := (wC a cI cZ)) h8 hP rfl
      refine lv_iconst (v := (1 : Int32)) hx hb d_SC_cut_30 (by decide) ?_
      exact rr_z hx hb hr hlk (stC_g t) hK hT hP hS (Or.inr rfl) hf d_SC_cut_31
    · replace hf := (if_neg c4).symm.trans hf
      refine lv_iconst (v := (0 : Int32)) hx hb d_SC_cut_15 (by decide) ?_
      exact rr_z hx hb hr hlk (stC_g t) hK hT hP hS (Or.inl rfl) hf d_SC_cut_16
set_option maxHeartbeats 4000000 in
set_option maxRecDepth 100000 in
theorem c_SC_cut (l : Launch) {D : va_G} {a t : Nat → Nat} {cI cZ : ClassId} (ha : aCC a) (x1 : Int32) (σ : SS) (q : Int32 × SS) (hf : f_SC_cut x1 σ = some q) : Met l y_SC_cut ws_SC_cut { frames := 1, cells := 0, slots := 0, locals := 21 } (va_Pc [.ref (a 0), .int x1] (pW D (wC a cI cZ) [(cI, .int), (cZ, .boolean)] (stC t) (aC a) σ)) (va_Qi (fun r u => r = q.1 ∧ u = q.2) (pW D (wC a cI cZ) [(cI, .int), (cZ, .boolean)] (stC t) (aC a)) (aC a)) 0 0 (aC a) := by
  refine Met.ofW (cc := b_SC_cut) (maxL := 2) (ret := some .boolean) (by decide) rfl ?_
  intro p e s m args below meth c s₁ B hml hv
  obtain ⟨rfl, hP, hK, hT⟩ := hv
  have hl := lv_entry ([.ref (a 0), .int x1]) (n := 2) (Nat.le_of_ble_eq_true rfl)
  rw [lg_entry_eq]
  generalize (lg_sl ([.ref (a 0), .int x1]) ++ List.replicate (2 - (lg_sl ([.ref (a 0), .int x1])).length) Slot.unset).toArray = ls at hl ⊢
  exact e_SC_cut ha ⟨B.exec, B.bytes, hml, findClass_of_methodNamed B.named, fun w h => atoms_spec (ws := ws_SC_cut) B.pre w (List.mem_cons_of_mem _ h)⟩ B.returns B.notSynchronized hK hT x1 σ q hf s.heap [] hP va_S.rf ls hl
