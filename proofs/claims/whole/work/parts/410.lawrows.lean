-- ===== two systems side by side: a call on one leaves the other =====
section RL
variable {p : Program} {l : Launch} {e : Env} {R : Room} {s : State} {m : MethodId} {args : Array Value} {below : List Frame} {meth : Method} {c : Code} {H : Heap} {locs : List Loc} {cells slots : Nat} {Q : State → Prop}
variable {cc : ByteArray} {pc nL : Nat} {ls : Array Slot} {rest st0 : List Value} {D : va_G} {A B : Nat → Prop} {tys : List (ClassId × FieldType)} {wf wg : SS → va_W} {st : (Nat → Prop) → State → Heap → Prop} {σ τ : SS}
theorem pW_atL {U : State} (hg : stG st) (hK : va_K D vwCl tys s) (hT : st A s s.heap) (hP : va_P D vwCl (wf σ) H) (hS : va_S (fun q : Nat => s.heap.size ≤ q) s.heap H locs) (hU : U.heap = H) (hW : s.vm.Alike U.vm) : pW D wf tys st A σ U := by
  refine ⟨by rw [hU]; exact hP, va_K.moved hW hK, ?_⟩
  refine hg.1 A s U _ hW (hg.2 A s s.heap _ (fun q h1 _ => ?_) hT)
  rw [hU]
  exact hS.2.1 q h1 (Nat.not_le.mpr h1)
/-- a call on the system wf, beside wg -/
theorem rl_i {y : MethodName} {bytes : ByteArray} {maxL n index : Nat} {ret : Option FieldType} {wsC : List Cond} {rm : Room} {Ts : List Cond} {own C : String} {b : Nat} {As : List Value} {q : Int32 × SS} (hg : stG st) (F : CallFix p m c cc nL s args Ts own) (hM : Met l y wsC rm (va_Pc (.ref b :: As) (pW D wf tys st A σ)) (va_Qi (fun r u => r = q.1 ∧ u = q.2) (pW D wf tys st A) A) 0 0 A) (cw : CallW R s args own C index y bytes maxL ret wsC rm 0 0 n) (hK : va_K D vwCl tys s) (hT : st A s s.heap) (hP : va_P D vwCl (wf σ) H) (hP2 : va_P D vwCl (wg τ) H) (hS : va_S (fun q : Nat => s.heap.size ≤ q) s.heap H locs) (hAn : ∀ q, A q → s.heap.size ≤ q) (hap : ∀ (k : Nat) (q : Nat × va_E), (wg τ)[k]? = some q → ¬ A q.1) (hrc : ∃ cell : Cell, H[b]? = some cell ∧ cell.vm.isStatics = false ∧ s.vm.findClass C = some cell.cls) (hn : As.length = n) (hsz : ls.size = nL) (hst : st0 = As.reverse ++ .ref b :: rest) (hW : (rest.map fun v => v.category).sum ≤ 8) (hdg : decode cc pc = .ok (.invokevirtual index, 3)) (hcs : cells + 0 ≤ R.cells ∧ slots + 0 ≤ R.slots)
    (kk : ∀ (H1 : Heap) (locs1 : List Loc), va_P D vwCl (wf q.2) H1 → va_P D vwCl (wg τ) H1 → va_S (fun q : Nat => s.heap.size ≤ q) s.heap H1 locs1 → W p l e R s m args below meth c H1 locs1 cells slots Q (F0 m (pc + 3) ls (.int q.1 :: rest))) : W p l e R s m args below meth c H locs cells slots Q (F0 m pc ls st0) := by
  refine va_calli (va_runV (As := As) (rest := rest) (b := b) F hM cw ⟨pW_blind hg, hrc, fun U hU hW => ⟨rfl, pW_atL hg hK hT hP hS hU hW.alike⟩⟩ rfl hn hsz hst (lv_room hW) hdg hcs) hS (fun q _ h => hAn q h) (fun q h => hAn q h) (fun r u t H1 locs1 ht hvm hw hB hz1 hk1 hS1 => ?_)
  obtain ⟨rfl, rfl⟩ := hw
  exact kk H1 locs1 (by rw [← ht]; exact hB.1) (hP2.kept (fun k q hq => hk1 q.1 (hP2 k q hq).lt (hap k q hq))) hS1
end RL
theorem at_of {a : Nat → Nat} {n k : Nat} {ws : va_W} {q : Nat × va_E} (h : ws.map (fun q => q.1) = (List.range n).map a) (hk : ws[k]? = some q) : k < n ∧ q.1 = a k := by
  have h1 : (ws.map (fun q => q.1))[k]? = some q.1 := by rw [List.getElem?_map, hk]; rfl
  rw [h, List.getElem?_map] at h1
  by_cases hl : k < n
  · rw [List.getElem?_range hl] at h1
    exact ⟨hl, (Option.some.inj h1).symm⟩
  · rw [List.getElem?_eq_none (by rw [List.length_range]; omega)] at h1
    cases h1
theorem at_to {a : Nat → Nat} {n k : Nat} {ws : va_W} (h : ws.map (fun q => q.1) = (List.range n).map a) (hk : k < n) : ∃ q, ws[k]? = some q ∧ q.1 = a k := by
  have h1 : (ws.map (fun q => q.1))[k]? = some (a k) := by rw [h, List.getElem?_map, List.getElem?_range hk]; rfl
  rw [List.getElem?_map] at h1
  cases hq : ws[k]? with
  | none => rw [hq] at h1; cases h1
  | some q => rw [hq] at h1; exact ⟨q, rfl, Option.some.inj h1⟩
theorem ap_of {A : Nat → Prop} {a : Nat → Nat} {n : Nat} {ws : va_W} (h : ws.map (fun q => q.1) = (List.range n).map a) (hD : va_D A ws) : (∀ i j, i < n → j < n → a i = a j → i = j) ∧ ∀ k, k < n → A (a k) := by
  refine ⟨fun i j hi hj e => ?_, fun k hk => ?_⟩
  · obtain ⟨p, h1, h2⟩ := at_to h hi
    obtain ⟨q, h3, h4⟩ := at_to h hj
    exact hD.1 i j p q h1 h3 (by rw [h2, h4]; exact e)
  · obtain ⟨p, h1, h2⟩ := at_to h hk
    rw [← h2]
    exact hD.2 k p h1
theorem arr_cI {args : Array Value} {s : State} (h : (Cond.arrayClass .int).before args s = true) : ∃ cA : ClassId, ArrOfT s cA .int ∧ va_RA s cA .int := by
  obtain ⟨cA, kA, comp, hfind, hk, hkind⟩ := Cond.arrayClass_spec h
  exact ⟨cA, fun n z => ⟨fun k h => (by cases h), kA, hk, comp, hkind⟩, hfind⟩
theorem arr_cZ {args : Array Value} {s : State} (h : (Cond.arrayClass .boolean).before args s = true) : ∃ cA : ClassId, ArrOfT s cA .boolean ∧ va_RA s cA .boolean := by
  obtain ⟨cA, kA, comp, hfind, hk, hkind⟩ := Cond.arrayClass_spec h
  exact ⟨cA, fun n z => ⟨fun k h => (by cases h), kA, hk, comp, hkind⟩, hfind⟩
theorem ap_two {A : Nat → Prop} {a b : Nat → Nat} {n k : Nat} {w1 w2 : va_W} (h1 : w1.map (fun q => q.1) = (List.range n).map a) (h2 : w2.map (fun q => q.1) = (List.range k).map b) (hD : va_D A (w1 ++ w2)) : ∀ i j, i < n → j < k → a i ≠ b j := by
  intro i j hi hj e
  obtain ⟨p, e1, e2⟩ := at_to h1 hi
  obtain ⟨q, e3, e4⟩ := at_to h2 hj
  have hl : w1.length = n := by
    have := congrArg List.length h1
    simpa using this
  have g1 : (w1 ++ w2)[i]? = some p := by rw [List.getElem?_append_left (by omega)]; exact e1
  have g2 : (w1 ++ w2)[n + j]? = some q := by rw [List.getElem?_append_right (by omega), show n + j - w1.length = j by omega]; exact e3
  have := hD.1 i (n + j) p q g1 g2 (by rw [e2, e4]; exact e)
  omega
theorem P_left {D : va_G} {cl : List vw_C} {w1 w2 : va_W} {H : Heap} (h : va_P D cl (w1 ++ w2) H) : va_P D cl w1 H := fun k q hk => h k q (by rw [List.getElem?_append_left (List.getElem?_eq_some_iff.mp hk).1]; exact hk)
theorem P_right {D : va_G} {cl : List vw_C} {w1 w2 : va_W} {H : Heap} (h : va_P D cl (w1 ++ w2) H) : va_P D cl w2 H := fun k q hk => h (w1.length + k) q (by rw [List.getElem?_append_right (by omega), Nat.add_sub_cancel_left]; exact hk)
theorem D_right {A : Nat → Prop} {w1 w2 : va_W} (h : va_D A (w1 ++ w2)) : va_D A w2 := by
  have key : ∀ (k : Nat) (q : Nat × va_E), w2[k]? = some q → (w1 ++ w2)[w1.length + k]? = some q := fun k q hk => by rw [List.getElem?_append_right (by omega), Nat.add_sub_cancel_left]; exact hk
  refine ⟨fun i j p q hi hj e => ?_, fun k q hk => h.2 _ q (key k q hk)⟩
  have := h.1 _ _ p q (key i p hi) (key j q hj) e
  omega
