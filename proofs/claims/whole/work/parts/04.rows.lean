-- ===== generic rows: a system whose objects form a fixed graph; its contents are one function of (number of a row, place) =====
abbrev SS : Type := Nat → Nat → Int32
def FU : Nat := 5000
def su (σ : SS) (k i : Nat) (x : Int32) : SS := fun j => if j = k then upd (σ k) i x else σ j
def ld (f : Nat → Int32) (n : Nat) (i : Int32) : Option Int32 := if i < 0 ∨ n ≤ i.toNatClampNeg then none else some (f i.toNatClampNeg)
def sto (σ : SS) (k n : Nat) (i x : Int32) : Option SS := if i < 0 ∨ n ≤ i.toNatClampNeg then none else some (su σ k i.toNatClampNeg x)
def sf (σ : SS) (k : Nat) (x : Int32) : Option SS := some (su σ k 0 x)
def rz (x : Int32) (σ : SS) : Option (Int32 × SS) := if x = 0 ∨ x = 1 then some (x, σ) else none
theorem bdK {α β : Type} {o : Option α} {f : α → Option β} {b : β} {G : Prop} (h : o.bind f = some b) (k : ∀ a, o = some a → f a = some b → G) : G := by
  cases o with
  | none => cases h
  | some a => exact k a rfl h
theorem ld_some {f : Nat → Int32} {n : Nat} {i v : Int32} (h : ld f n i = some v) : vp_in i n ∧ f i.toNatClampNeg = v := by
  unfold ld at h
  by_cases hc : i < 0 ∨ n ≤ i.toNatClampNeg
  · rw [if_pos hc] at h; cases h
  · rw [if_neg hc] at h; exact ⟨hc, Option.some.inj h⟩
theorem sto_some {σ σ' : SS} {k n : Nat} {i x : Int32} (h : sto σ k n i x = some σ') : vp_in i n ∧ su σ k i.toNatClampNeg x = σ' := by
  unfold sto at h
  by_cases hc : i < 0 ∨ n ≤ i.toNatClampNeg
  · rw [if_pos hc] at h; cases h
  · rw [if_neg hc] at h; exact ⟨hc, Option.some.inj h⟩
theorem rz_some {x : Int32} {σ : SS} {q : Int32 × SS} (h : rz x σ = some q) : (x = 0 ∨ x = 1) ∧ some (x, σ) = some q := by
  unfold rz at h
  by_cases hc : x = 0 ∨ x = 1
  · rw [if_pos hc] at h; exact ⟨hc, h⟩
  · rw [if_neg hc] at h; cases h
theorem nar_z {x : Int32} (h : x = 0 ∨ x = 1) : narrow .boolean (.int x) = .int x := by
  rcases h with rfl | rfl <;> decide
/-- the world, the tables, the statics, at a state -/
def pW (D : va_G) (wf : SS → va_W) (tys : List (ClassId × FieldType)) (st : (Nat → Prop) → State → Heap → Prop) (A : Nat → Prop) (σ : SS) (U : State) : Prop := va_P D vwCl (wf σ) U.heap ∧ va_K D vwCl tys U ∧ st A U U.heap
/-- statics stay: by tables alike, and by cells outside A unchanged -/
def stG (st : (Nat → Prop) → State → Heap → Prop) : Prop := (∀ (A : Nat → Prop) (u U : State) (H : Heap), u.vm.Alike U.vm → st A u H → st A U H) ∧ ∀ (A : Nat → Prop) (U : State) (H H1 : Heap), (∀ a : Nat, a < H.size → ¬ A a → H1[a]? = H[a]?) → st A U H → st A U H1
theorem pW_blind {av : List Value} {D : va_G} {wf : SS → va_W} {tys : List (ClassId × FieldType)} {st : (Nat → Prop) → State → Heap → Prop} {A : Nat → Prop} {σ : SS} (hg : stG st) : FrameBlind (va_Pc av (pW D wf tys st A σ)) := by
  intro a U g mk q
  obtain ⟨q0, q1, q2, q3⟩ := q
  exact ⟨q0, q1, va_K.moved (u := U) (U := U.calling g mk a) (Vm.Alike.refl U.vm) q2, hg.1 A U (U.calling g mk a) U.heap (Vm.Alike.refl U.vm) q3⟩
section RC
variable {p : Program} {l : Launch} {e : Env} {R : Room} {s : State} {m : MethodId} {args : Array Value} {below : List Frame} {meth : Method} {c : Code} {H : Heap} {locs : List Loc} {cells slots : Nat} {Q : State → Prop}
variable {cc : ByteArray} {pc nL : Nat} {ls : Array Slot} {rest st0 : List Value} {D : va_G} {A : Nat → Prop} {tys : List (ClassId × FieldType)} {wf : SS → va_W} {st : (Nat → Prop) → State → Heap → Prop} {σ : SS} {a : Nat} {ws : va_W} {cl : List vw_C} {H0 : Heap}
theorem pW_at {U : State} (hg : stG st) (hK : va_K D vwCl tys s) (hT : st A s s.heap) (hP : va_P D vwCl (wf σ) H) (hS : va_S A s.heap H locs) (hU : U.heap = H) (hW : s.vm.Alike U.vm) : pW D wf tys st A σ U := by
  refine ⟨by rw [hU]; exact hP, va_K.moved hW hK, ?_⟩
  refine hg.1 A s U _ hW (hg.2 A s s.heap _ (fun q h1 h2 => ?_) hT)
  rw [hU]
  exact hS.2.1 q h1 h2
theorem r_iald (hexec : p.tables.exec = Jvm.exec) (hb : c.code = cc) (hK : va_K D cl tys s) (hP : va_P D cl ws H) (q0 t0 : Nat) {cA : ClassId} {n : Nat} {f : Nat → Int32} (ha : ws[q0]? = some (a, .inl (cA, n, .inl f))) (ht : tys[t0]? = some (cA, .int)) {i v : Int32} (h : ld f n i = some v) (hdg : decode cc pc = .ok (.iaload, 1))
    (kk : W p l e R s m args below meth c H locs cells slots Q (F0 m (pc + 1) ls (.int v :: rest))) : W p l e R s m args below meth c H locs cells slots Q (F0 m pc ls (.int i :: .ref a :: rest)) := by
  obtain ⟨hin, rfl⟩ := ld_some h
  exact va_iald hexec hb hK hP q0 t0 ha ht hin hdg kk
theorem r_zald (hexec : p.tables.exec = Jvm.exec) (hb : c.code = cc) (hK : va_K D cl tys s) (hP : va_P D cl ws H) (q0 t0 : Nat) {cA : ClassId} {n : Nat} {f : Nat → Int32} (ha : ws[q0]? = some (a, .inl (cA, n, .inl f))) (ht : tys[t0]? = some (cA, .boolean)) {i v : Int32} (h : ld f n i = some v) (hdg : decode cc pc = .ok (.baload, 1))
    (kk : W p l e R s m args below meth c H locs cells slots Q (F0 m (pc + 1) ls (.int v :: rest))) : W p l e R s m args below meth c H locs cells slots Q (F0 m pc ls (.int i :: .ref a :: rest)) := by
  obtain ⟨hin, rfl⟩ := ld_some h
  exact va_zald hexec hb hK hP q0 t0 ha ht hin hdg kk
theorem r_ti (hexec : p.tables.exec = Jvm.exec) (hb : c.code = cc) {t N : Nat} {f : Nat → Int32} (hT : va_T .int t N (fun j => .int (f j)) A s s.heap) (hS : va_S A s.heap H locs) {i v : Int32} (h : ld f N i = some v) (hdg : decode cc pc = .ok (.iaload, 1))
    (kk : W p l e R s m args below meth c H locs cells slots Q (F0 m (pc + 1) ls (.int v :: rest))) : W p l e R s m args below meth c H locs cells slots Q (F0 m pc ls (.int i :: .ref t :: rest)) := by
  obtain ⟨hin, rfl⟩ := ld_some h
  exact va_ti hexec hb hT hS hin rfl hdg kk
theorem r_iast (hexec : p.tables.exec = Jvm.exec) (hb : c.code = cc) (hK : va_K D cl tys s) (hP : va_P D cl (wf σ) H) (hD : va_D A (wf σ)) (hS : va_S A H0 H locs) (q0 t0 : Nat) {cA : ClassId} {n k : Nat} (ha : (wf σ)[q0]? = some (a, .inl (cA, n, .inl (σ k)))) (ht : tys[t0]? = some (cA, .int)) (hset : ∀ (i : Nat) (x : Int32), (wf σ).set q0 (a, .inl (cA, n, .inl (upd (σ k) i x))) = wf (su σ k i x)) {i x : Int32} {σ' : SS} (h : sto σ k n i x = some σ') (hdg : decode cc pc = .ok (.iastore, 1))
    (kk : ∀ (H1 : Heap) (locs1 : List Loc), va_P D cl (wf σ') H1 → va_S A H0 H1 locs1 → W p l e R s m args below meth c H1 locs1 cells slots Q (F0 m (pc + 1) ls rest)) : W p l e R s m args below meth c H locs cells slots Q (F0 m pc ls (.int x :: .int i :: .ref a :: rest)) := by
  obtain ⟨hin, rfl⟩ := sto_some h
  refine va_iast hexec hb hK hP hD hS q0 t0 ha ht hin hdg (fun H1 locs1 hP1 _ hS1 => kk H1 locs1 ?_ hS1)
  rw [hset] at hP1
  exact hP1
theorem r_zast (hexec : p.tables.exec = Jvm.exec) (hb : c.code = cc) (hK : va_K D cl tys s) (hP : va_P D cl (wf σ) H) (hD : va_D A (wf σ)) (hS : va_S A H0 H locs) (q0 t0 : Nat) {cA : ClassId} {n k : Nat} (ha : (wf σ)[q0]? = some (a, .inl (cA, n, .inl (σ k)))) (ht : tys[t0]? = some (cA, .boolean)) (hset : ∀ (i : Nat) (x : Int32), (wf σ).set q0 (a, .inl (cA, n, .inl (upd (σ k) i x))) = wf (su σ k i x)) {i x : Int32} {σ' : SS} (h : sto σ k n i (vp_nar .boolean x) = some σ') (hdg : decode cc pc = .ok (.bastore, 1))
    (kk : ∀ (H1 : Heap) (locs1 : List Loc), va_P D cl (wf σ') H1 → va_S A H0 H1 locs1 → W p l e R s m args below meth c H1 locs1 cells slots Q (F0 m (pc + 1) ls rest)) : W p l e R s m args below meth c H locs cells slots Q (F0 m pc ls (.int x :: .int i :: .ref a :: rest)) := by
  obtain ⟨hin, rfl⟩ := sto_some h
  refine va_zast hexec hb hK hP hD hS q0 t0 ha ht hin hdg (fun H1 locs1 hP1 _ hS1 => kk H1 locs1 ?_ hS1)
  rw [hset] at hP1
  exact hP1
/-- behind a putfield: the world of the new contents -/
theorem sf_P {k q0 : Nat} {x : Int32} {σ' : SS} {en : Nat × va_E} (h : sf σ k x = some σ') (hP : va_P D cl ((wf σ).set q0 en) H) (hset : (wf σ).set q0 en = wf (su σ k 0 x)) : va_P D cl (wf σ') H := by
  obtain rfl := Option.some.inj h
  rw [← hset]
  exact hP
theorem rr_i {E : Int32} {q : Int32 × SS} (hexec : p.tables.exec = Jvm.exec) (hb : c.code = cc) (hr : meth.sig.returnType = some .int) (hlk : meth.locks = false) (hg : stG st) (hK : va_K D vwCl tys s) (hT : st A s s.heap) (hP : va_P D vwCl (wf σ) H) (hS : va_S A s.heap H locs) (hf : some (E, σ) = some q) (hdg : decode cc pc = .ok (.ireturn, 1)) : W p l e R s m args below meth c H locs cells slots (MQ below (va_Qi (fun r u => r = q.1 ∧ u = q.2) (pW D wf tys st A) A) args s cells slots A) (F0 m pc ls [.int E]) := by
  obtain rfl := Option.some.inj hf
  exact W.iret (v := E) hexec hb hr (fun t ht hW => ⟨⟨E, σ, rfl, ⟨rfl, rfl⟩, pW_at hg hK hT hP hS ht hW.alike⟩, hS.F ht⟩) hS.2.2 hdg
theorem rr_z {E : Int32} {q : Int32 × SS} (hexec : p.tables.exec = Jvm.exec) (hb : c.code = cc) (hr : meth.sig.returnType = some .boolean) (hlk : meth.locks = false) (hg : stG st) (hK : va_K D vwCl tys s) (hT : st A s s.heap) (hP : va_P D vwCl (wf σ) H) (hS : va_S A s.heap H locs) (hz : E = 0 ∨ E = 1) (hf : some (E, σ) = some q) (hdg : decode cc pc = .ok (.ireturn, 1)) : W p l e R s m args below meth c H locs cells slots (MQ below (va_Qi (fun r u => r = q.1 ∧ u = q.2) (pW D wf tys st A) A) args s cells slots A) (F0 m pc ls [.int E]) := by
  obtain rfl := Option.some.inj hf
  exact W.zret (v := E) hexec hb hr (nar_z hz) (fun t ht hW => ⟨⟨E, σ, rfl, ⟨rfl, rfl⟩, pW_at hg hK hT hP hS ht hW.alike⟩, hS.F ht⟩) hS.2.2 hdg
theorem rr_zg {E : Int32} {q : Int32 × SS} (hexec : p.tables.exec = Jvm.exec) (hb : c.code = cc) (hr : meth.sig.returnType = some .boolean) (hlk : meth.locks = false) (hg : stG st) (hK : va_K D vwCl tys s) (hT : st A s s.heap) (hP : va_P D vwCl (wf σ) H) (hS : va_S A s.heap H locs) (hf : rz E σ = some q) (hdg : decode cc pc = .ok (.ireturn, 1)) : W p l e R s m args below meth c H locs cells slots (MQ below (va_Qi (fun r u => r = q.1 ∧ u = q.2) (pW D wf tys st A) A) args s cells slots A) (F0 m pc ls [.int E]) :=
  rr_z hexec hb hr hlk hg hK hT hP hS (rz_some hf).1 (rz_some hf).2 hdg
theorem rr_v {q : SS} (hexec : p.tables.exec = Jvm.exec) (hb : c.code = cc) (hr : meth.sig.returnType = none) (hlk : meth.locks = false) (hg : stG st) (hK : va_K D vwCl tys s) (hT : st A s s.heap) (hP : va_P D vwCl (wf σ) H) (hS : va_S A s.heap H locs) (hf : some σ = some q) (hdg : decode cc pc = .ok (.return_, 1)) : W p l e R s m args below meth c H locs cells slots (MQ below (va_Qv (fun u => u = q) (pW D wf tys st A) A) args s cells slots A) (F0 m pc ls []) := by
  obtain rfl := Option.some.inj hf
  exact W.vret hexec hb hr (fun t ht hW => ⟨⟨σ, rfl, rfl, pW_at hg hK hT hP hS ht hW.alike⟩, hS.F ht⟩) hS.2.2 hdg
theorem rc_Vi {y : MethodName} {bytes : ByteArray} {maxL n index : Nat} {ret : Option FieldType} {wsC : List Cond} {rm : Room} {Ts : List Cond} {own C : String} {b : Nat} {As : List Value} {q : Int32 × SS} (hg : stG st) (F : CallFix p m c cc nL s args Ts own) (hM : Met l y wsC rm (va_Pc (.ref b :: As) (pW D wf tys st A σ)) (va_Qi (fun r u => r = q.1 ∧ u = q.2) (pW D wf tys st A) A) 0 0 A) (cw : CallW R s args own C index y bytes maxL ret wsC rm 0 0 n) (hK : va_K D vwCl tys s) (hT : st A s s.heap) (hP : va_P D vwCl (wf σ) H) (hS : va_S A s.heap H locs) (hrc : ∃ cell : Cell, H[b]? = some cell ∧ cell.vm.isStatics = false ∧ s.vm.findClass C = some cell.cls) (hn : As.length = n) (hsz : ls.size = nL) (hst : st0 = As.reverse ++ .ref b :: rest) (hW : (rest.map fun v => v.category).sum ≤ 8) (hdg : decode cc pc = .ok (.invokevirtual index, 3)) (hcs : cells + 0 ≤ R.cells ∧ slots + 0 ≤ R.slots)
    (kk : ∀ (H1 : Heap) (locs1 : List Loc), va_P D vwCl (wf q.2) H1 → va_S A s.heap H1 locs1 → W p l e R s m args below meth c H1 locs1 cells slots Q (F0 m (pc + 3) ls (.int q.1 :: rest))) : W p l e R s m args below meth c H locs cells slots Q (F0 m pc ls st0) := by
  refine va_calli (va_runV (As := As) (rest := rest) (b := b) F hM cw ⟨pW_blind hg, hrc, fun U hU hW => ⟨rfl, pW_at hg hK hT hP hS hU hW.alike⟩⟩ rfl hn hsz hst (lv_room hW) hdg hcs) hS (fun q _ h => h) (fun q h => h) (fun r u t H1 locs1 ht hvm hw hB hz1 hk1 hS1 => ?_)
  obtain ⟨rfl, rfl⟩ := hw
  exact kk H1 locs1 (by rw [← ht]; exact hB.1) hS1
theorem rc_Vv {y : MethodName} {bytes : ByteArray} {maxL n index : Nat} {ret : Option FieldType} {wsC : List Cond} {rm : Room} {Ts : List Cond} {own C : String} {b : Nat} {As : List Value} {q : SS} (hg : stG st) (F : CallFix p m c cc nL s args Ts own) (hM : Met l y wsC rm (va_Pc (.ref b :: As) (pW D wf tys st A σ)) (va_Qv (fun u => u = q) (pW D wf tys st A) A) 0 0 A) (cw : CallW R s args own C index y bytes maxL ret wsC rm 0 0 n) (hK : va_K D vwCl tys s) (hT : st A s s.heap) (hP : va_P D vwCl (wf σ) H) (hS : va_S A s.heap H locs) (hrc : ∃ cell : Cell, H[b]? = some cell ∧ cell.vm.isStatics = false ∧ s.vm.findClass C = some cell.cls) (hn : As.length = n) (hsz : ls.size = nL) (hst : st0 = As.reverse ++ .ref b :: rest) (hW : (rest.map fun v => v.category).sum ≤ 8) (hdg : decode cc pc = .ok (.invokevirtual index, 3)) (hcs : cells + 0 ≤ R.cells ∧ slots + 0 ≤ R.slots)
    (kk : ∀ (H1 : Heap) (locs1 : List Loc), va_P D vwCl (wf q) H1 → va_S A s.heap H1 locs1 → W p l e R s m args below meth c H1 locs1 cells slots Q (F0 m (pc + 3) ls rest)) : W p l e R s m args below meth c H locs cells slots Q (F0 m pc ls st0) := by
  refine va_callv (va_runV (As := As) (rest := rest) (b := b) F hM cw ⟨pW_blind hg, hrc, fun U hU hW => ⟨rfl, pW_at hg hK hT hP hS hU hW.alike⟩⟩ rfl hn hsz hst (lv_room hW) hdg hcs) hS (fun q _ h => h) (fun q h => h) (fun u t H1 locs1 ht hvm hw hB hz1 hk1 hS1 => ?_)
  obtain rfl := hw
  exact kk H1 locs1 (by rw [← ht]; exact hB.1) hS1
theorem rc_Si {y : MethodName} {bytes : ByteArray} {maxL n index : Nat} {ret : Option FieldType} {wsC : List Cond} {rm : Room} {Ts : List Cond} {own : String} {As : List Value} {q : Int32 × SS} (hg : stG st) (F : CallFix p m c cc nL s args Ts own) (hM : Met l y wsC rm (va_Pc As (pW D wf tys st A σ)) (va_Qi (fun r u => r = q.1 ∧ u = q.2) (pW D wf tys st A) A) 0 0 A) (cw : CallB R s args own index y bytes maxL ret wsC rm 0 0 n ∧ (Cond.static y).before args s = true) (hK : va_K D vwCl tys s) (hT : st A s s.heap) (hP : va_P D vwCl (wf σ) H) (hS : va_S A s.heap H locs) (hn : As.length = n) (hsz : ls.size = nL) (hst : st0 = As.reverse ++ rest) (hW : (rest.map fun v => v.category).sum ≤ 8) (hdg : decode cc pc = .ok (.invokestatic index, 3)) (hcs : cells + 0 ≤ R.cells ∧ slots + 0 ≤ R.slots)
    (kk : ∀ (H1 : Heap) (locs1 : List Loc), va_P D vwCl (wf q.2) H1 → va_S A s.heap H1 locs1 → W p l e R s m args below meth c H1 locs1 cells slots Q (F0 m (pc + 3) ls (.int q.1 :: rest))) : W p l e R s m args below meth c H locs cells slots Q (F0 m pc ls st0) := by
  refine va_calli (va_runS (As := As) (rest := rest) F hM cw ⟨pW_blind hg, fun U hU hW => ⟨rfl, pW_at hg hK hT hP hS hU hW.alike⟩⟩ rfl hn hsz hst (lv_room hW) hdg hcs) hS (fun q _ h => h) (fun q h => h) (fun r u t H1 locs1 ht hvm hw hB hz1 hk1 hS1 => ?_)
  obtain ⟨rfl, rfl⟩ := hw
  exact kk H1 locs1 (by rw [← ht]; exact hB.1) hS1
end RC
/-- a world whose addresses are a 0, a 1 .. , all different -/
theorem dW {a : Nat → Nat} {n : Nat} {ws : va_W} (h : ws.map (fun q => q.1) = (List.range n).map a) (ha : ∀ i j, i < n → j < n → a i = a j → i = j) : va_D (fun q => ∃ k, k < n ∧ q = a k) ws := by
  have key : ∀ (k : Nat) (q : Nat × va_E), ws[k]? = some q → k < n ∧ q.1 = a k := by
    intro k q hk
    have h1 : (ws.map (fun q => q.1))[k]? = some q.1 := by rw [List.getElem?_map, hk]; rfl
    rw [h, List.getElem?_map] at h1
    by_cases hl : k < n
    · rw [List.getElem?_range hl] at h1
      exact ⟨hl, (Option.some.inj h1).symm⟩
    · rw [List.getElem?_eq_none (by rw [List.length_range]; omega)] at h1
      cases h1
  refine ⟨fun i j x y hi hj hxy => ?_, fun k q hk => ?_⟩
  · obtain ⟨l1, e1⟩ := key i x hi
    obtain ⟨l2, e2⟩ := key j y hj
    exact ha i j l1 l2 (by rw [← e1, ← e2]; exact hxy)
  · obtain ⟨l1, e1⟩ := key k q hk
    exact ⟨k, l1, e1⟩
section RN
variable {p : Program} {l : Launch} {e : Env} {R : Room} {s : State} {m : MethodId} {args : Array Value} {below : List Frame} {meth : Method} {c : Code} {H : Heap} {locs : List Loc} {cells slots : Nat} {Q : State → Prop}
variable {cc : ByteArray} {pc : Nat} {ls : Array Slot} {rest : List Value} {D : va_G} {A : Nat → Prop} {tys : List (ClassId × FieldType)} {ws : va_W} {cl : List vw_C} {H0 : Heap}
/-- the class of int arrays is one -/
theorem cA_one {cA cB : ClassId} {ty : FieldType} (hty : ty = .int ∨ ty = .boolean) (h1 : va_RA s cA ty) (h2 : va_RA s cB ty) : cA = cB := by
  rcases hty with rfl | rfl
  · have e1 : s.vm.findClass ("[" ++ FieldType.int.toString) = some cA := h1
    have e2 : s.vm.findClass ("[" ++ FieldType.int.toString) = some cB := h2
    exact Option.some.inj (e1.symm.trans e2)
  · have e1 : s.vm.findClass ("[" ++ FieldType.boolean.toString) = some cA := h1
    have e2 : s.vm.findClass ("[" ++ FieldType.boolean.toString) = some cB := h2
    exact Option.some.inj (e1.symm.trans e2)
/-- a new array of ints, of the class cI that the tables know -/
theorem r_newi (hexec : p.tables.exec = Jvm.exec) (hb : c.code = cc) (harr : (Cond.arrayClass .int).before args s = true) (hK : va_K D cl tys s) (hP : va_P D cl ws H) (hD : va_D A ws) (hS : va_S A H0 H locs) (hA : ∀ q, H0.size ≤ q → A q) (t0 : Nat) {cI : ClassId} (ht : tys[t0]? = some (cI, .int))
    {n : Int32} {N' : Nat} (hn : ¬ n < 0) (hN : n.toNatClampNeg = N') (hbytes : N' * componentBytes .int ≤ 536870912) (hcells : cells + 1 ≤ R.cells) (hslots : slots + N' ≤ R.slots) (hdg : decode cc pc = .ok (.newarray .int, 2))
    (kk : ∀ (q : Nat) (H1 : Heap), va_P D cl (ws ++ [(q, .inl (cI, N', .inl (fun _ => 0)))]) H1 → va_D A (ws ++ [(q, .inl (cI, N', .inl (fun _ => 0)))]) → va_S A H0 H1 locs →
      W p l e R s m args below meth c H1 locs (cells + 1) (slots + N') Q (F0 m (pc + 2) ls (.ref q :: rest))) : W p l e R s m args below meth c H locs cells slots Q (F0 m pc ls (.int n :: rest)) := by
  refine va_newa (atype := .int) (N' := N') (a0 := (N', .inl (fun _ => 0))) (ty := .int) hexec hb harr rfl hK hP hD hS hA (fun _ => rfl) hn hN hbytes hcells hslots hdg (fun q cA H1 hK1 hP1 hD1 hS1 => ?_)
  have e1 := (hK1.2 tys.length (cA, .int) (by simp)).2
  have e2 := (hK.2 t0 _ ht).2
  obtain rfl := cA_one (Or.inl rfl) e1 e2
  exact kk q H1 hP1 hD1 hS1
theorem r_newz (hexec : p.tables.exec = Jvm.exec) (hb : c.code = cc) (harr : (Cond.arrayClass .boolean).before args s = true) (hK : va_K D cl tys s) (hP : va_P D cl ws H) (hD : va_D A ws) (hS : va_S A H0 H locs) (hA : ∀ q, H0.size ≤ q → A q) (t0 : Nat) {cZ : ClassId} (ht : tys[t0]? = some (cZ, .boolean))
    {n : Int32} {N' : Nat} (hn : ¬ n < 0) (hN : n.toNatClampNeg = N') (hbytes : N' * componentBytes .boolean ≤ 536870912) (hcells : cells + 1 ≤ R.cells) (hslots : slots + N' ≤ R.slots) (hdg : decode cc pc = .ok (.newarray .boolean, 2))
    (kk : ∀ (q : Nat) (H1 : Heap), va_P D cl (ws ++ [(q, .inl (cZ, N', .inl (fun _ => 0)))]) H1 → va_D A (ws ++ [(q, .inl (cZ, N', .inl (fun _ => 0)))]) → va_S A H0 H1 locs →
      W p l e R s m args below meth c H1 locs (cells + 1) (slots + N') Q (F0 m (pc + 2) ls (.ref q :: rest))) : W p l e R s m args below meth c H locs cells slots Q (F0 m pc ls (.int n :: rest)) := by
  refine va_newa (atype := .boolean) (N' := N') (a0 := (N', .inl (fun _ => 0))) (ty := .boolean) hexec hb harr rfl hK hP hD hS hA (fun _ => rfl) hn hN hbytes hcells hslots hdg (fun q cA H1 hK1 hP1 hD1 hS1 => ?_)
  have e1 := (hK1.2 tys.length (cA, .boolean) (by simp)).2
  have e2 := (hK.2 t0 _ ht).2
  obtain rfl := cA_one (Or.inr rfl) e1 e2
  exact kk q H1 hP1 hD1 hS1
end RN

