-- ===== the same code, the same answers =====
theorem Eqc.bfq {κ κ' : SS} (h : Eqc κ κ') (n : Nat) : Bf κ n = Bf κ' n := by funext j; unfold Bf; rw [h.bgq]
theorem Eqc.wrq {κ κ' : SS} (h : Eqc κ κ') : wr κ = wr κ' := by funext k r; unfold wr; rw [h.wRq, h.d]
theorem Eqc.rdq {κ κ' : SS} (h : Eqc κ κ') : rd1 κ = rd1 κ' := by funext k r; unfold rd1; rw [h.rAq, h.rBq, h.a, h.b]
theorem Eqc.roq {κ κ' : SS} (h : Eqc κ κ') : ro κ = ro κ' := by funext k r; unfold ro; rw [h.rAq, h.rBq, h.a, h.b]
theorem Eqc.lwq {κ κ' : SS} (h : Eqc κ κ') (B : Nat → Bool) (r : Nat) : ∀ j, lwo κ B r j = lwo κ' B r j := by
  intro j
  induction j with
  | zero => rfl
  | succ j ih => show (if _ then _ else _) = (if _ then _ else _); rw [h.wrq, ih]
theorem Eqc.nrq {κ κ' : SS} (h : Eqc κ κ') (B : Nat → Bool) (A : Nat → Int32) (r j : Nat) : ∀ m k l, nrb κ B A r j m k l = nrb κ' B A r j m k l := by
  intro m
  induction m with
  | zero => intro k l; rfl
  | succ m ih => intro k l; show (if _ then _ else _) = (if _ then _ else _); rw [h.wrq, h.rdq, ih]
theorem Eqc.cwq {κ κ' : SS} (h : Eqc κ κ') (x : Int32) (l : Bool) (j : Nat) : ∀ m k, cwt κ x l j m k = cwt κ' x l j m k := by
  intro m
  induction m with
  | zero => intro k; rfl
  | succ m ih => intro k; show (if _ then _ else _) = (if _ then _ else _); rw [h.wRq, h.d, h.o, ih]
theorem Eqc.crq {κ κ' : SS} (h : Eqc κ κ') : crr κ = crr κ' := by
  funext B A T j r
  unfold crr
  rw [h.lwq, h.roq]
  simp only [h.nrq, h.cwq]
theorem Eqc.ndq {κ κ' : SS} (h : Eqc κ κ') : ndW κ = ndW κ' := by funext T j x y; unfold ndW; rw [h.rAq, h.rBq, h.o]
theorem Eqc.faq {κ κ' : SS} (h : Eqc κ κ') : tFa κ = tFa κ' := by funext B A D T j; unfold tFa pick; rw [h.rAq, h.crq, h.a, h.ndq]
theorem Eqc.fbq {κ κ' : SS} (h : Eqc κ κ') : tFb κ = tFb κ' := by funext B A D T j; unfold tFb pick; rw [h.rBq, h.crq, h.b, h.ndq, h.faq]
theorem Eqc.tsq {κ κ' : SS} (h : Eqc κ κ') : tS κ = tS κ' := by funext B A D T j; unfold tS; rw [h.faq, h.fbq, h.ndq, h.rAq, h.rBq, h.a, h.b, h.o]
theorem Eqc.ttq {κ κ' : SS} (h : Eqc κ κ') (B : Nat → Bool) (A : Nat → Int32) (D : Nat) : ∀ m, tT κ B A D m = tT κ' B A D m := by
  intro m
  induction m with
  | zero => rfl
  | succ m ih => funext i; show (if _ then _ else _) = (if _ then _ else _); rw [ih, h.tsq]
-- ===== what is picked =====
theorem crr_lt {κ : SS} {B : Nat → Bool} {A : Nat → Int32} {T : Nat → En} {j r i : Nat} (h : crr κ B A T j r = some i) : i < j := by
  unfold crr at h
  cases hl : lwo κ B r j with
  | none => rw [hl] at h; cases h
  | some k =>
    rw [hl] at h
    simp only at h
    split at h
    · cases h; exact (lwo_s j hl).1
    · cases h
theorem pick_s {κ : SS} {B : Nat → Bool} {A : Nat → Int32} {T : Nat → En} {j r i D : Nat} {f : Option Nat → Nat} (h : pick κ B A T j r f D = some i) : crr κ B A T j r = some i ∧ f (some i) ≤ D := by
  unfold pick at h
  cases hc : crr κ B A T j r with
  | none => rw [hc] at h; cases h
  | some k =>
    rw [hc] at h
    simp only at h
    split at h
    · cases h; exact ⟨rfl, by assumption⟩
    · cases h
theorem fa_s {κ : SS} {B : Nat → Bool} {A : Nat → Int32} {T : Nat → En} {j i D : Nat} (h : tFa κ B A D T j = some i) : rA κ j = true ∧ crr κ B A T j (aN κ j) = some i ∧ ndW κ T j (some i) none ≤ D := by
  unfold tFa at h
  by_cases hr : rA κ j = true
  · rw [if_pos hr] at h; exact ⟨hr, pick_s h⟩
  · rw [if_neg hr] at h; cases h
theorem fb_s {κ : SS} {B : Nat → Bool} {A : Nat → Int32} {T : Nat → En} {j i D : Nat} (h : tFb κ B A D T j = some i) : rB κ j = true ∧ crr κ B A T j (bN κ j) = some i ∧ ndW κ T j (tFa κ B A D T j) (some i) ≤ D := by
  unfold tFb at h
  by_cases hr : rB κ j = true
  · rw [if_pos hr] at h; exact ⟨hr, pick_s h⟩
  · rw [if_neg hr] at h; cases h
theorem nd_00 {κ : SS} {T : Nat → En} {j : Nat} : ndW κ T j none none ≤ 2 := by
  unfold ndW
  split
  · split <;> omega
  · split
    · show 1 ≤ 2; omega
    · rw [if_pos rfl]; show 1 + 1 ≤ 2; omega
theorem nd_le {κ : SS} {B : Nat → Bool} {A : Nat → Int32} {T : Nat → En} {j D : Nat} (hD : D ≤ 8) : (tS κ B A D T j).2.2.1 ≤ 8 := by
  show ndW κ T j (tFa κ B A D T j) (tFb κ B A D T j) ≤ 8
  cases hb : tFb κ B A D T j with
  | some i => have := (fb_s hb).2.2; omega
  | none =>
    cases ha : tFa κ B A D T j with
    | some i => have := (fa_s ha).2.2; omega
    | none => have := nd_00 (κ := κ) (T := T) (j := j); omega
theorem nb {κ : SS} {B : Nat → Bool} {A : Nat → Int32} {D : Nat} (hD : D ≤ 8) : ∀ m i, (tT κ B A D m i).2.2.1 ≤ 8 := by
  intro m
  induction m with
  | zero => intro i; exact Nat.zero_le _
  | succ m ih =>
    intro i
    by_cases e : i = m
    · subst e; rw [tT_eq]; exact nd_le hD
    · rw [tT_ne e]; exact ih i
theorem ndT_le {T : Nat → En} (h : ∀ i, (T i).2.2.1 ≤ 8) (o : Option Nat) : ndT T o ≤ 8 := by
  cases o with
  | none => show 1 ≤ 8; omega
  | some i => exact h i
theorem ndW_le {κ : SS} {T : Nat → En} {j : Nat} (h : ∀ i, (T i).2.2.1 ≤ 8) (x y : Option Nat) : ndW κ T j x y ≤ 9 := by
  have h1 := ndT_le h x
  have h2 := ndT_le h y
  unfold ndW
  split
  · split <;> omega
  · split
    · omega
    · split <;> omega
-- ===== the class settles one =====
theorem c_thing {σ : SS} {T : Nat → En} {j : Nat} (hj : j ≤ 40) (hT : RC σ T j) (o : Option Nat) (ho : ∀ i, o = some i → i < j) : f_CA_thingNeed (oI o) σ = some (nI (ndT T o), σ) := by
  unfold f_CA_thingNeed
  cases o with
  | none => rw [if_pos (show oI none = -1 from rfl)]; rfl
  | some i =>
    have hi := ho i rfl
    rw [show oI (some i) = nI i from rfl, if_neg (p_nm1 (by omega)), p_ld (by omega) (by decide), Option.bind_some, (hT i hi).2.2.1]
    rfl
theorem if_b1 {b : Bool} {x y : Int32} (h : b = false) : (if b then x else y) = y := by rw [h]; rfl
theorem c_need {σ : SS} {T : Nat → En} {n j : Nat} (hc : CC σ n) (hj : j < n) (hT : RC σ T j) (hb : ∀ i, (T i).2.2.1 ≤ 8) (x y : Option Nat) (hx : ∀ i, x = some i → i < j) (hy : ∀ i, y = some i → i < j) : f_CA_needWith (nI j) (oI x) (oI y) σ = some (nI (ndW σ T j x y), σ) := by
  have hn4 := hc.1.1
  have hrt := hc.1.2 j hj
  unfold f_CA_needWith ndW
  rw [g_ra (by omega), Option.bind_some]
  dsimp only
  rw [c_rowA hc hj]
  cases ha : rA σ j with
  | false =>
    simp only [Bool.false_eq_true, if_false, if_true, eq_self]
    rw [g_op (by omega), Option.bind_some]
    dsimp only
    rw [hrt.1]
    have h11 := hrt.2.1
    by_cases h0 : oN σ j = 0
    · rw [h0, if_pos (by decide), if_pos rfl]; rfl
    · rw [if_neg (show ¬ nI (oN σ j) = 0 from nI_neq (b := 0) (by omega) (by omega) h0), if_neg h0]; rfl
  | true =>
    have hal := (rA_lt hrt ha).2
    simp only [if_true, Bool.true_eq_false, if_false]
    rw [if_neg (p_nm1 (by omega)), c_thing (by omega) hT x hx, Option.bind_some]
    dsimp only
    rw [g_rb (by omega), Option.bind_some]
    dsimp only
    rw [c_rowB hc hj]
    cases hbb : rB σ j with
    | false => simp only [Bool.false_eq_true, if_false, if_true, eq_self]
    | true =>
      have hbl := (rB_lt hrt hbb).2
      simp only [if_true, Bool.true_eq_false, if_false]
      rw [if_neg (p_nm1 (by omega)), c_thing (by omega) hT y hy, Option.bind_some]
      dsimp only
      have h1 := ndT_le hb x
      have h2 := ndT_le hb y
      by_cases e : ndT T x = ndT T y
      · rw [if_pos (by rw [e]), if_pos e, nI_1]
      · rw [if_neg (nI_neq (by omega) (by omega) e), if_neg e]
        by_cases l : ndT T x < ndT T y
        · rw [if_pos (nI_lt l (by omega)), Nat.max_eq_right (by omega)]
        · rw [if_neg (nI_nlt (by omega) (by omega)), Nat.max_eq_left (by omega)]
/-- carried for b -/
theorem c_into47 {σ : SS} {n j D : Nat} {A : Nat → Int32} {T : Nat → En} {fa : Option Nat} (hc : KC σ n A) (hj : j < n) (hT : RC σ T j) (hb : ∀ i, (T i).2.2.1 ≤ 8) (hD : D ≤ 8) (h26 : σ 26 0 = nI D) (h11 : σ 11 j = oI fa) (hfa : ∀ i, fa = some i → i < j) (h12 : σ 12 j = -1) : ∃ (σ' : SS) (fb : Option Nat), b_CA_carryInto_47 (nI j) σ = some σ' ∧ fb = (if rB σ j then pick σ (Bf σ n) A T j (bN σ j) (fun x => ndW σ T j fa x) D else none) ∧ Fr [10, 12] σ σ' ∧ σ' 12 j = oI fb ∧ (∀ i, i ≠ j → σ' 12 i = σ 12 i) ∧ ∀ i, σ' 10 i = if fb = some i then nI j else σ 10 i := by
  have hn4 := hc.1.1.1
  have hrt := hc.1.1.2 j hj
  suffices h : ∃ σ' : SS, b_CA_carryInto_47 (nI j) σ = some σ' ∧ Fr [10, 12] σ σ' ∧ σ' 12 j = oI (if rB σ j then pick σ (Bf σ n) A T j (bN σ j) (fun x => ndW σ T j fa x) D else none) ∧ (∀ i, i ≠ j → σ' 12 i = σ 12 i) ∧ ∀ i, σ' 10 i = if (if rB σ j then pick σ (Bf σ n) A T j (bN σ j) (fun x => ndW σ T j fa x) D else none) = some i then nI j else σ 10 i by
    obtain ⟨σ', h1, h2⟩ := h
    exact ⟨σ', _, h1, rfl, h2⟩
  unfold b_CA_carryInto_47 pick
  rw [g_rb (by omega), Option.bind_some]
  dsimp only
  rw [c_carriable (rB σ j) hc hj hT (c_rowB hc.1 hj) (fun h => (rB_lt hrt h).2), Option.bind_some]
  dsimp only
  have skip : ∃ σ' : SS, some σ = some σ' ∧ Fr [10, 12] σ σ' ∧ σ' 12 j = oI none ∧ (∀ i, i ≠ j → σ' 12 i = σ 12 i) ∧ ∀ i, σ' 10 i = if (none : Option Nat) = some i then nI j else σ 10 i := ⟨σ, rfl, Fr.rf, h12, fun _ _ => rfl, fun i => by rw [if_neg (by simp)]⟩
  cases hbb : rB σ j with
  | false =>
    simp only [Bool.false_eq_true, if_false]
    rw [if_pos (show oI none = -1 from rfl)]
    exact skip
  | true =>
    simp only [if_true]
    cases hk : crr σ (Bf σ n) A T j (bN σ j) with
    | none =>
      rw [if_pos (show oI none = -1 from rfl)]
      exact skip
    | some i =>
      have hi := crr_lt hk
      rw [show oI (some i) = nI i from rfl, if_neg (p_nm1 (by omega)), p_ld (by omega) (by decide), Option.bind_some, h11, show nI i = oI (some i) from rfl, c_need hc.1 hj hT hb fa (some i) hfa (fun k hk => by cases hk; exact hi), Option.bind_some]
      dsimp only
      simp only [h26]
      have hle := ndW_le (κ := σ) (j := j) hb fa (some i)
      by_cases hD2 : ndW σ T j fa (some i) ≤ D
      · simp only [hD2, if_true]
        rw [if_neg (nI_nlt hD2 (by omega)), show oI (some i) = nI i from rfl, p_sto (by omega) (by decide), Option.bind_some, p_sto (by omega) (by decide), Option.bind_some]
        refine ⟨_, rfl, Fr.tr (Fr.su (by simp)) (Fr.su (by simp)), ?_, fun k hk => ?_, fun k => ?_⟩
        · rw [p_suk (by omega), p_sus]
        · rw [p_suk (by omega), p_sun hk]
        · rw [p_su, if_pos rfl]
          by_cases e : k = i
          · rw [if_pos e, if_pos (by rw [e])]
          · rw [if_neg e, if_neg (fun h => e (Option.some.inj h).symm), p_suk (by omega)]
      · simp only [hD2, if_false]
        rw [if_pos (nI_lt (by omega) (by omega))]
        exact skip
theorem c_into {σ : SS} {n j D : Nat} {A : Nat → Int32} {T : Nat → En} (hc : KC σ n A) (hj : j < n) (hT : RC σ T j) (hb : ∀ i, (T i).2.2.1 ≤ 8) (hD : D ≤ 8) (h26 : σ 26 0 = nI D) (h11 : σ 11 j = -1) (h12 : σ 12 j = -1) : ∃ σ' : SS, f_CA_carryInto (nI j) σ = some σ' ∧ Fr [10, 11, 12] σ σ' ∧ σ' 11 j = oI (tFa σ (Bf σ n) A D T j) ∧ σ' 12 j = oI (tFb σ (Bf σ n) A D T j) ∧ (∀ i, i ≠ j → σ' 11 i = σ 11 i ∧ σ' 12 i = σ 12 i) ∧ ∀ i, σ' 10 i = if tFa σ (Bf σ n) A D T j = some i ∨ tFb σ (Bf σ n) A D T j = some i then nI j else σ 10 i := by
  have hn4 := hc.1.1.1
  have hrt := hc.1.1.2 j hj
  -- the second half, over the contents behind the first
  have half : ∀ σ1 : SS, Fr [10, 11] σ σ1 → σ1 11 j = oI (tFa σ (Bf σ n) A D T j) → (∀ i, i ≠ j → σ1 11 i = σ 11 i) → (∀ i, σ1 10 i = if tFa σ (Bf σ n) A D T j = some i then nI j else σ 10 i) → ∃ σ' : SS, b_CA_carryInto_47 (nI j) σ1 = some σ' ∧ Fr [10, 11, 12] σ σ' ∧ σ' 11 j = oI (tFa σ (Bf σ n) A D T j) ∧ σ' 12 j = oI (tFb σ (Bf σ n) A D T j) ∧ (∀ i, i ≠ j → σ' 11 i = σ 11 i ∧ σ' 12 i = σ 12 i) ∧ ∀ i, σ' 10 i = if tFa σ (Bf σ n) A D T j = some i ∨ tFb σ (Bf σ n) A D T j = some i then nI j else σ 10 i := by
    intro σ1 f1 g1 g2 g3
    have he : Eqc σ1 σ := f1.eqc (fun k hk => by simp; omega)
    have hc1 : KC σ1 n A := hc.fr f1 (fun k hk => by simp; omega)
    have hT1 : RC σ1 T j := fun i hi => by
      obtain ⟨a1, a2, a3, a4, a5⟩ := hT i hi
      rw [g2 i (by omega), f1 12 (by simp), f1 13 (by simp), f1 14 (by simp), f1 15 (by simp)]
      exact ⟨a1, a2, a3, a4, a5⟩
    obtain ⟨σ', fb, e1, e2, e3, e4, e5, e6⟩ := c_into47 hc1 hj hT1 hb hD (by rw [f1 26 (by simp)]; exact h26) g1 (fun i hi => crr_lt (fa_s hi).2.1) (by rw [f1 12 (by simp)]; exact h12)
    have hfb : fb = tFb σ (Bf σ n) A D T j := by
      rw [e2, he.rBq, he.bfq]
      unfold tFb pick
      rw [he.crq, he.ndq, he.b]
    rw [hfb] at e4 e6
    refine ⟨σ', e1, (f1.mono (by simp)).tr (e3.mono (by simp)), by rw [e3 11 (by simp)]; exact g1, e4, fun i hi => ⟨by rw [e3 11 (by simp)]; exact g2 i hi, by rw [e5 i hi, f1 12 (by simp)]⟩, fun i => ?_⟩
    rw [e6 i, g3 i]
    by_cases h1 : tFb σ (Bf σ n) A D T j = some i
    · rw [if_pos h1, if_pos (Or.inr h1)]
    · rw [if_neg h1]
      by_cases h2 : tFa σ (Bf σ n) A D T j = some i
      · rw [if_pos h2, if_pos (Or.inl h2)]
      · rw [if_neg h2, if_neg (fun h => h.elim h2 h1)]
  have skip : tFa σ (Bf σ n) A D T j = none → ∃ σ' : SS, b_CA_carryInto_47 (nI j) σ = some σ' ∧ Fr [10, 11, 12] σ σ' ∧ σ' 11 j = oI (tFa σ (Bf σ n) A D T j) ∧ σ' 12 j = oI (tFb σ (Bf σ n) A D T j) ∧ (∀ i, i ≠ j → σ' 11 i = σ 11 i ∧ σ' 12 i = σ 12 i) ∧ ∀ i, σ' 10 i = if tFa σ (Bf σ n) A D T j = some i ∨ tFb σ (Bf σ n) A D T j = some i then nI j else σ 10 i := by
    intro h
    exact half σ Fr.rf (by rw [h, h11]; rfl) (fun _ _ => rfl) (fun i => by rw [h, if_neg (by simp)])
  unfold f_CA_carryInto
  rw [g_ra (by omega), Option.bind_some]
  dsimp only
  rw [c_carriable (rA σ j) hc hj hT (c_rowA hc.1 hj) (fun h => (rA_lt hrt h).2), Option.bind_some]
  dsimp only
  cases haa : rA σ j with
  | false =>
    rw [if_pos (show oI (if false = true then crr σ (Bf σ n) A T j (aN σ j) else none) = -1 from rfl)]
    exact skip (by unfold tFa; rw [haa]; rfl)
  | true =>
    simp only [if_true]
    cases hk : crr σ (Bf σ n) A T j (aN σ j) with
    | none =>
      rw [if_pos (show oI none = -1 from rfl)]
      exact skip (by unfold tFa pick; rw [haa, hk]; rfl)
    | some i =>
      have hi := crr_lt hk
      rw [show oI (some i) = nI i from rfl, if_neg (p_nm1 (by omega)), show nI i = oI (some i) from rfl, show (-1 : Int32) = oI none from rfl, c_need hc.1 hj hT hb (some i) none (fun k hk => by cases hk; exact hi) (fun k hk => by cases hk), Option.bind_some]
      dsimp only
      simp only [h26]
      have hle := ndW_le (κ := σ) (j := j) hb (some i) none
      by_cases hD2 : ndW σ T j (some i) none ≤ D
      · have hfa : tFa σ (Bf σ n) A D T j = some i := by unfold tFa pick; rw [haa, hk]; simp only [if_true]; rw [if_pos hD2]
        rw [if_neg (nI_nlt hD2 (by omega)), show oI (some i) = nI i from rfl, p_sto (by omega) (by decide), Option.bind_some, p_sto (by omega) (by decide), Option.bind_some]
        refine half _ (Fr.tr (Fr.su (by simp)) (Fr.su (by simp))) ?_ (fun k hk => ?_) (fun k => ?_)
        · rw [p_suk (by omega), p_sus, hfa]; rfl
        · rw [p_suk (by omega), p_sun hk]
        · rw [p_su, if_pos rfl, hfa]
          by_cases e : k = i
          · rw [if_pos e, if_pos (by rw [e])]
          · rw [if_neg e, if_neg (fun h => e (Option.some.inj h).symm), p_suk (by omega)]
      · have hfa : tFa σ (Bf σ n) A D T j = none := by unfold tFa pick; rw [haa, hk]; simp only [if_true]; rw [if_neg hD2]
        rw [if_pos (nI_lt (by omega) (by omega))]
        exact skip hfa
