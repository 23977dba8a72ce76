-- ===== what operations there are =====
def Gop (pl : Nat → Int32) (q : Op) : Prop := ∃ o, o ≤ 14 ∧ q.1 = nI o ∧ (o = 1 ∨ o = 2 → ∃ r, r < 10 ∧ q.2 = nI r) ∧ (o = 12 ∨ o = 13 → ∃ t, t < 40 ∧ q.2 = pl t)
theorem own_g {κ : SS} {pl : Nat → Int32} {j : Nat} (hrt : Rt κ j) : ∀ q ∈ own κ pl j, Gop pl q ∧ q.1 ≠ 2 := by
  intro q hq
  unfold own at hq
  have h11 := hrt.2.1
  by_cases h1 : oN κ j = 1
  · rw [if_pos h1] at hq; simp at hq
  · rw [if_neg h1] at hq
    simp only [List.mem_singleton] at hq
    subst hq
    have hne : ∀ o : Nat, o < 100 → o ≠ 2 → nI o ≠ 2 := fun o h h' => nI_neq (b := 2) (by omega) (by omega) h'
    refine ⟨⟨_, ?_, rfl, fun h => ?_, fun h => ?_⟩, ?_⟩
    · split <;> omega
    · by_cases h0 : oN κ j = 0
      · rw [if_pos h0] at h; omega
      · rw [if_neg h0] at h; omega
    · by_cases h0 : oN κ j = 0
      · rw [if_pos h0] at h; omega
      · rw [if_neg h0] at h
        show ∃ t, t < 40 ∧ onm κ pl j = pl t
        unfold onm
        rw [if_neg h0]
        by_cases h9 : oN κ j = 9
        · rw [if_pos h9]; exact ⟨_, (hrt.2.2.2.2.1 h0).2.1, rfl⟩
        · rw [if_neg h9, if_pos (show oN κ j = 10 by omega)]; exact ⟨_, hrt.2.2.2.2.2.2.1, rfl⟩
    · show nI _ ≠ 2
      exact hne _ (by split <;> omega) (by split <;> omega)
theorem thg_g {P : Op → Prop} {f : Nat → List Op} {b : Bool} {r : Nat} {o : Option Nat} (h1 : b = true → P (1, nI r)) (h2 : ∀ i, o = some i → ∀ q ∈ f i, P q) : ∀ q ∈ thg f b r o, P q := by
  cases o with
  | none =>
    intro q hq
    have hq : q ∈ (if b then [((1 : Int32), nI r)] else []) := hq
    cases b with
    | false => simp at hq
    | true => simp at hq; rw [hq]; exact h1 rfl
  | some i => exact h2 i rfl
theorem tr_all {P : Op → Prop} {κ : SS} {pl : Nat → Int32} {T : Nat → En} {n : Nat} (hD : Dn T n) (hc : Cn κ n) (hget : ∀ r, r < 10 → P (1, nI r)) (hsw : P (4, 0)) (hown : ∀ j, j < n → ∀ q ∈ own κ pl j, P q) : ∀ j, j < n → ∀ q ∈ tr κ pl T j, P q := by
  intro j
  induction j using Nat.strongRecOn with
  | _ j ih =>
    intro hj q hq
    rw [tr_eq hD hj] at hq
    unfold tbd at hq
    have hA := thg_g (P := P) (f := tr κ pl T) (b := rA κ j) (r := aN κ j) (o := (T j).1) (fun h => hget _ (rA_lt (hc.2 j hj) h).2) (fun i hi => ih i ((hD j hj).1 i hi) (by have := (hD j hj).1 i hi; omega))
    have hB := thg_g (P := P) (f := tr κ pl T) (b := rB κ j) (r := bN κ j) (o := (T j).2.1) (fun h => hget _ (rB_lt (hc.2 j hj) h).2) (fun i hi => ih i ((hD j hj).2 i hi) (by have := (hD j hj).2 i hi; omega))
    rcases List.mem_append.mp hq with h | h
    · split at h
      · rcases List.mem_append.mp h with h | h
        · exact hB q h
        · exact hA q h
      · rcases List.mem_append.mp h with h | h
        · exact hA q h
        · exact hB q h
    · rcases List.mem_append.mp h with h | h
      · split at h
        · simp at h; rw [h]; exact hsw
        · simp at h
      · exact hown j hj q h
theorem cdl_all {P : Op → Prop} {κ : SS} {pl : Nat → Int32} {T : Nat → En} {A : Nat → Int32} {n : Nat} (htr : ∀ j, j < n → ∀ q ∈ tr κ pl T j, P q) (hput : ∀ j, j < n → P (2, κ 1 j)) (hdr : P (3, 0)) : ∀ m, m ≤ n → ∀ q ∈ cdl κ pl T A n m, P q := by
  intro m
  induction m with
  | zero => intro _ q hq; exact absurd hq (by show ¬ q ∈ ([] : List Op); simp)
  | succ m ih =>
    intro hm q hq
    have hq : q ∈ cdl κ pl T A n m ++ (if car T n m then [] else blk κ pl T A n m) := hq
    rcases List.mem_append.mp hq with h | h
    · exact ih (by omega) q h
    · split at h
      · simp at h
      · unfold blk at h
        rcases List.mem_append.mp h with h | h
        · exact htr m (by omega) q h
        · split at h
          · unfold endl at h
            split at h
            · simp at h; rw [h]; exact hput m (by omega)
            · simp at h; rw [h]; exact hdr
          · simp at h
theorem G_get {pl : Nat → Int32} {r : Nat} (h : r < 10) : Gop pl (1, nI r) := ⟨1, by omega, rfl, fun _ => ⟨r, h, rfl⟩, fun h => by omega⟩
theorem G_n {pl : Nat → Int32} {o : Nat} (h : o ≤ 14) (h1 : o ≠ 1) (h2 : o ≠ 2) (h3 : o ≠ 12) (h4 : o ≠ 13) : Gop pl (nI o, 0) := ⟨o, h, rfl, fun h => by omega, fun h => by omega⟩
theorem cdl_g {κ : SS} {pl : Nat → Int32} {T : Nat → En} {A : Nat → Int32} {n : Nat} (hD : Dn T n) (hc : Cn κ n) : ∀ q ∈ cdl κ pl T A n n ++ [(14, 0)], Gop pl q := by
  intro q hq
  rcases List.mem_append.mp hq with h | h
  · refine cdl_all (P := Gop pl) (tr_all hD hc (fun r hr => G_get hr) (G_n (o := 4) (by omega) (by omega) (by omega) (by omega) (by omega)) (fun j hj q hq => (own_g (hc.2 j hj) q hq).1)) (fun j hj => ?_) (G_n (o := 3) (by omega) (by omega) (by omega) (by omega) (by omega)) n (Nat.le_refl _) q h
    rw [(hc.2 j hj).2.2.1]
    exact ⟨2, by omega, rfl, fun _ => ⟨_, (hc.2 j hj).2.2.2.1, rfl⟩, fun h => by omega⟩
  · simp at h
    rw [h]
    exact G_n (o := 14) (by omega) (by omega) (by omega) (by omega) (by omega)
-- ===== jumps are put right =====
def fx (pl : Nat → Int32) (q : Op) : Op := if q.1 = 12 ∨ q.1 = 13 then (q.1, pl q.2.toNatClampNeg) else q
theorem fx_n {pl : Nat → Int32} {q : Op} {o : Nat} (ho : q.1 = nI o) (h : o ≤ 14) (h1 : o ≠ 12) (h2 : o ≠ 13) : fx pl q = q := by
  unfold fx
  rw [if_neg]
  rw [ho]
  intro hh
  rcases hh with hh | hh
  · exact (nI_neq (b := 12) (by omega) (by omega) h1) hh
  · exact (nI_neq (b := 13) (by omega) (by omega) h2) hh
theorem own_fx {κ : SS} {pl : Nat → Int32} {j : Nat} (hrt : Rt κ j) : own κ pl j = (own κ nI j).map (fx pl) := by
  have h11 := hrt.2.1
  unfold own
  by_cases h1 : oN κ j = 1
  · rw [if_pos h1, if_pos h1]; rfl
  · rw [if_neg h1, if_neg h1]
    show [_] = [fx pl _]
    congr 1
    unfold onm
    by_cases h0 : oN κ j = 0
    · rw [if_pos h0, if_pos h0, if_pos h0, fx_n (o := 0) rfl (by omega) (by omega) (by omega)]
    · rw [if_neg h0, if_neg h0, if_neg h0]
      by_cases h9 : oN κ j = 9
      · rw [if_pos h9, if_pos h9, h9]
        unfold fx
        rw [if_pos (show (nI (9 + 3), nI (aN κ j)).1 = 12 ∨ (nI (9 + 3), nI (aN κ j)).1 = 13 from Or.inl rfl)]
        dsimp only
        rw [nI_clamp (by have := (hrt.2.2.2.2.1 h0).2.1; omega)]
      · rw [if_neg h9, if_neg h9]
        by_cases h10 : oN κ j = 10
        · rw [if_pos h10, if_pos h10, h10]
          unfold fx
          rw [if_pos (show (nI (10 + 3), nI (bN κ j)).1 = 12 ∨ (nI (10 + 3), nI (bN κ j)).1 = 13 from Or.inr rfl)]
          dsimp only
          rw [nI_clamp (by have := hrt.2.2.2.2.2.2.1; omega)]
        · rw [if_neg h10, if_neg h10, fx_n (o := oN κ j + 3) rfl (by omega) (by omega) (by omega)]
theorem thg_fx {pl : Nat → Int32} {f g : Nat → List Op} {b : Bool} {r : Nat} {o : Option Nat} (h : ∀ i, o = some i → f i = (g i).map (fx pl)) : thg f b r o = (thg g b r o).map (fx pl) := by
  cases o with
  | none => cases b with
    | false => rfl
    | true => show [_] = [fx pl _]; rw [fx_n (o := 1) rfl (by omega) (by omega) (by omega)]
  | some i => exact h i rfl
theorem tr_fx {κ : SS} {pl : Nat → Int32} {T : Nat → En} {n : Nat} (hD : Dn T n) (hc : Cn κ n) : ∀ j, j < n → tr κ pl T j = (tr κ nI T j).map (fx pl) := by
  intro j
  induction j using Nat.strongRecOn with
  | _ j ih =>
    intro hj
    rw [tr_eq hD hj, tr_eq hD hj]
    unfold tbd
    have hA := thg_fx (pl := pl) (f := tr κ pl T) (g := tr κ nI T) (b := rA κ j) (r := aN κ j) (o := (T j).1) (fun i hi => ih i ((hD j hj).1 i hi) (by have := (hD j hj).1 i hi; omega))
    have hB := thg_fx (pl := pl) (f := tr κ pl T) (g := tr κ nI T) (b := rB κ j) (r := bN κ j) (o := (T j).2.1) (fun i hi => ih i ((hD j hj).2 i hi) (by have := (hD j hj).2 i hi; omega))
    have hs : (if nsw κ T j then [((4 : Int32), (0 : Int32))] else []) = (if nsw κ T j then [((4 : Int32), (0 : Int32))] else []).map (fx pl) := by
      split
      · show [_] = [fx pl _]; rw [fx_n (o := 4) rfl (by omega) (by omega) (by omega)]
      · rfl
    rw [List.map_append, List.map_append, ← hs, ← own_fx (hc.2 j hj), hA, hB]
    congr 1
    split <;> rw [List.map_append]
theorem cdl_fx {κ : SS} {pl : Nat → Int32} {T : Nat → En} {A : Nat → Int32} {n : Nat} (hD : Dn T n) (hc : Cn κ n) : ∀ m, m ≤ n → cdl κ pl T A n m = (cdl κ nI T A n m).map (fx pl) := by
  intro m
  induction m with
  | zero => intro _; rfl
  | succ m ih =>
    intro hm
    show cdl κ pl T A n m ++ _ = (cdl κ nI T A n m ++ _).map (fx pl)
    rw [List.map_append, ih (by omega)]
    congr 1
    split
    · rfl
    · unfold blk
      rw [List.map_append, tr_fx hD hc m (by omega)]
      congr 1
      split
      · unfold endl
        split
        · show [_] = [fx pl _]; rw [fx_n (o := 2) rfl (by omega) (by omega) (by omega)]
        · show [_] = [fx pl _]; rw [fx_n (o := 3) rfl (by omega) (by omega) (by omega)]
      · rfl
theorem m_152 {κ : SS} {n D : Nat} {A : Nat → Int32} : ∀ (m p : Nat) (τ : SS), LM κ τ n A D → p ≤ cum κ (tT κ (Bf κ n) A D n) A n n + 1 → cum κ (tT κ (Bf κ n) A D n) A n n + 1 - p < m → τ 23 0 = nI (cum κ (tT κ (Bf κ n) A D n) A n n + 1) → (∀ x, x ≤ n → τ 14 x = nI (cum κ (tT κ (Bf κ n) A D n) A n x)) → (∀ q, q < p → (FC κ (tT κ (Bf κ n) A D n) A n)[q]? = some (τ 12 q, τ 13 q)) → (∀ q, p ≤ q → q < cum κ (tT κ (Bf κ n) A D n) A n n + 1 → (cdl κ nI (tT κ (Bf κ n) A D n) A n n ++ [(14, 0)])[q]? = some (τ 12 q, τ 13 q)) → ∃ τ' : SS, b_MO_work_152 m (nI p) τ = some τ' ∧ Fr [13] τ τ' ∧ ∀ q, q < cum κ (tT κ (Bf κ n) A D n) A n n + 1 → (FC κ (tT κ (Bf κ n) A D n) A n)[q]? = some (τ' 12 q, τ' 13 q) := by
  intro m
  induction m with
  | zero => intro p τ _ _ h; omega
  | succ m ih =>
    intro p τ hl hp hm h23 h14 h1 h2
    have hn4 := hl.2.1.1.1.1.1
    have hDn : Dn (tT κ (Bf κ n) A D n) n := tT_Dn
    have hcn : Cn κ n := Eqc.cn (fun k hk => (hl.1 k hk).symm) hl.2.1.1.1.1
    have hle := cum_le (κ := κ) (B := Bf κ n) (A := A) (D := D) hn4 (Nat.le_refl n)
    have hFC : FC κ (tT κ (Bf κ n) A D n) A n = (cdl κ nI (tT κ (Bf κ n) A D n) A n n ++ [(14, 0)]).map (fx (PL κ (tT κ (Bf κ n) A D n) A n)) := by
      unfold FC
      rw [List.map_append, cdl_fx hDn hcn n (Nat.le_refl _)]
      congr 1
    rw [b_MO_work_152, h23]
    by_cases hpn : p < cum κ (tT κ (Bf κ n) A D n) A n n + 1
    · rw [if_neg (nI_ge hpn (by omega)), p_ld (by omega) (by decide), Option.bind_some]
      have hq := h2 p (Nat.le_refl _) hpn
      obtain ⟨o, o1, o2, o3, o4⟩ := cdl_g (pl := nI) hDn hcn _ (List.mem_of_getElem? hq)
      have o2 : τ 12 p = nI o := o2
      have hF : (FC κ (tT κ (Bf κ n) A D n) A n)[p]? = some (fx (PL κ (tT κ (Bf κ n) A D n) A n) (τ 12 p, τ 13 p)) := by rw [hFC, List.getElem?_map, hq]; rfl
      rw [show (12 : Int32) = nI 12 from rfl, show (13 : Int32) = nI 13 from rfl, m_in o2 (by omega) (by omega) (by omega), Option.bind_some]
      simp only [b2_z]
      by_cases ho : 12 ≤ o ∧ o ≤ 13
      · rw [decide_eq_true ho, if_neg (by simp)]
        obtain ⟨t, t1, t2⟩ := o4 (by omega)
        have t2 : τ 13 p = nI t := t2
        rw [p_ld (by omega) (by decide), Option.bind_some, t2, hl.2.1.1.1.2]
        have hfx : fx (PL κ (tT κ (Bf κ n) A D n) A n) (τ 12 p, τ 13 p) = (τ 12 p, (PL κ (tT κ (Bf κ n) A D n) A n) t) := by
          unfold fx
          rw [if_pos]
          · show (τ 12 p, (PL κ (tT κ (Bf κ n) A D n) A n) (τ 13 p).toNatClampNeg) = _
            rw [t2, nI_clamp (by omega)]
          · show τ 12 p = 12 ∨ τ 12 p = 13
            rw [o2]
            rcases (show o = 12 ∨ o = 13 by omega) with e | e
            · rw [e]; exact Or.inl rfl
            · rw [e]; exact Or.inr rfl
        have go : ∃ τ' : SS, b_MO_work_152 m (nI (p + 1)) (su τ 13 p ((PL κ (tT κ (Bf κ n) A D n) A n) t)) = some τ' ∧ Fr [13] τ τ' ∧ ∀ q, q < cum κ (tT κ (Bf κ n) A D n) A n n + 1 → (FC κ (tT κ (Bf κ n) A D n) A n)[q]? = some (τ' 12 q, τ' 13 q) := by
          have hf : Fr [13] τ (su τ 13 p ((PL κ (tT κ (Bf κ n) A D n) A n) t)) := Fr.su (by simp)
          obtain ⟨τ', d1, d2, d3⟩ := ih (p + 1) (su τ 13 p ((PL κ (tT κ (Bf κ n) A D n) A n) t)) (hl.fr hf (fun k hk => by simp; omega)) (by omega) (by omega) (by rw [hf 23 (by simp)]; exact h23) (fun x hx => by rw [hf 14 (by simp)]; exact h14 x hx) (fun q hq => by
            rw [hf 12 (by simp)]
            by_cases e : q = p
            · rw [e, p_sus, hF, hfx]
            · rw [p_sun e]; exact h1 q (by omega)) (fun q h3 h4 => by
            rw [hf 12 (by simp), p_sun (by omega)]
            exact h2 q (by omega) h4)
          exact ⟨τ', d1, hf.tr d2, d3⟩
        by_cases htn : t < n
        · have hPL : (PL κ (tT κ (Bf κ n) A D n) A n) t = nI (cum κ (tT κ (Bf κ n) A D n) A n t) := by unfold PL; rw [if_pos htn]
          rw [if_neg (nI_ge htn (by omega)), Option.bind_some, p_ld (show t < 41 by omega) (by decide), Option.bind_some, h14 t (by omega), ← hPL, p_sto (by omega) (by decide), Option.bind_some, nI_1]
          exact go
        · have hPL : (PL κ (tT κ (Bf κ n) A D n) A n) t = nI (cum κ (tT κ (Bf κ n) A D n) A n n) := by unfold PL; rw [if_neg htn]
          rw [if_pos (nI_le (by omega) (by omega)), p_ld (show n < 41 by omega) (by decide), Option.bind_some, h14 n (Nat.le_refl _), ← hPL, p_sto (by omega) (by decide), Option.bind_some, nI_1]
          exact go
      · rw [decide_eq_false ho, if_pos rfl, nI_1]
        have hfx : fx (PL κ (tT κ (Bf κ n) A D n) A n) (τ 12 p, τ 13 p) = (τ 12 p, τ 13 p) := fx_n o2 o1 (by omega) (by omega)
        clear o3 o4
        exact ih (p + 1) τ hl (by omega) (by omega) h23 h14 (fun q hq => by
          by_cases e : q = p
          · rw [e, hF, hfx]
          · exact h1 q (by omega)) (fun q h3 h4 => h2 q (by omega) h4)
    · rw [if_pos (nI_le (by omega) (by omega))]
      exact ⟨τ, rfl, Fr.rf, fun q hq => h1 q (by omega)⟩
theorem m_49 {κ : SS} {n D : Nat} {L : Nat → Int32} {A : Nat → Int32} (hA : A = aft κ n L) (hfx : Fix κ n L) : ∀ (m j : Nat) (τ : SS), LM κ τ n A D → j ≤ n → n - j < m → Cd τ (cdl κ nI (tT κ (Bf κ n) A D n) A n j) → (∀ x, x < j → τ 14 x = nI (cum κ (tT κ (Bf κ n) A D n) A n x)) → ∃ τ' : SS, b_MO_work_49 m (nI j) τ = some τ' ∧ Fr [12, 13, 14, 15, 23] τ τ' ∧ Cd τ' (FC κ (tT κ (Bf κ n) A D n) A n) := by
  intro m
  induction m with
  | zero => intro j τ _ _ h; omega
  | succ m ih =>
    intro j τ hl hj hm hC h14
    have hn4 := hl.2.1.1.1.1.1
    have hDn : Dn (tT κ (Bf κ n) A D n) n := tT_Dn
    rw [b_MO_work_49, hl.2.1.1.1.2]
    by_cases hjn : j < n
    · have hlc := cum_le (κ := κ) (B := Bf κ n) (A := A) (D := D) hn4 hj
      have hlc : (cdl κ nI (tT κ (Bf κ n) A D n) A n j).length ≤ 200 := hlc
      have hlt := tr_le (κ := κ) (B := Bf κ n) (A := A) (D := D) hn4 hjn
      rw [if_neg (nI_ge hjn (by omega)), p_sto (by omega) (by decide), Option.bind_some]
      have hf : Fr [14] τ (su τ 14 j (τ 23 0)) := Fr.su (by simp)
      have hl1 : LM κ (su τ 14 j (τ 23 0)) n A D := hl.fr hf (fun k hk => by simp; omega)
      have hC1 : Cd (su τ 14 j (τ 23 0)) (cdl κ nI (tT κ (Bf κ n) A D n) A n j) := ⟨by rw [hf 23 (by simp)]; exact hC.1, fun p hp => by rw [hf 12 (by simp), hf 13 (by simp)]; exact hC.2 p hp⟩
      have h14' : ∀ x, x < j + 1 → su τ 14 j (τ 23 0) 14 x = nI (cum κ (tT κ (Bf κ n) A D n) A n x) := fun x hx => by
        by_cases e : x = j
        · rw [e, p_sus]; exact hC.1
        · rw [p_sun e]; exact h14 x (by omega)
      rw [p_ld (by omega) (by decide), Option.bind_some, hl1.2.1.2.2.2 j hjn]
      -- going on
      have go : ∀ τ1 : SS, Fr [12, 13, 15, 23] (su τ 14 j (τ 23 0)) τ1 → Cd τ1 (cdl κ nI (tT κ (Bf κ n) A D n) A n (j + 1)) → ∃ τ' : SS, b_MO_work_49 m (nI (j + 1)) τ1 = some τ' ∧ Fr [12, 13, 14, 15, 23] τ τ' ∧ Cd τ' (FC κ (tT κ (Bf κ n) A D n) A n) := by
        intro τ1 f1 f2
        obtain ⟨τ', d1, d2, d3⟩ := ih (j + 1) τ1 (hl1.fr f1 (fun k hk => by simp; omega)) (by omega) (by omega) f2 (fun x hx => by rw [f1 14 (by simp)]; exact h14' x hx)
        exact ⟨τ', d1, ((hf.mono (by simp)).tr (f1.mono (by simp))).tr d2, d3⟩
      have hcd : ∀ W, W = (if car (tT κ (Bf κ n) A D n) n j then [] else blk κ nI (tT κ (Bf κ n) A D n) A n j) → cdl κ nI (tT κ (Bf κ n) A D n) A n (j + 1) = cdl κ nI (tT κ (Bf κ n) A D n) A n j ++ W := fun W h => by rw [h]; rfl
      cases hg : gl (tT κ (Bf κ n) A D n) n j with
      | some k =>
        rw [if_pos (show (0 : Int32) ≤ oI (some k) from nI_le (a := 0) (by omega) (by have := gl_lt n k hg; omega)), nI_1]
        refine go _ Fr.rf ?_
        rw [hcd [] (by unfold car; rw [hg]; rfl), List.append_nil]
        exact hC1
      | none =>
        have hcar : car (tT κ (Bf κ n) A D n) n j = false := by unfold car; rw [hg]; rfl
        rw [if_neg (show ¬ (0 : Int32) ≤ oI none by decide)]
        obtain ⟨τ2, a1, a2, a3⟩ := m_writeTree hl1 hjn hC1 (by omega)
        rw [a1, Option.bind_some]
        have hl2 : LM κ τ2 n A D := hl1.fr a2 (fun k hk => by simp; omega)
        have hrt2 := hl2.2.1.1.1.1.2 j hjn
        rw [m_isW (by omega) hrt2, Option.bind_some]
        simp only [b2_z]
        rw [hl2.1.wRq]
        have hblk : ∀ W, W = (if wR κ j then endl κ A j else []) → blk κ nI (tT κ (Bf κ n) A D n) A n j = tr κ nI (tT κ (Bf κ n) A D n) j ++ W := fun W h => by
          rw [h]; unfold blk; rw [hcar]; simp
        cases hw : wR κ j with
        | false =>
          rw [if_pos rfl, nI_1]
          refine go τ2 a2 ?_
          rw [hcd (blk κ nI (tT κ (Bf κ n) A D n) A n j) (by rw [hcar]; rfl), hblk [] (by rw [hw]; rfl), List.append_nil]
          exact a3
        | true =>
          rw [if_neg (by simp)]
          have hwant : f_MO_isWanted (nI j) τ2 = some (b2 (bt (A j) (dN κ j)), τ2) := by
            subst hA
            exact m_wanted hl2 hfx hjn
          have hlen : (cdl κ nI (tT κ (Bf κ n) A D n) A n j ++ tr κ nI (tT κ (Bf κ n) A D n) j).length < 600 := by rw [List.length_append]; omega
          unfold b_MO_work_103
          rw [hwant, Option.bind_some]
          simp only [b2_z]
          rw [hwant, Option.bind_some, nI_1]
          simp only [b2_z]
          cases hb : bt (A j) (dN κ j) with
          | false =>
            rw [if_pos rfl, if_pos rfl]
            obtain ⟨τ3, b1, b2', b3⟩ := m_emit (x := 3) (y := 0) a3 hlen
            rw [b1, Option.bind_some]
            refine go τ3 (a2.tr (b2'.mono (by simp))) ?_
            rw [hcd (blk κ nI (tT κ (Bf κ n) A D n) A n j) (by rw [hcar]; rfl), hblk [(3, 0)] (by rw [hw]; unfold endl; rw [hb]; rfl), ← List.append_assoc]
            exact b3
          | true =>
            rw [if_neg (by simp), Option.bind_some, if_neg (show ¬ b2 true = 0 by decide), p_ld (by omega) (by decide), Option.bind_some]
            obtain ⟨τ3, b1, b2', b3⟩ := m_emit (x := 2) (y := τ2 1 j) a3 hlen
            rw [b1, Option.bind_some]
            refine go τ3 (a2.tr (b2'.mono (by simp))) ?_
            rw [hcd (blk κ nI (tT κ (Bf κ n) A D n) A n j) (by rw [hcar]; rfl), hblk [(2, κ 1 j)] (by rw [hw]; unfold endl; rw [hb]; rfl), ← List.append_assoc, ← hl2.1 1 (by omega)]
            exact b3
    · have : j = n := by omega
      subst this
      have hlc := cum_le (κ := κ) (B := Bf κ j) (A := A) (D := D) hn4 (Nat.le_refl j)
      rw [if_pos (nI_le (by omega) (by omega)), p_sto (by omega) (by decide), Option.bind_some]
      have hf : Fr [14] τ (su τ 14 j (τ 23 0)) := Fr.su (by simp)
      have hC1 : Cd (su τ 14 j (τ 23 0)) (cdl κ nI (tT κ (Bf κ j) A D j) A j j) := ⟨by rw [hf 23 (by simp)]; exact hC.1, fun p hp => by rw [hf 12 (by simp), hf 13 (by simp)]; exact hC.2 p hp⟩
      obtain ⟨τ1, a1, a2, a3⟩ := m_emit (x := 14) (y := 0) hC1 (show cum κ (tT κ (Bf κ j) A D j) A j j < 600 by omega)
      rw [a1, Option.bind_some]
      have hl1 : LM κ τ1 j A D := (hl.fr hf (fun k hk => by simp; omega)).fr a2 (fun k hk => by simp; omega)
      have hlen : (cdl κ nI (tT κ (Bf κ j) A D j) A j j ++ [((14 : Int32), (0 : Int32))]).length = cum κ (tT κ (Bf κ j) A D j) A j j + 1 := by rw [List.length_append]; rfl
      obtain ⟨τ', d1, d2, d3⟩ := m_152 (κ := κ) (n := j) (D := D) (A := A) FU 0 τ1 hl1 (by omega) (by unfold FU; omega) (by rw [a3.1, hlen]) (fun x hx => by
        rw [a2 14 (by simp)]
        by_cases e : x = j
        · rw [e, p_sus]; exact hC.1
        · rw [p_sun e]; exact h14 x (by omega)) (fun q hq => by omega) (fun q _ h4 => a3.2 q (by rw [hlen]; exact h4))
      refine ⟨τ', d1, ((hf.mono (by simp)).tr (a2.mono (by simp))).tr (d2.mono (by simp)), ?_, fun p hp => d3 p ?_⟩
      · rw [d2 23 (by simp), a3.1, hlen]
        unfold FC
        rw [List.length_append, cumPL (Nat.le_refl _)]
        rfl
      · unfold FC at hp
        rw [List.length_append, cumPL (Nat.le_refl _)] at hp
        exact hp
/-- the reference has worked; κ has the code -/
def DnM (κ τ : SS) (n D : Nat) (L : Nat → Int32) : Prop := Fix κ n L ∧ (∀ j, j < n → τ 5 j = L j) ∧ LM κ τ n (aft κ n L) D ∧ Cd τ (FC κ (tT κ (Bf κ n) (aft κ n L) D n) (aft κ n L) n)
theorem m_23 {κ : SS} {n D : Nat} {L A : Nat → Int32} (hA : A = aft κ n L) (hfx : Fix κ n L) (hD : D ≤ 8) : ∀ (m j : Nat) (τ : SS), Eqc τ κ → j ≤ n → n - j < m → SgM κ τ n A D j → ∃ τ' : SS, b_MO_work_23 m (nI j) τ = some τ' ∧ Fr [6, 7, 8, 9, 10, 11, 12, 13, 14, 15, 23] τ τ' ∧ LM κ τ' n A D ∧ Cd τ' (FC κ (tT κ (Bf κ n) A D n) A n) := by
  intro m
  induction m with
  | zero => intro j τ _ _ h; omega
  | succ m ih =>
    intro j τ he hj hm hs
    have hn4 := hs.1.1.1.1
    rw [b_MO_work_23, hs.1.1.2]
    by_cases hjn : j < n
    · obtain ⟨τ1, a1, a2, a3⟩ := m_stage he hjn hD hs
      rw [if_neg (nI_ge hjn (by omega)), a1, Option.bind_some, nI_1]
      obtain ⟨τ', d1, d2, d3⟩ := ih (j + 1) τ1 (fun k hk => (a2.eqc (fun k hk => by simp; omega) k hk).trans (he k hk)) (by omega) (by omega) a3
      exact ⟨τ', d1, (a2.mono (by simp)).tr d2, d3⟩
    · have : j = n := by omega
      subst this
      rw [if_pos (nI_le (by omega) (by omega)), p_sf, Option.bind_some]
      have hf : Fr [23] τ (su τ 23 0 0) := Fr.su (by simp)
      have hl : LM κ τ j A D := ⟨he, hs, hD⟩
      have hl1 : LM κ (su τ 23 0 0) j A D := hl.fr hf (fun k hk => by simp; omega)
      obtain ⟨τ', d1, d2, d3⟩ := m_49 (κ := κ) (n := j) (D := D) hA hfx FU 0 (su τ 23 0 0) hl1 (by omega) (by unfold FU; omega) ⟨by rw [p_sus]; rfl, fun p hp => absurd hp (Nat.not_lt_zero _)⟩ (fun x hx => by omega)
      have d1 : b_MO_work_49 FU 0 (su τ 23 0 0) = some τ' := d1
      rw [d1]
      exact ⟨τ', rfl, (hf.mono (by simp)).tr (d2.mono (by simp)), hl1.fr d2 (fun k hk => by simp; omega), d3⟩
theorem m_work {κ τ : SS} {n D : Nat} (he : Eqc τ κ) (hc : CM τ n) (hD : D ≤ 8) (h20 : τ 20 0 = nI D) (h22 : τ 22 0 = 0) : ∃ (L : Nat → Int32) (τ' : SS), f_MO_work τ = some τ' ∧ Fr [4, 5, 6, 7, 8, 9, 10, 11, 12, 13, 14, 15, 22, 23] τ τ' ∧ DnM κ τ' n D L ∧ τ' 22 0 = 1 := by
  unfold f_MO_work
  rw [if_pos h22, p_sf, Option.bind_some]
  have hf0 : Fr [22] τ (su τ 22 0 1) := Fr.su (by simp)
  have hc0 : CM (su τ 22 0 1) n := hc.fr hf0 (fun k hk => by simp; omega)
  obtain ⟨τ1, a1, a2, a3, a4⟩ := m_blocks hc0
  have hc1 : CM τ1 n := hc0.fr a2 (fun k hk => by simp; omega)
  rw [a1, Option.bind_some]
  obtain ⟨τ2, b1, b2', b3⟩ := m_alive hc1 a3
  rw [b1, Option.bind_some]
  have he0 : Eqc (su τ 22 0 1) κ := fun k hk => (hf0.eqc (fun k hk => by simp; omega) k hk).trans (he k hk)
  have he1 : Eqc τ1 κ := fun k hk => (a2.eqc (fun k hk => by simp; omega) k hk).trans (he0 k hk)
  have he2 : Eqc τ2 κ := fun k hk => (b2'.eqc (fun k hk => by simp; omega) k hk).trans (he1 k hk)
  have hfx : Fix κ n (τ2 5) := he1.fxq b3
  have hc2 : CM τ2 n := hc1.fr b2' (fun k hk => by simp; omega)
  have hK : KM τ2 n (aft κ n (τ2 5)) := ⟨hc2, fun j hj => by rw [b2' 4 (by simp), a4 j hj]; show _ = b2 (Bf τ2 n j); rw [he2.bfq, ← he0.bfq]; rfl, fun i => by rw [he2.aftq]⟩
  have hn4 := hc.1.1
  obtain ⟨τ', d1, d2, d3, d4⟩ := m_23 (κ := κ) (n := n) (D := D) (L := τ2 5) rfl hfx hD FU 0 τ2 he2 (by omega) (by unfold FU; omega) ⟨hK, by rw [b2' 20 (by simp), a2 20 (by simp), hf0 20 (by simp)]; exact h20, fun i hi => by omega, fun i hi => by omega⟩
  have d1 : b_MO_work_23 FU 0 τ2 = some τ' := d1
  rw [d1]
  refine ⟨τ2 5, τ', rfl, (((hf0.mono (by simp)).tr (a2.mono (by simp))).tr (b2'.mono (by simp))).tr (d2.mono (by simp)), ⟨hfx, fun j _ => by rw [d2 5 (by simp)], d3, d4⟩, ?_⟩
  rw [d2 22 (by simp), b2' 22 (by simp), a2 22 (by simp), p_sus]
