-- ===== the class's sweeps =====
theorem c_setOf {x : Int32} {σ : SS} {r : Nat} (b : Bool) (hx : x = if b then nI r else -1) (hr : b = true → r < 10) : f_FL_setOf x σ = some (if b then sb r else 0, σ) := by
  unfold f_FL_setOf
  cases b with
  | false => rw [hx]; rfl
  | true =>
    rw [hx, if_pos rfl, if_neg (p_nm1 (by have := hr rfl; omega)), if_pos rfl]
    rfl
theorem c_liveB {σ : SS} {i n : Nat} (hn : σ 25 0 = nI n) (hn4 : n ≤ 40) (hi : i < 2 ^ 30) : f_FL_liveBefore (nI i) σ = some (lat n (σ 8) i, σ) := by
  unfold f_FL_liveBefore lat
  rw [g_holds hn (by omega) (by omega)]
  by_cases h : i < n
  · simp only [if_pos h, Option.bind_some]
    rw [if_neg (by decide), p_ld (by omega) (by decide)]
    rfl
  · simp only [if_neg h, Option.bind_some]
    rw [if_pos trivial]
theorem c_gather {σ : SS} {i n : Nat} (hc : CC σ n) (hi : i < n) : f_FL_gatherAfter (nI i) σ = some (aft σ n (σ 8) i, σ) := by
  have hn4 := hc.1.1
  have hcn := hc.2.1
  obtain ⟨r1, r2, r3, r4, r5, r6, r7, r8⟩ := hc.1.2 i hi
  unfold f_FL_gatherAfter aft
  rw [g_op (by omega)]
  simp only [Option.bind_some]
  rw [r1]
  by_cases o9 : oN σ i = 9
  · obtain ⟨a1, a2, -⟩ := r5 (by omega)
    rw [o9, if_pos (by decide), if_neg (by decide), if_pos rfl, g_a (by omega)]
    simp only [Option.bind_some]
    rw [a1, c_liveB hcn hn4 (by omega)]
    rfl
  · rw [if_neg (show ¬ nI (oN σ i) = 9 from fun h => o9 ((lt_eq (by omega) (by omega)).mp h)), if_neg o9]
    by_cases o10 : oN σ i = 10
    · rw [o10, if_pos (by decide), if_neg (by decide), if_pos rfl, g_b (by omega)]
      simp only [Option.bind_some]
      rw [r6, c_liveB hcn hn4 (by omega)]
      simp only [Option.bind_some]
      rw [nI_1, c_liveB hcn hn4 (by omega)]
      rfl
    · rw [if_neg (show ¬ nI (oN σ i) = 10 from fun h => o10 ((lt_eq (by omega) (by omega)).mp h)), if_neg o10]
      by_cases o11 : oN σ i = 11
      · rw [o11, if_pos (by decide), if_pos rfl]
      · rw [if_neg (show ¬ nI (oN σ i) = 11 from fun h => o11 ((lt_eq (by omega) (by omega)).mp h)), if_neg o11, nI_1, c_liveB hcn hn4 (by omega)]
        rfl
theorem c_rowA {σ : SS} {n i : Nat} (hc : CC σ n) (hi : i < n) : σ 5 i = if rA σ i then nI (aN σ i) else -1 := by
  rw [(hc.2.2 i hi).2.1]
  by_cases h : rA σ i = true
  · rw [if_pos h, if_pos h, (rA_lt (hc.1.2 i hi) h).1]
  · rw [if_neg h, if_neg h]
theorem c_rowB {σ : SS} {n i : Nat} (hc : CC σ n) (hi : i < n) : σ 6 i = if rB σ i then nI (bN σ i) else -1 := by
  rw [(hc.2.2 i hi).2.2]
  by_cases h : rB σ i = true
  · rw [if_pos h, if_pos h, (rB_lt (hc.1.2 i hi) h).1]
  · rw [if_neg h, if_neg h]
theorem c_rowW {σ : SS} {n i : Nat} (hc : CC σ n) (hi : i < n) : σ 4 i = if wR σ i then nI (dN σ i) else -1 := by
  rw [(hc.2.2 i hi).1]
  by_cases h : wR σ i = true
  · rw [if_pos h, if_pos h, (hc.1.2 i hi).2.2.1]
  · rw [if_neg h, if_neg h]
/-- the loop's counter -/
def cdn (k : Nat) : Int32 := if k = 0 then -1 else nI (k - 1)
theorem cdn_s (k : Nat) : cdn (k + 1) = nI k := by unfold cdn; rw [if_neg (by omega)]; rfl
theorem cdn_d {k : Nat} (hk : k < 2 ^ 30) : nI k + (-1) = cdn k := by
  unfold cdn
  by_cases h : k = 0
  · subst h; decide
  · rw [if_neg h]; exact lt_am (by omega)
theorem cdn_b {k : Nat} (hk : k < 2 ^ 30) : nI k - 1 = cdn k := by
  rw [← cdn_d hk, Int32.sub_eq_add_neg]
theorem c_sweep {n : Nat} : ∀ (m k : Nat) (σ : SS) (ch : Int32), CC σ n → k ≤ n → k < m → (ch = 0 ∨ ch = 1) → Iv σ n (σ 8) → ∃ (ch' : Int32) (σ' : SS), b_FL_flowBack_12 m ch (cdn k) σ = some (ch', σ') ∧ Fr [8, 9] σ σ' ∧ (ch' = 0 ∨ ch' = 1) ∧ Up σ n (σ 8) (σ' 8) ∧ (ch = 1 → ch' = 1) ∧ (ch' = 0 → (∀ j, j < n → σ' 8 j = σ 8 j) ∧ (∀ j, j < k → σ 8 j = FF σ n (σ 8) j ∧ σ' 9 j = aft σ n (σ 8) j) ∧ ∀ j, k ≤ j → σ' 9 j = σ 9 j) ∧ (ch' = 1 → ch = 1 ∨ cL (σ 8) n < cL (σ' 8) n) := by
  intro m
  induction m with
  | zero => intro k σ ch _ _ h; omega
  | succ m ih =>
    intro k σ ch hc hk hm hch hI
    have hn4 := hc.1.1
    rw [b_FL_flowBack_12]
    cases k with
    | zero =>
      rw [if_pos (by decide)]
      refine ⟨ch, σ, ?_, Fr.rf, hch, ⟨hI, fun _ _ => sle.rf⟩, fun h => h, fun _ => ⟨fun _ _ => rfl, fun j hj => by omega, fun _ _ => rfl⟩, fun h => Or.inl h⟩
      rcases hch with rfl | rfl
      · exact p_rz0 σ
      · exact p_rz1 σ
    | succ i =>
      have hi : i < n := by omega
      rw [cdn_s, if_neg (nI_pos (by omega)), c_gather hc hi]
      simp only [Option.bind_some]
      rw [p_sto (by omega) (by decide)]
      simp only [Option.bind_some]
      have f1 : Fr [8, 9] σ (su σ 9 i (aft σ n (σ 8) i)) := Fr.su (by simp)
      rw [g_ra (by omega)]
      simp only [Option.bind_some]
      rw [f1 5 (by simp), c_setOf (rA σ i) (c_rowA hc hi) (fun h => (rA_lt (hc.1.2 i hi) h).2)]
      simp only [Option.bind_some]
      rw [g_rb (by omega)]
      simp only [Option.bind_some]
      rw [f1 6 (by simp), c_setOf (rB σ i) (c_rowB hc hi) (fun h => (rB_lt (hc.1.2 i hi) h).2)]
      simp only [Option.bind_some]
      rw [p_ld (by omega) (by decide)]
      simp only [Option.bind_some]
      rw [p_sus, g_w (by omega)]
      simp only [Option.bind_some]
      rw [f1 4 (by simp), c_setOf (wR σ i) (c_rowW hc hi) (fun _ => (hc.1.2 i hi).2.2.2.1)]
      simp only [Option.bind_some]
      rw [show (((if rA σ i = true then sb (aN σ i) else 0) ||| (if rB σ i = true then sb (bN σ i) else 0)) ||| (aft σ n (σ 8) i &&& ((if wR σ i = true then sb (dN σ i) else 0) ^^^ (-1)))) = FF σ n (σ 8) i from rfl]
      obtain ⟨σ2, hσ2⟩ : ∃ σ2, σ2 = su (su σ 9 i (aft σ n (σ 8) i)) 8 i (FF σ n (σ 8) i) := ⟨_, rfl⟩
      have f2 : Fr [8, 9] σ σ2 := by rw [hσ2]; exact f1.tr (Fr.su (by simp))
      have he : Eqc σ2 σ := f2.eqc (fun k hk => by simp; omega)
      have hc2 : CC σ2 n := hc.fr f2 (fun k hk => by simp; omega)
      have h8i : σ2 8 i = FF σ n (σ 8) i := by rw [hσ2, p_sus]
      have h8j : ∀ j, j ≠ i → σ2 8 j = σ 8 j := fun j hj => by rw [hσ2, p_sun hj, p_suk (by omega)]
      have h9i : σ2 9 i = aft σ n (σ 8) i := by rw [hσ2, p_suk (by omega), p_sus]
      have h9j : ∀ j, j ≠ i → σ2 9 j = σ 9 j := fun j hj => by rw [hσ2, p_suk (by omega), p_sun hj]
      obtain ⟨u1, u2⟩ := Up_1 hc.1 hi hI h8i (fun j _ hj => h8j j hj)
      have go : ∀ c1 : Int32, (c1 = 0 ∨ c1 = 1) → (c1 = 0 → ch = 0 ∧ σ 8 i = FF σ n (σ 8) i) → (c1 = 1 → ch = 1 ∨ cL (σ 8) n < cL (σ2 8) n) → ∃ (ch' : Int32) (σ' : SS), b_FL_flowBack_12 m c1 (nI i + (-1)) σ2 = some (ch', σ') ∧ Fr [8, 9] σ σ' ∧ (ch' = 0 ∨ ch' = 1) ∧ Up σ n (σ 8) (σ' 8) ∧ (ch = 1 → ch' = 1) ∧ (ch' = 0 → (∀ j, j < n → σ' 8 j = σ 8 j) ∧ (∀ j, j < i + 1 → σ 8 j = FF σ n (σ 8) j ∧ σ' 9 j = aft σ n (σ 8) j) ∧ ∀ j, i + 1 ≤ j → σ' 9 j = σ 9 j) ∧ (ch' = 1 → ch = 1 ∨ cL (σ 8) n < cL (σ' 8) n) := by
        intro c1 hc1 h0 h1
        have hI2 : Iv σ2 n (σ2 8) := by unfold Iv; rw [he.ffq]; exact u1.1
        obtain ⟨ch', σ', e1, e2, e3, e4, e5, e6, e7⟩ := ih i σ2 c1 hc2 (by omega) (by omega) hc1 hI2
        rw [cdn_d (by omega)]
        rw [he.ffq, he.aftq] at e6
        have e4 : Up σ n (σ2 8) (σ' 8) := by unfold Up Iv at e4 ⊢; rw [he.ffq] at e4; exact e4
        refine ⟨ch', σ', e1, f2.tr e2, e3, u1.tr e4, ?_, ?_, ?_⟩
        · intro hh
          apply e5
          rcases hc1 with hz | hz
          · exact absurd ((h0 hz).1.symm.trans hh) (by decide)
          · exact hz
        · intro hz
          obtain ⟨g1, g2, g3⟩ := e6 hz
          have c10 : c1 = 0 := by
            rcases hc1 with h | h
            · exact h
            · exact absurd (hz.symm.trans (e5 h)) (by decide)
          obtain ⟨-, hfix⟩ := h0 c10
          have same : ∀ j, j < n → σ2 8 j = σ 8 j := by
            intro j hj
            by_cases e : j = i
            · subst e; rw [h8i, ← hfix]
            · exact h8j j e
          refine ⟨fun j hj => (g1 j hj).trans (same j hj), fun j hj => ?_, fun j hj => by rw [g3 j (by omega), h9j j (by omega)]⟩
          by_cases e : j = i
          · subst e
            exact ⟨hfix, by rw [g3 j (Nat.le_refl _), h9i]⟩
          · obtain ⟨z1, z2⟩ := g2 j (by omega)
            rw [FF_c same, same j (by omega)] at z1
            rw [aft_c same] at z2
            exact ⟨z1, z2⟩
        · intro hz
          rcases e7 hz with h | h
          · rcases h1 h with g | g
            · exact Or.inl g
            · exact Or.inr (Nat.lt_of_lt_of_le g (cL_m n e4.2))
          · exact Or.inr (Nat.lt_of_le_of_lt (cL_m n u1.2) h)
      by_cases hz : ch = 0
      · rw [if_pos hz, p_suK (show (8 : Nat) ≠ 9 by omega), p_ld (by omega) (by decide)]
        simp only [Option.bind_some]
        by_cases hv : FF σ n (σ 8) i = σ 8 i
        · rw [if_pos hv, p_sto (by omega) (by decide)]
          simp only [Option.bind_some]
          rw [← hσ2]
          exact go 0 (Or.inl rfl) (fun _ => ⟨hz, hv.symm⟩) (fun h => absurd h (by decide))
        · rw [if_neg hv, p_sto (by omega) (by decide)]
          simp only [Option.bind_some]
          rw [← hσ2]
          exact go 1 (Or.inr rfl) (fun h => absurd h (by decide)) (fun _ => Or.inr (u2 (by rw [h8i]; exact hv)))
      · have h1 : ch = 1 := hch.resolve_left hz
        rw [if_neg hz, p_sto (by omega) (by decide)]
        simp only [Option.bind_some]
        rw [← hσ2]
        exact go 1 (Or.inr rfl) (fun h => absurd h (by decide)) (fun _ => Or.inl h1)
theorem c_flowE {n : Nat} {σ : SS} (hc : CC σ n) : f_FL_flowBack σ = b_FL_flowBack_12 FU 0 (cdn n) σ := by
  have hn4 := hc.1.1
  unfold f_FL_flowBack
  rw [g_count, Option.bind_some, hc.2.1, cdn_b (by omega)]
/-- class: one whole sweep -/
theorem c_flowBack {n : Nat} {σ : SS} (hc : CC σ n) (hI : Iv σ n (σ 8)) : ∃ (ch' : Int32) (σ' : SS), f_FL_flowBack σ = some (ch', σ') ∧ Fr [8, 9] σ σ' ∧ (ch' = 0 ∨ ch' = 1) ∧ Up σ n (σ 8) (σ' 8) ∧ (ch' = 0 → (∀ j, j < n → σ' 8 j = σ 8 j) ∧ (∀ j, j < n → σ 8 j = FF σ n (σ 8) j ∧ σ' 9 j = aft σ n (σ 8) j)) ∧ (ch' = 1 → cL (σ 8) n < cL (σ' 8) n) := by
  have hn4 := hc.1.1
  rw [c_flowE hc]
  obtain ⟨ch', σ', e1, e2, e3, e4, e5, e6, e7⟩ := c_sweep FU n σ 0 hc (Nat.le_refl _) (by unfold FU; omega) (Or.inl rfl) hI
  exact ⟨ch', σ', e1, e2, e3, e4, fun h => ⟨(e6 h).1, (e6 h).2.1⟩, fun h => (e7 h).resolve_left (by decide)⟩
/-- what both end with -/
def Fix (κ : SS) (n : Nat) (L : Nat → Int32) : Prop := (∀ j, j < n → L j = FF κ n L j) ∧ Iv κ n L
theorem Fix_one {κ : SS} {n : Nat} {L L' : Nat → Int32} (h : Fix κ n L) (h' : Fix κ n L') : ∀ j, j < n → L j = L' j := fun j hj => (h.2.2.2 L' h'.1 j hj).an (h'.2.2.2 L h.1 j hj)
theorem c_rounds {n : Nat} : ∀ (m r : Nat) (σ : SS) (ch : Int32), CC σ n → Iv σ n (σ 8) → (ch = 0 ∨ ch = 1) → r ≤ cL (σ 8) n ∨ ch = 0 → r ≤ 401 → 402 - r < m → (ch = 0 → Fix σ n (σ 8) ∧ ∀ j, j < n → σ 9 j = aft σ n (σ 8) j) → ∃ σ', b_FL_trace_34 m ch (nI r) σ = some σ' ∧ Fr [8, 9] σ σ' ∧ Fix σ n (σ' 8) ∧ ∀ j, j < n → σ' 9 j = aft σ n (σ' 8) j := by
  intro m
  induction m with
  | zero => intro r σ ch _ _ _ _ _ h; omega
  | succ m ih =>
    intro r σ ch hc hI hch hr hr4 hm hfx
    have hn4 := hc.1.1
    rw [b_FL_trace_34]
    by_cases hz : ch = 0
    · rw [if_pos hz]
      exact ⟨σ, rfl, Fr.rf, (hfx hz).1, (hfx hz).2⟩
    · rw [if_neg hz]
      have hle := cL_le (σ 8) n
      have hr1 : r ≤ cL (σ 8) n := hr.resolve_right hz
      rw [if_neg (show ¬ (401 : Int32) ≤ nI r from fun h => by have : 401 ≤ r := (nI_leI (a := 401) (by omega) (by omega)).mp h; omega)]
      obtain ⟨c1, σ1, e1, e2, e3, e4, e5, e6⟩ := c_flowBack hc hI
      rw [e1]
      simp only [Option.bind_some, nI_1]
      have he : Eqc σ1 σ := e2.eqc (fun k hk => by simp; omega)
      have hc1 : CC σ1 n := hc.fr e2 (fun k hk => by simp; omega)
      have hI1 : Iv σ1 n (σ1 8) := by unfold Iv; rw [he.ffq]; exact e4.1
      obtain ⟨σ', g1, g2, g3, g4⟩ := ih (r + 1) σ1 c1 hc1 hI1 e3 (by
        rcases e3 with h | h
        · exact Or.inr h
        · exact Or.inl (by have := e6 h; omega)) (by omega) (by omega) (by
        intro h
        obtain ⟨s1, s2⟩ := e5 h
        refine ⟨⟨fun j hj => ?_, hI1⟩, fun j hj => ?_⟩
        · rw [he.ffq, FF_c s1, s1 j hj]; exact (s2 j hj).1
        · rw [he.aftq, aft_c s1]; exact (s2 j hj).2)
      refine ⟨σ', g1, e2.tr g2, ?_, ?_⟩
      · unfold Fix Iv at g3 ⊢; rw [he.ffq] at g3; exact g3
      · rw [he.aftq] at g4; exact g4
theorem c_trace6 {n : Nat} : ∀ (m i : Nat) (σ : SS), CC σ n → i ≤ n → n - i < m → (∀ j, j < i → σ 8 j = 0) → ∃ σ', b_FL_trace_6 m (nI i) σ = some σ' ∧ Fr [8, 9] σ σ' ∧ Fix σ n (σ' 8) ∧ ∀ j, j < n → σ' 9 j = aft σ n (σ' 8) j := by
  intro m
  induction m with
  | zero => intro i σ _ _ h; omega
  | succ m ih =>
    intro i σ hc hi hm h0
    have hn4 := hc.1.1
    rw [b_FL_trace_6]
    simp only [g_count, Option.bind_some, hc.2.1]
    by_cases hin : i < n
    · rw [if_neg (nI_ge hin (by omega)), p_sto (by omega) (by decide)]
      simp only [Option.bind_some, nI_1]
      have f1 : Fr [8, 9] σ (su σ 8 i 0) := Fr.su (by simp)
      have he : Eqc (su σ 8 i 0) σ := f1.eqc (fun k hk => by simp; omega)
      obtain ⟨σ', g1, g2, g3, g4⟩ := ih (i + 1) _ (hc.fr f1 (fun k hk => by simp; omega)) (by omega) (by omega) (fun j hj => by
        rw [p_su, if_pos rfl]
        by_cases e : j = i
        · rw [if_pos e]
        · rw [if_neg e]; exact h0 j (by omega))
      refine ⟨σ', g1, f1.tr g2, ?_, ?_⟩
      · unfold Fix Iv at g3 ⊢; rw [he.ffq] at g3; exact g3
      · rw [he.aftq] at g4; exact g4
    · rw [if_pos (nI_le (by omega) (by omega))]
      exact c_rounds FU 0 σ 1 hc (Iv_0 (fun j hj => h0 j (by omega))) (Or.inr rfl) (Or.inl (Nat.zero_le _)) (by omega) (by unfold FU; omega) (fun h => absurd h (by decide))
/-- class: trace -/
theorem c_trace {n : Nat} {σ : SS} (hc : CC σ n) : ∃ σ', f_FL_trace σ = some σ' ∧ Fr [7, 8, 9] σ σ' ∧ (∀ j, j < n → σ' 7 j = b2 (bg σ n j)) ∧ Fix σ n (σ' 8) ∧ ∀ j, j < n → σ' 9 j = aft σ n (σ' 8) j := by
  have hn4 := hc.1.1
  unfold f_FL_trace
  obtain ⟨σ1, e1, e2, e3⟩ := c_blocks hc
  rw [e1]
  simp only [Option.bind_some]
  have he : Eqc σ1 σ := e2.eqc (fun k hk => by simp; omega)
  obtain ⟨σ', g1, g2, g3, g4⟩ := c_trace6 FU 0 σ1 (hc.fr e2 (fun k hk => by simp; omega)) (by omega) (by unfold FU; omega) (fun j hj => by omega)
  refine ⟨σ', g1, (e2.mono (by simp)).tr (g2.mono (by simp)), fun j hj => by rw [g2 7 (by simp)]; exact e3 j hj, ?_, ?_⟩
  · unfold Fix Iv at g3 ⊢; rw [he.ffq] at g3; exact g3
  · rw [he.aftq] at g4; exact g4
