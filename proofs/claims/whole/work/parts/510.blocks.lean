-- ===== where blocks begin =====
/-- does instruction j make place i begin a block -/
def tg (κ : SS) (j i : Nat) : Bool := (oN κ j == 9 && aN κ j == i) || (oN κ j == 10 && bN κ j == i) || ((oN κ j == 9 || oN κ j == 10 || oN κ j == 11) && i == j + 1)
def bg (κ : SS) : Nat → Nat → Bool
  | 0, i => i == 0
  | m + 1, i => bg κ m i || tg κ m i
def b2 (x : Bool) : Int32 := if x then 1 else 0
theorem bnq {a b : Nat} (h : ¬ a = b) : (a == b) = false := by simp [h]
theorem b2_t : b2 true = 1 := rfl
theorem b2_f : b2 false = 0 := rfl
theorem b2_or (x y : Bool) : (if y then (1 : Int32) else b2 x) = b2 (x || y) := by cases x <;> cases y <;> rfl
theorem Eqc.tgq {κ κ' : SS} (h : Eqc κ κ') : tg κ = tg κ' := by funext j i; unfold tg; rw [h.o, h.a, h.b]
theorem Eqc.bgq {κ κ' : SS} (h : Eqc κ κ') : ∀ m, bg κ m = bg κ' m := by
  intro m
  induction m with
  | zero => rfl
  | succ m ih => funext i; show (_ || _) = (_ || _); rw [ih, h.tgq]
/-- class: markBegin -/
theorem c_mark {σ : SS} {i n : Nat} (hn : σ 25 0 = nI n) (hn4 : n ≤ 40) (hi : i < 2 ^ 30) : f_FL_markBegin (nI i) σ = some (if i < n then su σ 7 i 1 else σ) := by
  unfold f_FL_markBegin
  rw [g_holds hn (by omega) (by omega)]
  by_cases h : i < n
  · simp only [if_pos h, Option.bind_some]
    rw [if_neg (by decide), p_nz1, p_sto (by omega) (by decide)]
    rfl
  · simp only [if_neg h, Option.bind_some]
    rw [if_pos trivial]
/-- what one marks -/
def mk7 (n : Nat) (σ : SS) (i : Nat) : SS := if i < n then su σ 7 i 1 else σ
theorem mk7_fr {n : Nat} {σ : SS} {i : Nat} : Fr [7] σ (mk7 n σ i) := by
  unfold mk7
  by_cases h : i < n
  · rw [if_pos h]; exact Fr.su (by simp)
  · rw [if_neg h]; exact Fr.rf
theorem mk7_at {n : Nat} {σ : SS} {i j : Nat} (hj : j < n) : mk7 n σ i 7 j = if j = i then 1 else σ 7 j := by
  unfold mk7
  by_cases h : i < n
  · rw [if_pos h, p_su, if_pos rfl]
  · rw [if_neg h, if_neg (by omega)]
theorem c_blocks2 {n : Nat} : ∀ (m i : Nat) (σ : SS), CC σ n → i ≤ n → n - i < m → (∀ j, j < n → σ 7 j = b2 (bg σ i j)) → ∃ σ', b_FL_markBlocks_36 m (nI i) σ = some σ' ∧ Fr [7] σ σ' ∧ ∀ j, j < n → σ' 7 j = b2 (bg σ n j) := by
  intro m
  induction m with
  | zero => intro i σ _ _ h; omega
  | succ m ih =>
    intro i σ hc hi hm h7
    have hn4 := hc.1.1
    have hcn := hc.2.1
    rw [b_FL_markBlocks_36]
    simp only [g_count, Option.bind_some, hcn]
    by_cases hin : i < n
    · rw [if_neg (nI_ge hin (by omega))]
      rw [g_op (by omega)]
      simp only [Option.bind_some]
      obtain ⟨r1, r2, r3, r4, r5, r6, r7, r8⟩ := hc.1.2 i hin
      -- the next contents
      have key : ∀ σ1 : SS, Fr [7] σ σ1 → (∀ j, j < n → σ1 7 j = b2 (bg σ (i + 1) j)) → ∃ σ', b_FL_markBlocks_36 m (nI i + 1) σ1 = some σ' ∧ Fr [7] σ σ' ∧ ∀ j, j < n → σ' 7 j = b2 (bg σ n j) := by
        intro σ1 hf h1
        have hs : ∀ k, k < 7 ∨ k = 25 → k ∉ [7] := by intro k hk; simp; omega
        have he := hf.eqc (fun k hk => hs k (Or.inl (by omega)))
        obtain ⟨σ', e1, e2, e3⟩ := ih (i + 1) σ1 (hc.fr hf hs) (by omega) (by omega) (by rw [he.bgq]; exact h1)
        rw [nI_1]
        exact ⟨σ', e1, hf.tr e2, by rw [he.bgq] at e3; exact e3⟩
      have hs : ∀ (σ1 : SS), Fr [7] σ σ1 → σ1 25 0 = nI n := fun σ1 hf => by rw [hf 25 (by simp)]; exact hcn
      by_cases o9 : oN σ i = 9
      · rw [r1, o9, if_pos (by decide), g_a (by omega)]
        simp only [Option.bind_some]
        obtain ⟨a1, a2, -⟩ := r5 (by omega)
        rw [a1, c_mark hcn hn4 (by omega)]
        simp only [Option.bind_some, nI_1]
        have f1 : Fr [7] σ (mk7 n σ (aN σ i)) := mk7_fr
        rw [show (if aN σ i < n then su σ 7 (aN σ i) 1 else σ) = mk7 n σ (aN σ i) from rfl, c_mark (hs _ f1) hn4 (by omega)]
        simp only [Option.bind_some]
        rw [← nI_1]
        refine key _ (f1.tr mk7_fr) (fun j hj => ?_)
        rw [show (if i + 1 < n then su (mk7 n σ (aN σ i)) 7 (i + 1) 1 else mk7 n σ (aN σ i)) = mk7 n (mk7 n σ (aN σ i)) (i + 1) from rfl, mk7_at hj, mk7_at hj, h7 j hj]
        show _ = b2 (bg σ i j || tg σ i j)
        unfold tg
        rw [o9]
        by_cases e1 : j = i + 1
        · rw [if_pos e1, e1]; simp [b2]
        · rw [if_neg e1]
          by_cases e2 : j = aN σ i
          · rw [if_pos e2, e2]; simp [b2]
          · rw [if_neg e2]
            congr 1
            have : (aN σ i == j) = false := by simp; omega
            simp [this, bnq e1]
      · rw [r1, if_neg (show ¬ nI (oN σ i) = 9 from fun h => o9 ((lt_eq (by omega) (by omega)).mp h))]
        by_cases o10 : oN σ i = 10
        · rw [o10, if_pos (by decide), g_b (by omega)]
          simp only [Option.bind_some]
          rw [r6, c_mark hcn hn4 (by omega)]
          simp only [Option.bind_some, nI_1]
          have f1 : Fr [7] σ (mk7 n σ (bN σ i)) := mk7_fr
          rw [show (if bN σ i < n then su σ 7 (bN σ i) 1 else σ) = mk7 n σ (bN σ i) from rfl, c_mark (hs _ f1) hn4 (by omega)]
          simp only [Option.bind_some]
          rw [← nI_1]
          refine key _ (f1.tr mk7_fr) (fun j hj => ?_)
          rw [show (if i + 1 < n then su (mk7 n σ (bN σ i)) 7 (i + 1) 1 else mk7 n σ (bN σ i)) = mk7 n (mk7 n σ (bN σ i)) (i + 1) from rfl, mk7_at hj, mk7_at hj, h7 j hj]
          show _ = b2 (bg σ i j || tg σ i j)
          unfold tg
          rw [o10]
          by_cases e1 : j = i + 1
          · rw [if_pos e1, e1]; simp [b2]
          · rw [if_neg e1]
            by_cases e2 : j = bN σ i
            · rw [if_pos e2, e2]; simp [b2]
            · rw [if_neg e2]
              congr 1
              have : (bN σ i == j) = false := by simp; omega
              simp [this, bnq e1]
        · rw [if_neg (show ¬ nI (oN σ i) = 10 from fun h => o10 ((lt_eq (by omega) (by omega)).mp h))]
          by_cases o11 : oN σ i = 11
          · rw [o11, if_pos (by decide), nI_1, c_mark hcn hn4 (by omega)]
            simp only [Option.bind_some]
            rw [← nI_1]
            refine key _ mk7_fr (fun j hj => ?_)
            rw [show (if i + 1 < n then su σ 7 (i + 1) 1 else σ) = mk7 n σ (i + 1) from rfl, mk7_at hj, h7 j hj]
            show _ = b2 (bg σ i j || tg σ i j)
            unfold tg
            rw [o11]
            by_cases e1 : j = i + 1
            · rw [if_pos e1, e1]; simp [b2]
            · rw [if_neg e1]; simp [bnq e1]
          · rw [if_neg (show ¬ nI (oN σ i) = 11 from fun h => o11 ((lt_eq (by omega) (by omega)).mp h))]
            refine key σ Fr.rf (fun j hj => ?_)
            rw [h7 j hj]
            show _ = b2 (bg σ i j || tg σ i j)
            unfold tg
            have h9 : (oN σ i == 9) = false := by simp [o9]
            have h10 : (oN σ i == 10) = false := by simp [o10]
            have h11 : (oN σ i == 11) = false := by simp [o11]
            simp [h9, h10, h11]
    · rw [if_pos (nI_le (by omega) (by omega))]
      have : i = n := by omega
      subst this
      exact ⟨σ, rfl, Fr.rf, h7⟩
theorem c_blocks1 {n : Nat} : ∀ (m i : Nat) (σ : SS), CC σ n → i ≤ n → n - i < m → (∀ j, j < i → σ 7 j = b2 (j == 0)) → ∃ σ', b_FL_markBlocks_2 m (nI i) σ = some σ' ∧ Fr [7] σ σ' ∧ ∀ j, j < n → σ' 7 j = b2 (bg σ n j) := by
  intro m
  induction m with
  | zero => intro i σ _ _ h; omega
  | succ m ih =>
    intro i σ hc hi hm h7
    have hn4 := hc.1.1
    have hcn := hc.2.1
    rw [b_FL_markBlocks_2]
    simp only [g_count, Option.bind_some, hcn]
    by_cases hin : i < n
    · rw [if_neg (nI_ge hin (by omega))]
      have key : ∀ x : Int32, x = b2 (i == 0) → ∃ σ', b_FL_markBlocks_2 m (nI i + 1) (su σ 7 i x) = some σ' ∧ Fr [7] σ σ' ∧ ∀ j, j < n → σ' 7 j = b2 (bg σ n j) := by
        intro x hx
        have hf : Fr [7] σ (su σ 7 i x) := Fr.su (by simp)
        have hs : ∀ k, k < 7 ∨ k = 25 → k ∉ [7] := by intro k hk; simp; omega
        have he := hf.eqc (fun k hk => hs k (Or.inl (by omega)))
        obtain ⟨σ', e1, e2, e3⟩ := ih (i + 1) (su σ 7 i x) (hc.fr hf hs) (by omega) (by omega) (fun j hj => by
          rw [p_su, if_pos rfl]
          by_cases e : j = i
          · rw [if_pos e, hx, e]
          · rw [if_neg e]; exact h7 j (by omega))
        rw [nI_1]
        exact ⟨σ', e1, hf.tr e2, by rw [he.bgq] at e3; exact e3⟩
      by_cases e0 : i = 0
      · subst e0
        rw [if_pos (by decide), p_nz1, p_sto (by omega) (by decide)]
        simp only [Option.bind_some]
        exact key 1 rfl
      · rw [if_neg (show ¬ nI i = 0 from fun h => e0 ((lt_eq (by omega) (by omega)).mp h)), p_nz0, p_sto (by omega) (by decide)]
        simp only [Option.bind_some]
        refine key 0 ?_
        have : (i == 0) = false := by simp [e0]
        rw [this]; rfl
    · rw [if_pos (nI_le (by omega) (by omega))]
      have : i = n := by omega
      subst this
      exact c_blocks2 FU 0 σ hc (by omega) (by unfold FU; omega) (fun j hj => h7 j hj)
/-- class: markBlocks -/
theorem c_blocks {n : Nat} {σ : SS} (hc : CC σ n) : ∃ σ', f_FL_markBlocks σ = some σ' ∧ Fr [7] σ σ' ∧ ∀ j, j < n → σ' 7 j = b2 (bg σ n j) := by
  have hn4 := hc.1.1
  unfold f_FL_markBlocks
  exact c_blocks1 FU 0 σ hc (by omega) (by unfold FU; omega) (fun j hj => by omega)
-- ===== the reference =====
theorem m_in {x : Int32} {σ : SS} {a b o : Nat} (hx : x = nI o) (ho : o < 2 ^ 31) (ha : a < 2 ^ 31) (hb : b < 2 ^ 31) : f_MO_in x (nI a) (nI b) σ = some (b2 (decide (a ≤ o ∧ o ≤ b)), σ) := by
  subst hx
  unfold f_MO_in
  by_cases h1 : o < a
  · rw [if_pos (nI_lt h1 ha)]
    have : decide (a ≤ o ∧ o ≤ b) = false := by simp; omega
    rw [this]; rfl
  · rw [if_neg (nI_nlt (by omega) ho)]
    by_cases h2 : b < o
    · rw [if_pos (nI_lt h2 ho)]
      have : decide (a ≤ o ∧ o ≤ b) = false := by simp; omega
      rw [this]; rfl
    · rw [if_neg (nI_nlt (by omega) hb)]
      have : decide (a ≤ o ∧ o ≤ b) = true := by simp; omega
      rw [this]; rfl
theorem b2_z (x : Bool) : (b2 x = 0) ↔ x = false := by cases x <;> simp [b2]
theorem b2_o (x : Bool) : (b2 x = 1) ↔ x = true := by cases x <;> simp [b2]
theorem b2_rz (x : Bool) (σ : SS) : rz (b2 x) σ = some (b2 x, σ) := by cases x <;> first | exact p_rz0 σ | exact p_rz1 σ
theorem m_leaves {σ : SS} {i : Nat} (hi : i < 40) (hr : Rt σ i) : f_MO_leaves (nI i) σ = some (b2 (decide (9 ≤ oN σ i)), σ) := by
  unfold f_MO_leaves
  rw [p_ld hi (by decide)]
  simp only [Option.bind_some]
  rw [show f_MO_in (σ 0 i) (9 : Int32) (11 : Int32) σ = _ from m_in (a := 9) (b := 11) hr.1 (by have := hr.2.1; omega) (by decide) (by decide)]
  simp only [Option.bind_some, b2_rz]
  congr 3
  have := hr.2.1
  simp [this]
/-- places that begin a block in the reference's row: those, and all from n on -/
theorem m_blocks2 {n : Nat} : ∀ (m i : Nat) (τ : SS), CM τ n → i ≤ n → n - i < m → (∀ j, j < 42 → τ 4 j = b2 (decide (n ≤ j) || bg τ i j)) → ∃ τ', b_MO_findBlocks_46 m (nI i) τ = some τ' ∧ Fr [4] τ τ' ∧ ∀ j, j < 42 → τ' 4 j = b2 (decide (n ≤ j) || bg τ n j) := by
  intro m
  induction m with
  | zero => intro i τ _ _ h; omega
  | succ m ih =>
    intro i τ hc hi hm h4
    have hn4 := hc.1.1
    rw [b_MO_findBlocks_46]
    simp only [hc.2]
    by_cases hin : i < n
    · rw [if_neg (nI_ge hin (by omega))]
      obtain ⟨r1, r2, r3, r4, r5, r6, r7, r8⟩ := hc.1.2 i hin
      rw [m_leaves (by omega) (hc.1.2 i hin)]
      simp only [Option.bind_some, b2_z]
      have key : ∀ τ1 : SS, Fr [4] τ τ1 → (∀ j, j < 42 → τ1 4 j = b2 (decide (n ≤ j) || bg τ (i + 1) j)) → ∃ τ', b_MO_findBlocks_46 m (nI i + 1) τ1 = some τ' ∧ Fr [4] τ τ' ∧ ∀ j, j < 42 → τ' 4 j = b2 (decide (n ≤ j) || bg τ n j) := by
        intro τ1 hf h1
        have hs : ∀ k, k < 4 ∨ k = 21 → k ∉ [4] := by intro k hk; simp; omega
        have he := hf.eqc (fun k hk => hs k (Or.inl hk))
        obtain ⟨τ', e1, e2, e3⟩ := ih (i + 1) τ1 (hc.fr hf hs) (by omega) (by omega) (by rw [he.bgq]; exact h1)
        rw [nI_1]
        exact ⟨τ', e1, hf.tr e2, by rw [he.bgq] at e3; exact e3⟩
      by_cases o9 : 9 ≤ oN τ i
      · have hd : ¬ decide (9 ≤ oN τ i) = false := by simp [o9]
        rw [if_neg hd, nI_1, p_nz1, p_sto (by omega) (by decide)]
        simp only [Option.bind_some]
        obtain ⟨a1, a2, -⟩ := r5 (by omega)
        have f1 : Fr [4] τ (su τ 4 (i + 1) 1) := Fr.su (by simp)
        rw [p_suK (show (0 : Nat) ≠ 4 by omega), p_ld (by omega) (by decide)]
        simp only [Option.bind_some]
        rw [r1]
        by_cases e9 : oN τ i = 9
        · rw [if_pos (by rw [e9]; rfl), p_suK (show (2 : Nat) ≠ 4 by omega), p_ld (by omega) (by decide)]
          simp only [Option.bind_some]
          rw [a1, p_sto (by omega) (by decide)]
          simp only [Option.bind_some]
          have f2 : Fr [4] τ (su (su τ 4 (i + 1) 1) 4 (aN τ i) 1) := f1.tr (Fr.su (by simp))
          unfold b_MO_findBlocks_94
          rw [f2 0 (by simp), p_ld (by omega) (by decide)]
          simp only [Option.bind_some]
          rw [r1, if_neg (show ¬ nI (oN τ i) = 10 by rw [e9]; decide)]
          refine key _ f2 (fun j hj => ?_)
          rw [p_su, if_pos rfl, p_su, if_pos rfl, h4 j hj]
          show _ = b2 (_ || (bg τ i j || tg τ i j))
          unfold tg
          rw [e9]
          by_cases c1 : j = aN τ i
          · rw [if_pos c1, c1]; simp [b2]
          · rw [if_neg c1]
            by_cases c2 : j = i + 1
            · rw [if_pos c2, c2]; simp [b2]
            · rw [if_neg c2]
              congr 1
              have : (aN τ i == j) = false := by simp; omega
              simp [this, bnq c2]
        · rw [if_neg (show ¬ nI (oN τ i) = 9 from fun h => e9 ((lt_eq (by omega) (by omega)).mp h))]
          unfold b_MO_findBlocks_94
          rw [f1 0 (by simp), p_ld (by omega) (by decide)]
          simp only [Option.bind_some]
          rw [r1]
          by_cases e10 : oN τ i = 10
          · rw [if_pos (by rw [e10]; rfl), p_suK (show (3 : Nat) ≠ 4 by omega), p_ld (by omega) (by decide)]
            simp only [Option.bind_some]
            rw [r6, p_nz1, p_sto (by omega) (by decide)]
            simp only [Option.bind_some]
            refine key _ (f1.tr (Fr.su (by simp))) (fun j hj => ?_)
            rw [p_su, if_pos rfl, p_su, if_pos rfl, h4 j hj]
            show _ = b2 (_ || (bg τ i j || tg τ i j))
            unfold tg
            rw [e10]
            by_cases c1 : j = bN τ i
            · rw [if_pos c1, c1]; simp [b2]
            · rw [if_neg c1]
              by_cases c2 : j = i + 1
              · rw [if_pos c2, c2]; simp [b2]
              · rw [if_neg c2]
                congr 1
                have : (bN τ i == j) = false := by simp; omega
                simp [this, bnq c2]
          · rw [if_neg (show ¬ nI (oN τ i) = 10 from fun h => e10 ((lt_eq (by omega) (by omega)).mp h))]
            have e11 : oN τ i = 11 := by omega
            refine key _ f1 (fun j hj => ?_)
            rw [p_su, if_pos rfl, h4 j hj]
            show _ = b2 (_ || (bg τ i j || tg τ i j))
            unfold tg
            rw [e11]
            by_cases c2 : j = i + 1
            · rw [if_pos c2, c2]; simp [b2]
            · rw [if_neg c2]; simp [bnq c2]
      · have hd : decide (9 ≤ oN τ i) = false := by simp; omega
        rw [if_pos hd, p_ld (by omega) (by decide)]
        simp only [Option.bind_some]
        rw [r1, if_neg (show ¬ nI (oN τ i) = 9 from fun h => by have : oN τ i = 9 := (lt_eq (by omega) (by omega)).mp h; omega)]
        unfold b_MO_findBlocks_94
        rw [p_ld (by omega) (by decide)]
        simp only [Option.bind_some]
        rw [r1, if_neg (show ¬ nI (oN τ i) = 10 from fun h => by have : oN τ i = 10 := (lt_eq (by omega) (by omega)).mp h; omega)]
        refine key τ Fr.rf (fun j hj => ?_)
        rw [h4 j hj]
        show _ = b2 (_ || (bg τ i j || tg τ i j))
        unfold tg
        have h9 : (oN τ i == 9) = false := by simp; omega
        have h10 : (oN τ i == 10) = false := by simp; omega
        have h11 : (oN τ i == 11) = false := by simp; omega
        simp [h9, h10, h11]
    · rw [if_pos (nI_le (by omega) (by omega))]
      have : i = n := by omega
      subst this
      exact ⟨τ, rfl, Fr.rf, h4⟩
theorem m_blocks1 {n : Nat} : ∀ (m i : Nat) (τ : SS), CM τ n → i ≤ 42 → 42 - i < m → (∀ j, j < i → τ 4 j = b2 (decide (n ≤ j) || (j == 0)) ∧ τ 5 j = 0) → ∃ τ', b_MO_findBlocks_2 m (nI i) τ = some τ' ∧ Fr [4, 5] τ τ' ∧ (∀ j, j < 42 → τ' 5 j = 0) ∧ ∀ j, j < 42 → τ' 4 j = b2 (decide (n ≤ j) || bg τ n j) := by
  intro m
  induction m with
  | zero => intro i τ _ _ h; omega
  | succ m ih =>
    intro i τ hc hi hm h4
    have hn4 := hc.1.1
    rw [b_MO_findBlocks_2]
    simp only [hc.2]
    by_cases hin : i < 42
    · rw [if_neg (show ¬ (42 : Int32) ≤ nI i from fun h => by have : 42 ≤ i := (lt_le' (by omega) (by omega)).mp h; omega)]
      have key : ∀ x : Int32, x = b2 (decide (n ≤ i) || (i == 0)) → ∃ τ', b_MO_findBlocks_2 m (nI i + 1) (su (su τ 4 i x) 5 i 0) = some τ' ∧ Fr [4, 5] τ τ' ∧ (∀ j, j < 42 → τ' 5 j = 0) ∧ ∀ j, j < 42 → τ' 4 j = b2 (decide (n ≤ j) || bg τ n j) := by
        intro x hx
        have hf : Fr [4, 5] τ (su (su τ 4 i x) 5 i 0) := Fr.tr (Fr.su (by simp)) (Fr.su (by simp))
        have hs : ∀ k, k < 4 ∨ k = 21 → k ∉ [4, 5] := by intro k hk; simp; omega
        have he := hf.eqc (fun k hk => hs k (Or.inl hk))
        obtain ⟨τ', e1, e2, e3, e4⟩ := ih (i + 1) _ (hc.fr hf hs) (by omega) (by omega) (fun j hj => by
          rw [p_suk (show (4 : Nat) ≠ 5 by omega), p_su, if_pos rfl, p_su, if_pos rfl, p_suk (show (5 : Nat) ≠ 4 by omega)]
          by_cases e : j = i
          · rw [if_pos e, if_pos e, hx, e]; exact ⟨rfl, rfl⟩
          · rw [if_neg e, if_neg e]; exact h4 j (by omega))
        rw [nI_1]
        exact ⟨τ', e1, hf.tr e2, e3, by rw [he.bgq] at e4; exact e4⟩
      by_cases e0 : i = 0
      · subst e0
        rw [if_pos (by decide), p_nz1, p_sto (by omega) (by decide)]
        simp only [Option.bind_some]
        rw [p_sto (by omega) (by decide)]
        simp only [Option.bind_some]
        exact key 1 (by simp [b2])
      · rw [if_neg (show ¬ nI i = 0 from fun h => e0 ((lt_eq (by omega) (by omega)).mp h))]
        by_cases e1 : i < n
        · rw [if_pos (nI_lt e1 (by omega)), p_nz0, p_sto (by omega) (by decide)]
          simp only [Option.bind_some]
          rw [p_sto (by omega) (by decide)]
          simp only [Option.bind_some]
          refine key 0 ?_
          have : (decide (n ≤ i) || (i == 0)) = false := by simp; omega
          rw [this]; rfl
        · rw [if_neg (nI_nlt (by omega) (by omega)), p_nz1, p_sto (by omega) (by decide)]
          simp only [Option.bind_some]
          rw [p_sto (by omega) (by decide)]
          simp only [Option.bind_some]
          refine key 1 ?_
          have : (decide (n ≤ i) || (i == 0)) = true := by simp; omega
          rw [this]; rfl
    · rw [if_pos (show (42 : Int32) ≤ nI i from nI_le (a := 42) (by omega) (by omega))]
      obtain ⟨τ', e1, e2, e3⟩ := m_blocks2 FU 0 τ hc (by omega) (by unfold FU; omega) (fun j hj => (h4 j (by omega)).1)
      exact ⟨τ', e1, e2.mono (by simp), fun j hj => by rw [e2 5 (by simp)]; exact (h4 j (by omega)).2, e3⟩
theorem m_blocks {n : Nat} {τ : SS} (hc : CM τ n) : ∃ τ', f_MO_findBlocks τ = some τ' ∧ Fr [4, 5] τ τ' ∧ (∀ j, j < 42 → τ' 5 j = 0) ∧ ∀ j, j < 42 → τ' 4 j = b2 (decide (n ≤ j) || bg τ n j) := by
  have hn4 := hc.1.1
  unfold f_MO_findBlocks
  exact m_blocks1 FU 0 τ hc (by omega) (by unfold FU; omega) (fun j hj => by omega)
