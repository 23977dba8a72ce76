-- ===== the reference's sweeps =====
theorem m_isW {τ : SS} {i : Nat} (hi : i < 40) (hr : Rt τ i) : f_MO_isWriter (nI i) τ = some (b2 (wR τ i), τ) := by
  unfold f_MO_isWriter
  rw [p_ld hi (by decide)]
  simp only [Option.bind_some]
  have h2 := hr.2.1
  rw [hr.1]
  unfold wR
  by_cases h : oN τ i ≤ 6
  · rw [if_neg (show ¬ (6 : Int32) < nI (oN τ i) from nI_nlt (a := 6) h (by omega)), decide_eq_true h]; rfl
  · rw [if_pos (show (6 : Int32) < nI (oN τ i) from nI_lt (a := 6) (by omega) (by omega)), decide_eq_false h]; rfl
theorem nI_neq {a b : Nat} (ha : a < 2 ^ 31) (hb : b < 2 ^ 31) (h : ¬ a = b) : ¬ nI a = nI b := fun e => h ((nI_eq ha hb).mp e)
theorem m_rA {τ : SS} {i : Nat} (hi : i < 40) (hr : Rt τ i) : f_MO_readsA (nI i) τ = some (b2 (rA τ i), τ) := by
  unfold f_MO_readsA
  rw [p_ld hi (by decide)]
  simp only [Option.bind_some]
  have h2 := hr.2.1
  rw [hr.1]
  unfold rA
  by_cases h0 : oN τ i = 0
  · rw [h0, if_pos (by decide)]; rfl
  · rw [if_neg (show ¬ nI (oN τ i) = 0 from nI_neq (b := 0) (by omega) (by omega) h0)]
    by_cases h9 : oN τ i = 9
    · rw [h9, if_pos (by decide)]; rfl
    · rw [if_neg (show ¬ nI (oN τ i) = 9 from nI_neq (b := 9) (by omega) (by omega) h9)]
      by_cases h11 : oN τ i = 11
      · rw [h11, if_pos (by decide)]; rfl
      · rw [if_neg (show ¬ nI (oN τ i) = 11 from nI_neq (b := 11) (by omega) (by omega) h11), bnq h0, bnq h9, bnq h11]; rfl
theorem m_rB {τ : SS} {i : Nat} (hi : i < 40) (hr : Rt τ i) : f_MO_readsB (nI i) τ = some (b2 (rB τ i), τ) := by
  unfold f_MO_readsB
  rw [p_ld hi (by decide)]
  simp only [Option.bind_some]
  have h2 := hr.2.1
  rw [show f_MO_in (τ 0 i) (2 : Int32) (5 : Int32) τ = _ from m_in (a := 2) (b := 5) hr.1 (by omega) (by decide) (by decide)]
  simp only [Option.bind_some, b2_z]
  unfold rB
  by_cases h : 2 ≤ oN τ i ∧ oN τ i ≤ 5
  · rw [if_neg (by simp [h]), decide_eq_true h.1, decide_eq_true h.2]; rfl
  · rw [if_pos (by simp; omega), p_ld hi (by decide)]
    simp only [Option.bind_some]
    rw [hr.1]
    have e : (decide (2 ≤ oN τ i) && decide (oN τ i ≤ 5)) = false := by simp; omega
    rw [e]
    by_cases h7 : oN τ i = 7
    · rw [h7, if_pos (by decide)]; rfl
    · rw [if_neg (show ¬ nI (oN τ i) = 7 from nI_neq (b := 7) (by omega) (by omega) h7), bnq h7]; rfl
theorem m_at {τ : SS} {i n : Nat} (hn : τ 21 0 = nI n) (hn4 : n ≤ 40) (hi : i < 2 ^ 30) : f_MO_aliveAt (nI i) τ = some (lat n (τ 5) i, τ) := by
  unfold f_MO_aliveAt lat
  rw [hn]
  by_cases h : i < n
  · rw [if_neg (nI_ge h (by omega)), p_ld (by omega) (by decide), if_pos h]; rfl
  · rw [if_pos (nI_le (by omega) (by omega)), if_neg h]
theorem m_behind {τ : SS} {i n : Nat} (hc : CM τ n) (hi : i < n) : f_MO_behind (nI i) τ = some (aft τ n (τ 5) i, τ) := by
  have hn4 := hc.1.1
  obtain ⟨r1, r2, r3, r4, r5, r6, r7, r8⟩ := hc.1.2 i hi
  unfold f_MO_behind aft
  rw [p_ld (by omega) (by decide)]
  simp only [Option.bind_some]
  rw [r1]
  by_cases o11 : oN τ i = 11
  · rw [o11, if_pos (by decide), if_pos rfl]
  · rw [if_neg (show ¬ nI (oN τ i) = 11 from nI_neq (b := 11) (by omega) (by omega) o11), if_neg o11]
    by_cases o9 : oN τ i = 9
    · obtain ⟨a1, a2, -⟩ := r5 (by omega)
      rw [o9, if_pos (by decide), if_pos rfl, p_ld (by omega) (by decide)]
      simp only [Option.bind_some]
      rw [a1, m_at hc.2 hn4 (by omega)]
      rfl
    · rw [if_neg (show ¬ nI (oN τ i) = 9 from nI_neq (b := 9) (by omega) (by omega) o9), if_neg o9]
      by_cases o10 : oN τ i = 10
      · rw [o10, if_pos (by decide), if_pos rfl, p_ld (by omega) (by decide)]
        simp only [Option.bind_some]
        rw [r6, m_at hc.2 hn4 (by omega)]
        simp only [Option.bind_some]
        rw [nI_1, m_at hc.2 hn4 (by omega)]
        rfl
      · rw [if_neg (show ¬ nI (oN τ i) = 10 from nI_neq (b := 10) (by omega) (by omega) o10), if_neg o10, nI_1, m_at hc.2 hn4 (by omega)]
        rfl
theorem FF_alt {κ : SS} {n i : Nat} {L : Nat → Int32} : (((if wR κ i then aft κ n L i &&& (sb (dN κ i) ^^^ (-1)) else aft κ n L i) ||| (if rA κ i then sb (aN κ i) else 0)) ||| (if rB κ i then sb (bN κ i) else 0)) = FF κ n L i := by
  have pm : (if wR κ i then aft κ n L i &&& (sb (dN κ i) ^^^ (-1)) else aft κ n L i) = aft κ n L i &&& (wrS κ i ^^^ (-1)) := by
    unfold wrS
    cases wR κ i
    · rw [if_neg (by simp), if_neg (by simp)]
      apply b_ext
      intro k hk
      rw [b_and, b_xor, b_0, b_m1 k hk]
      simp
    · rw [if_pos rfl, if_pos rfl]
  rw [pm]
  unfold FF rdS
  apply b_ext
  intro k hk
  rw [b_or, b_or, b_or, b_or]
  generalize bt (aft κ n L i &&& (wrS κ i ^^^ (-1))) k = x
  generalize bt (if rA κ i then sb (aN κ i) else 0) k = y
  generalize bt (if rB κ i then sb (bN κ i) else 0) k = z
  cases x <;> cases y <;> cases z <;> rfl
theorem or_0 (x : Int32) : x ||| 0 = x := by
  apply b_ext
  intro k hk
  rw [b_or, b_0, Bool.or_false]
theorem m_sweep {n : Nat} (r2 : Int32 → SS → Option SS) : ∀ (m i : Nat) (τ : SS) (ch : Int32), CM τ n → i ≤ n → n - i < m → (ch = 0 ∨ ch = 1) → Iv τ n (τ 5) → ∃ (ch' : Int32) (τ' : SS), b_MO_findAlive_10 r2 m ch (nI i) τ = r2 ch' τ' ∧ Fr [5] τ τ' ∧ (ch' = 0 ∨ ch' = 1) ∧ Up τ n (τ 5) (τ' 5) ∧ (ch = 1 → ch' = 1) ∧ (ch' = 0 → (∀ j, j < n → τ' 5 j = τ 5 j) ∧ (∀ j, i ≤ j → j < n → τ 5 j = FF τ n (τ 5) j)) ∧ (ch' = 1 → ch = 1 ∨ cL (τ 5) n < cL (τ' 5) n) := by
  intro m
  induction m with
  | zero => intro i τ ch _ _ h; omega
  | succ m ih =>
    intro i τ ch hc hi hm hch hI
    have hn4 := hc.1.1
    rw [b_MO_findAlive_10]
    rw [hc.2]
    by_cases hin : i < n
    · have hr := hc.1.2 i hin
      rw [if_neg (nI_ge hin (by omega)), m_behind hc hin]
      simp only [Option.bind_some]
      rw [m_isW (by omega) hr]
      simp only [Option.bind_some, b2_z]
      obtain ⟨τ2, hτ2⟩ : ∃ τ2, τ2 = su τ 5 i (FF τ n (τ 5) i) := ⟨_, rfl⟩
      have f2 : Fr [5] τ τ2 := by rw [hτ2]; exact Fr.su (by simp)
      have he : Eqc τ2 τ := f2.eqc (fun k hk => by simp; omega)
      have hc2 : CM τ2 n := hc.fr f2 (fun k hk => by simp; omega)
      have h8i : τ2 5 i = FF τ n (τ 5) i := by rw [hτ2, p_sus]
      have h8j : ∀ j, j ≠ i → τ2 5 j = τ 5 j := fun j hj => by rw [hτ2, p_sun hj]
      obtain ⟨u1, u2⟩ := Up_1 hc.1 hin hI h8i (fun j _ hj => h8j j hj)
      have go : ∀ c1 : Int32, (c1 = 0 ∨ c1 = 1) → (c1 = 0 → ch = 0 ∧ τ 5 i = FF τ n (τ 5) i) → (c1 = 1 → ch = 1 ∨ cL (τ 5) n < cL (τ2 5) n) → ∃ (ch' : Int32) (τ' : SS), b_MO_findAlive_10 r2 m c1 (nI i + 1) τ2 = r2 ch' τ' ∧ Fr [5] τ τ' ∧ (ch' = 0 ∨ ch' = 1) ∧ Up τ n (τ 5) (τ' 5) ∧ (ch = 1 → ch' = 1) ∧ (ch' = 0 → (∀ j, j < n → τ' 5 j = τ 5 j) ∧ (∀ j, i ≤ j → j < n → τ 5 j = FF τ n (τ 5) j)) ∧ (ch' = 1 → ch = 1 ∨ cL (τ 5) n < cL (τ' 5) n) := by
        intro c1 hc1 h0 h1
        have hI2 : Iv τ2 n (τ2 5) := by unfold Iv; rw [he.ffq]; exact u1.1
        obtain ⟨ch', τ', e1, e2, e3, e4, e5, e6, e7⟩ := ih (i + 1) τ2 c1 hc2 (by omega) (by omega) hc1 hI2
        rw [nI_1]
        rw [he.ffq] at e6
        have e4 : Up τ n (τ2 5) (τ' 5) := by unfold Up Iv at e4 ⊢; rw [he.ffq] at e4; exact e4
        refine ⟨ch', τ', e1, f2.tr e2, e3, u1.tr e4, ?_, ?_, ?_⟩
        · intro hh
          apply e5
          rcases hc1 with hz | hz
          · exact absurd ((h0 hz).1.symm.trans hh) (by decide)
          · exact hz
        · intro hz
          obtain ⟨g1, g2⟩ := e6 hz
          have c10 : c1 = 0 := by
            rcases hc1 with h | h
            · exact h
            · exact absurd (hz.symm.trans (e5 h)) (by decide)
          obtain ⟨-, hfix⟩ := h0 c10
          have same : ∀ j, j < n → τ2 5 j = τ 5 j := by
            intro j hj
            by_cases e : j = i
            · subst e; rw [h8i, ← hfix]
            · exact h8j j e
          refine ⟨fun j hj => (g1 j hj).trans (same j hj), fun j hj1 hj2 => ?_⟩
          by_cases e : j = i
          · subst e; exact hfix
          · have z1 := g2 j (by omega) hj2
            rw [FF_c same, same j hj2] at z1
            exact z1
        · intro hz
          rcases e7 hz with h | h
          · rcases h1 h with g | g
            · exact Or.inl g
            · exact Or.inr (Nat.lt_of_lt_of_le g (cL_m n e4.2))
          · exact Or.inr (Nat.lt_of_le_of_lt (cL_m n u1.2) h)
      -- the end of the body
      have fin : b_MO_findAlive_94 r2 (b_MO_findAlive_10 r2 m) ch (nI i) (FF τ n (τ 5) i) τ = (if ch = 0 then (if FF τ n (τ 5) i = τ 5 i then b_MO_findAlive_10 r2 m 0 (nI i + 1) τ2 else b_MO_findAlive_10 r2 m 1 (nI i + 1) τ2) else b_MO_findAlive_10 r2 m 1 (nI i + 1) τ2) := by
        unfold b_MO_findAlive_94
        by_cases hz : ch = 0
        · rw [if_pos hz, if_pos hz, p_ld (by omega) (by decide)]
          simp only [Option.bind_some]
          rw [p_sto (by omega) (by decide), ← hτ2]
          rfl
        · rw [if_neg hz, if_neg hz, p_sto (by omega) (by decide), ← hτ2]
          rfl
      have body : (if wR τ i = false then b_MO_findAlive_48 r2 (b_MO_findAlive_10 r2 m) ch (nI i) (aft τ n (τ 5) i) τ else (ld (τ 1) 40 (nI i)).bind fun v7 => b_MO_findAlive_48 r2 (b_MO_findAlive_10 r2 m) ch (nI i) (aft τ n (τ 5) i &&& (((1 : Int32) <<< (v7 &&& 31)) ^^^ (-1 : Int32))) τ) = b_MO_findAlive_94 r2 (b_MO_findAlive_10 r2 m) ch (nI i) (FF τ n (τ 5) i) τ := by
        have s1 : (if wR τ i = false then b_MO_findAlive_48 r2 (b_MO_findAlive_10 r2 m) ch (nI i) (aft τ n (τ 5) i) τ else (ld (τ 1) 40 (nI i)).bind fun v7 => b_MO_findAlive_48 r2 (b_MO_findAlive_10 r2 m) ch (nI i) (aft τ n (τ 5) i &&& (((1 : Int32) <<< (v7 &&& 31)) ^^^ (-1 : Int32))) τ) = b_MO_findAlive_48 r2 (b_MO_findAlive_10 r2 m) ch (nI i) (if wR τ i then aft τ n (τ 5) i &&& (sb (dN τ i) ^^^ (-1)) else aft τ n (τ 5) i) τ := by
          cases hw : wR τ i
          · rfl
          · rw [if_neg (by simp), p_ld (by omega) (by decide)]
            simp only [Option.bind_some]
            rw [hr.2.2.1]
            rfl
        rw [s1]
        unfold b_MO_findAlive_48
        rw [m_rA (by omega) hr]
        simp only [Option.bind_some, b2_z]
        have s2 : ∀ x : Int32, (if rA τ i = false then b_MO_findAlive_71 r2 (b_MO_findAlive_10 r2 m) ch (nI i) x τ else (ld (τ 2) 40 (nI i)).bind fun v4 => b_MO_findAlive_71 r2 (b_MO_findAlive_10 r2 m) ch (nI i) (x ||| ((1 : Int32) <<< (v4 &&& 31))) τ) = b_MO_findAlive_71 r2 (b_MO_findAlive_10 r2 m) ch (nI i) (x ||| (if rA τ i then sb (aN τ i) else 0)) τ := by
          intro x
          cases ha : rA τ i
          · rw [if_pos rfl, if_neg (by simp), or_0]
          · rw [if_neg (by simp), p_ld (by omega) (by decide), if_pos rfl]
            simp only [Option.bind_some]
            rw [(rA_lt hr ha).1]
            rfl
        rw [s2]
        unfold b_MO_findAlive_71
        rw [m_rB (by omega) hr]
        simp only [Option.bind_some, b2_z]
        have s3 : ∀ x : Int32, (if rB τ i = false then b_MO_findAlive_94 r2 (b_MO_findAlive_10 r2 m) ch (nI i) x τ else (ld (τ 3) 40 (nI i)).bind fun v4 => b_MO_findAlive_94 r2 (b_MO_findAlive_10 r2 m) ch (nI i) (x ||| ((1 : Int32) <<< (v4 &&& 31))) τ) = b_MO_findAlive_94 r2 (b_MO_findAlive_10 r2 m) ch (nI i) (x ||| (if rB τ i then sb (bN τ i) else 0)) τ := by
          intro x
          cases ha : rB τ i
          · rw [if_pos rfl, if_neg (by simp), or_0]
          · rw [if_neg (by simp), p_ld (by omega) (by decide), if_pos rfl]
            simp only [Option.bind_some]
            rw [(rB_lt hr ha).1]
            rfl
        rw [s3, FF_alt]
      rw [body, fin]
      by_cases hz : ch = 0
      · rw [if_pos hz]
        by_cases hv : FF τ n (τ 5) i = τ 5 i
        · rw [if_pos hv]
          exact go 0 (Or.inl rfl) (fun _ => ⟨hz, hv.symm⟩) (fun h => absurd h (by decide))
        · rw [if_neg hv]
          exact go 1 (Or.inr rfl) (fun h => absurd h (by decide)) (fun _ => Or.inr (u2 (by rw [h8i]; exact hv)))
      · rw [if_neg hz]
        exact go 1 (Or.inr rfl) (fun h => absurd h (by decide)) (fun _ => Or.inl (hch.resolve_left hz))
    · rw [if_pos (nI_le (by omega) (by omega))]
      exact ⟨ch, τ, rfl, Fr.rf, hch, ⟨hI, fun _ _ => sle.rf⟩, fun h => h, fun _ => ⟨fun _ _ => rfl, fun j h1 h2 => by omega⟩, fun h => Or.inl h⟩
theorem m_rounds {n : Nat} : ∀ (m : Nat) (τ : SS) (ch : Int32), CM τ n → Iv τ n (τ 5) → (ch = 0 ∨ ch = 1) → 401 - cL (τ 5) n < m → (ch = 0 → Fix τ n (τ 5)) → ∃ τ', b_MO_findAlive_2 m ch τ = some τ' ∧ Fr [5] τ τ' ∧ Fix τ n (τ' 5) := by
  intro m
  induction m with
  | zero => intro τ ch _ _ _ h; omega
  | succ m ih =>
    intro τ ch hc hI hch hm hfx
    have hn4 := hc.1.1
    rw [b_MO_findAlive_2]
    by_cases hz : ch = 0
    · rw [if_pos hz]
      exact ⟨τ, rfl, Fr.rf, hfx hz⟩
    · rw [if_neg hz]
      obtain ⟨c1, τ1, e1, e2, e3, e4, e5, e6, e7⟩ := m_sweep (n := n) (b_MO_findAlive_2 m) FU 0 τ 0 hc (by omega) (by unfold FU; omega) (Or.inl rfl) hI
      rw [show b_MO_findAlive_10 (b_MO_findAlive_2 m) FU (0 : Int32) (0 : Int32) τ = _ from e1]
      have he : Eqc τ1 τ := e2.eqc (fun k hk => by simp; omega)
      have hc1 : CM τ1 n := hc.fr e2 (fun k hk => by simp; omega)
      have hI1 : Iv τ1 n (τ1 5) := by unfold Iv; rw [he.ffq]; exact e4.1
      have hle := cL_le (τ1 5) n
      rcases e3 with h | h
      · -- unchanged: fixed
        obtain ⟨s1, s2⟩ := e6 h
        have hF : Fix τ1 n (τ1 5) := ⟨fun j hj => by rw [he.ffq, FF_c s1, s1 j hj]; exact s2 j (by omega) hj, hI1⟩
        cases m with
        | zero => have := cL_le (τ 5) n; omega
        | succ m =>
          rw [b_MO_findAlive_2, if_pos h]
          refine ⟨τ1, rfl, e2, ?_⟩
          unfold Fix Iv at hF ⊢
          rw [he.ffq] at hF
          exact hF
      · have hlt := (e7 h).resolve_left (by decide)
        obtain ⟨τ', g1, g2, g3⟩ := ih τ1 c1 hc1 hI1 (Or.inr h) (by omega) (fun h0 => absurd (h0.symm.trans h) (by decide))
        refine ⟨τ', g1, e2.tr g2, ?_⟩
        unfold Fix Iv at g3 ⊢
        rw [he.ffq] at g3
        exact g3
/-- reference: findAlive -/
theorem m_alive {n : Nat} {τ : SS} (hc : CM τ n) (h0 : ∀ j, j < 42 → τ 5 j = 0) : ∃ τ', f_MO_findAlive τ = some τ' ∧ Fr [5] τ τ' ∧ Fix τ n (τ' 5) := by
  have hn4 := hc.1.1
  unfold f_MO_findAlive
  exact m_rounds FU τ 1 hc (Iv_0 (fun j hj => h0 j (by omega))) (Or.inr rfl) (by unfold FU; omega) (fun h => absurd h (by decide))
