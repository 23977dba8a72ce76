-- ===== THE RELATION =====
theorem DnC.fr {κ σ σ' : SS} {n D : Nat} {L : Nat → Int32} {S : List Nat} (h : Fr S σ σ') (hs : ∀ k, k < 18 ∨ (25 ≤ k ∧ k ≤ 28) → k ∉ S) (hd : DnC κ σ n D L) : DnC κ σ' n D L := by
  obtain ⟨h1, h2, h3, h4, h5, h6⟩ := hd
  refine ⟨h1, fun j hj => by rw [h 8 (hs 8 (by omega))]; exact h2 j hj, h3.fr h (fun k hk => hs k (by omega)), by rw [h 27 (hs 27 (by omega))]; exact h4, fun p hp => ?_, by rw [h 28 (hs 28 (by omega))]; exact h6⟩
  have := h5 p hp
  unfold Gd at this ⊢
  rw [h 16 (hs 16 (by omega)), h 17 (hs 17 (by omega))]
  exact this
theorem DnM.fr {κ τ τ' : SS} {n D : Nat} {L : Nat → Int32} {S : List Nat} (h : Fr S τ τ') (hs : ∀ k, k < 14 ∨ k = 20 ∨ k = 21 ∨ k = 23 → k ∉ S) (hd : DnM κ τ n D L) : DnM κ τ' n D L := by
  obtain ⟨h1, h2, h3, h4⟩ := hd
  exact ⟨h1, fun j hj => by rw [h 5 (hs 5 (by omega))]; exact h2 j hj, h3.fr h (fun k hk => hs k (by omega)), by rw [h 23 (hs 23 (by omega))]; exact h4.1, fun p hp => by rw [h 12 (hs 12 (by omega)), h 13 (hs 13 (by omega))]; exact h4.2 p hp⟩
def Rel (σ τ : SS) : Prop := ∃ (κ : SS) (n D P : Nat), Eqc σ κ ∧ Eqc τ κ ∧ CC σ n ∧ CM τ n ∧ D ≤ 8 ∧ σ 26 0 = nI D ∧ τ 20 0 = nI D ∧ MS σ τ P ∧ P ≤ 2000 ∧ σ 31 0 = τ 25 0 ∧ (σ 24 0 = 1 ∨ (σ 24 0 = 0 ∧ ∃ L, DnC κ σ n D L)) ∧ (τ 22 0 = 0 ∨ (τ 22 0 = 1 ∧ ∃ L, DnM κ τ n D L))
theorem c_rdy {κ σ : SS} {n D : Nat} (he : Eqc σ κ) (hc : CC σ n) (hD : D ≤ 8) (h26 : σ 26 0 = nI D) (h : σ 24 0 = 1 ∨ (σ 24 0 = 0 ∧ ∃ L, DnC κ σ n D L)) : ∃ (L : Nat → Int32) (σ' : SS), f_SC_translate σ = some σ' ∧ Fr [7, 8, 9, 10, 11, 12, 13, 14, 15, 16, 17, 18, 19, 24, 27, 28] σ σ' ∧ DnC κ σ' n D L ∧ σ' 24 0 = 0 := by
  rcases h with h | ⟨h, L, hL⟩
  · exact c_tl he hc hD h26 (by rw [h]; decide)
  · refine ⟨L, σ, ?_, Fr.rf, hL, h⟩
    unfold f_SC_translate
    rw [if_pos h]
theorem m_rdy {κ τ : SS} {n D : Nat} (he : Eqc τ κ) (hc : CM τ n) (hD : D ≤ 8) (h20 : τ 20 0 = nI D) (h : τ 22 0 = 0 ∨ (τ 22 0 = 1 ∧ ∃ L, DnM κ τ n D L)) : ∃ (L : Nat → Int32) (τ' : SS), f_MO_work τ = some τ' ∧ Fr [4, 5, 6, 7, 8, 9, 10, 11, 12, 13, 14, 15, 22, 23] τ τ' ∧ DnM κ τ' n D L ∧ τ' 22 0 = 1 := by
  rcases h with h | ⟨h, L, hL⟩
  · exact m_work he hc hD h20 h
  · refine ⟨L, τ, ?_, Fr.rf, hL, h⟩
    unfold f_MO_work
    rw [if_neg (by rw [h]; decide)]
def Rd (κ σ τ : SS) (n D P : Nat) (L : Nat → Int32) : Prop := Eqc σ κ ∧ Eqc τ κ ∧ CC σ n ∧ CM τ n ∧ D ≤ 8 ∧ σ 26 0 = nI D ∧ τ 20 0 = nI D ∧ MS σ τ P ∧ P ≤ 2000 ∧ σ 31 0 = τ 25 0 ∧ σ 24 0 = 0 ∧ DnC κ σ n D L ∧ τ 22 0 = 1 ∧ DnM κ τ n D L
theorem Rd.rel {κ σ τ : SS} {n D P : Nat} {L : Nat → Int32} (h : Rd κ σ τ n D P L) : Rel σ τ := by
  obtain ⟨h1, h2, h3, h4, h5, h6, h7, h8, h9, h10, h11, h12, h13, h14⟩ := h
  exact ⟨κ, n, D, P, h1, h2, h3, h4, h5, h6, h7, h8, h9, h10, Or.inr ⟨h11, L, h12⟩, Or.inr ⟨h13, L, h14⟩⟩
theorem rdy {σ τ : SS} (h : Rel σ τ) : ∃ (κ : SS) (n D P : Nat) (L : Nat → Int32) (σ' τ' : SS), f_SC_translate σ = some σ' ∧ f_MO_work τ = some τ' ∧ Rd κ σ' τ' n D P L := by
  obtain ⟨κ, n, D, P, h1, h2, h3, h4, h5, h6, h7, h8, h9, h10, h11, h12⟩ := h
  obtain ⟨L, σ', a1, a2, a3, a4⟩ := c_rdy h1 h3 h5 h6 h11
  obtain ⟨L', τ', b1, b2', b3, b4⟩ := m_rdy h2 h4 h5 h7 h12
  refine ⟨κ, n, D, P, L, σ', τ', a1, b1, fun k hk => (a2.eqc (fun k hk => by simp; omega) k hk).trans (h1 k hk), fun k hk => (b2'.eqc (fun k hk => by simp; omega) k hk).trans (h2 k hk), h3.fr a2 (fun k hk => by simp; omega), h4.fr b2' (fun k hk => by simp; omega), h5, by rw [a2 26 (by simp)]; exact h6, by rw [b2' 20 (by simp)]; exact h7, h8.fr a2 b2' (fun k hk => by simp; omega) (fun k hk => by simp; omega), h9, by rw [a2 31 (by simp), b2' 25 (by simp)]; exact h10, a4, a3, b4, ?_⟩
  have hone : ∀ j, j < n → L' j = L j := Fix_one b3.1 a3.1
  have haft : aft κ n L' = aft κ n L := by funext i; exact aft_c hone i
  obtain ⟨c1, c2, c3, c4⟩ := b3
  rw [haft] at c3 c4
  exact ⟨a3.1, fun j hj => by rw [c2 j hj]; exact hone j hj, c3, c4⟩
theorem hold_in {σ τ : SS} {n : Nat} (h25 : σ 25 0 = nI n) (hn : n ≤ 40) (x : Int32) : (f_RC_holds x σ = some (0, σ) ∧ f_MO_in x 0 (nI n - 1) τ = some (0, τ)) ∨ ∃ i, i < n ∧ x = nI i ∧ f_RC_holds x σ = some (1, σ) ∧ f_MO_in x 0 (nI n - 1) τ = some (1, τ) := by
  unfold f_RC_holds f_MO_in
  by_cases h0 : x < 0
  · rw [if_pos h0, if_pos h0]; exact Or.inl ⟨rfl, rfl⟩
  · rw [if_neg h0, if_neg h0, h25]
    obtain ⟨i, hi, rfl⟩ := nI_of h0
    by_cases hin : i < n
    · rw [if_neg (nI_ge hin (by omega)), show nI n - 1 = nI (n - 1) from pk_sub (b := 1) (by omega), if_neg (nI_nlt (by omega) (by omega))]
      exact Or.inr ⟨i, hin, rfl, rfl, rfl⟩
    · rw [if_pos (nI_le (by omega) hi)]
      refine Or.inl ⟨rfl, ?_⟩
      rw [if_pos]
      by_cases hz : n = 0
      · subst hz
        rw [i_lt, nI_toInt hi, show (nI 0 - 1).toInt = -1 by decide]
        omega
      · rw [show nI n - 1 = nI (n - 1) from pk_sub (b := 1) (by omega)]
        exact nI_lt (by omega) hi
-- ===== the steps =====
theorem S_size {σ τ : SS} (h : Rel σ τ) : St Rel f_SC_size f_MO_size σ τ := by
  obtain ⟨κ, n, D, P, h1, h2, h3, h4, -⟩ := id h
  refine ⟨(nI n, σ), (nI n, τ), ?_, ?_, rfl, h⟩
  · unfold f_SC_size; rw [g_count, Option.bind_some, h3.2.1]
  · unfold f_MO_size; rw [h4.2]
theorem S_length {σ τ : SS} (h : Rel σ τ) : St Rel f_SC_length f_MO_length σ τ := by
  obtain ⟨κ, n, D, P, L, σ', τ', a1, a2, a3⟩ := rdy h
  obtain ⟨h1, h2, h3, h4, h5, h6, h7, h8, h9, h10, h11, h12, h13, h14⟩ := id a3
  refine ⟨(nI (cum κ (tT κ (Bf κ n) (aft κ n L) D n) (aft κ n L) n n + 1), σ'), (nI (cum κ (tT κ (Bf κ n) (aft κ n L) D n) (aft κ n L) n n + 1), τ'), ?_, ?_, rfl, a3.rel⟩
  · unfold f_SC_length f_ST_operationCount
    rw [a1, Option.bind_some, Option.bind_some, h12.2.2.2.1, nI_1]
  · unfold f_MO_length
    rw [a2, Option.bind_some, h14.2.2.2.1, FC_len]
theorem S_code {σ τ : SS} (h : Rel σ τ) (x : Int32) : St Rel (f_SC_code x) (f_MO_code x) σ τ := by
  obtain ⟨κ, n, D, P, L, σ', τ', a1, a2, a3⟩ := rdy h
  obtain ⟨h1, h2, h3, h4, h5, h6, h7, h8, h9, h10, h11, h12, h13, h14⟩ := id a3
  have hle := cum_le (κ := κ) (B := Bf κ n) (A := aft κ n L) (D := D) h3.1.1 (Nat.le_refl n)
  have h27 := h12.2.2.2.1
  have hg := h12.2.2.2.2.1
  have hC := h14.2.2.2
  have h23 : τ' 23 0 = nI (cum κ (tT κ (Bf κ n) (aft κ n L) D n) (aft κ n L) n n + 1) := by rw [hC.1, FC_len]
  revert h27 hg hC h23 hle
  have hlen := FC_len (κ := κ) (B := Bf κ n) (A := aft κ n L) (D := D) (n := n)
  revert hlen
  generalize FC κ (tT κ (Bf κ n) (aft κ n L) D n) (aft κ n L) n = C
  generalize cum κ (tT κ (Bf κ n) (aft κ n L) D n) (aft κ n L) n n = c
  intro hlen hle h27 hg hC h23
  unfold St f_SC_code f_MO_code
  rw [a1, a2, Option.bind_some, Option.bind_some, h23, show nI (c + 1) - 1 = nI c from pk_sub (b := 1) (by omega)]
  have no : f_ST_holds x σ' = some (0, σ') → f_MO_in x 0 (nI c) τ' = some (0, τ') → ∃ q q' : Int32 × SS, ((f_ST_holds x σ').bind fun q3 => (if q3.1 = 0 then some ((-1 : Int32), q3.2) else (f_ST_encoded x q3.2).bind fun q6 => some (q6.1, q6.2))) = some q ∧ ((f_MO_in x (0 : Int32) (nI c) τ').bind fun q3 => (if q3.1 = 0 then some ((-1 : Int32), q3.2) else (ld (q3.2 12) 600 x).bind fun v6 => (ld (q3.2 12) 600 x).bind fun v8 => (if v8 = 0 then (ld (q3.2 13) 600 x).bind fun v13 => some (((((10000 : Int32) * v6) + (1000 : Int32)) + v13), q3.2) else (ld (q3.2 13) 600 x).bind fun v11 => some (((((10000 : Int32) * v6) + (0 : Int32)) + v11), q3.2)))) = some q' ∧ q.1 = q'.1 ∧ Rel q.2 q'.2 := by
    intro e1 e2
    rw [e1, e2, Option.bind_some, Option.bind_some, if_pos rfl, if_pos rfl]
    exact ⟨_, _, rfl, rfl, rfl, a3.rel⟩
  by_cases h0 : x < 0
  · exact no (by unfold f_ST_holds; rw [if_pos h0]) (by unfold f_MO_in; rw [if_pos h0])
  · obtain ⟨p, hp, rfl⟩ := nI_of h0
    by_cases hpc : p ≤ c
    · have e2 : f_MO_in (nI p) 0 (nI c) τ' = some (1, τ') := by unfold f_MO_in; rw [if_neg h0, if_neg (nI_nlt hpc (by omega))]
      have hq := hg p hpc
      unfold Gd at hq
      have hq2 := hC.2 p (by omega)
      rw [hq] at hq2
      have q1 : τ' 12 p = σ' 16 p := by have := congrArg (fun o => o.map Prod.fst) hq2; simp at this; exact this.symm
      have q2 : τ' 13 p = σ' 17 p := by have := congrArg (fun o => o.map Prod.snd) hq2; simp at this; exact this.symm
      rw [s_holds h27 hle hpc, e2, Option.bind_some, Option.bind_some, if_neg (show ¬ (1 : Int32) = 0 by decide), if_neg (show ¬ (1 : Int32) = 0 by decide)]
      dsimp only
      unfold f_ST_encoded b_ST_encoded_16
      rw [p_ld (by omega) (by decide), Option.bind_some, Option.bind_some, Option.bind_some, p_ld (by omega) (by decide), Option.bind_some, Option.bind_some, p_ld (by omega) (by decide), Option.bind_some, Option.bind_some, p_ld (by omega) (by decide), Option.bind_some, Option.bind_some, q1, q2]
      by_cases hz : σ' 16 p = 0
      · rw [if_pos hz, if_pos hz]; exact ⟨_, _, rfl, rfl, rfl, a3.rel⟩
      · rw [if_neg hz, if_neg hz]; exact ⟨_, _, rfl, rfl, rfl, a3.rel⟩
    · exact no (by unfold f_ST_holds; rw [if_neg h0, h27, if_pos (nI_lt (by omega) hp)]) (by unfold f_MO_in; rw [if_neg h0, if_pos (nI_lt (by omega) hp)])
