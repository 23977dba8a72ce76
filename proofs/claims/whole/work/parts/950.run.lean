-- ===== run =====
theorem run_ms {σ τ σ1 τ1 : SS} {P : Nat} (h : MS σ τ P) (c1 : Fr [20, 21, 29, 30] σ σ1) (c2 : ∀ i, i < 10 → σ1 20 i = 0) (c3 : ∀ i, i < 16 → σ1 21 i = 0) (c4 : σ1 30 0 = 0) (d1 : τ1 16 = τ 16) (d2 : ∀ i, i < 16 → τ1 17 i = 0) (d3 : ∀ i, i < 10 → τ1 18 i = 0) (d4 : τ1 24 0 = 0) : MS σ1 τ1 0 := ⟨fun i hi => by rw [c2 i hi, d3 i hi], fun i hi => by rw [c3 i hi, d2 i hi], fun i hi => by rw [d1, c1 22 (by simp)]; exact h.2.2.1 i hi, c4, d4⟩
theorem S_run {σ τ : SS} (h : Rel σ τ) (x : Int32) : St Rel (f_SC_run x) (f_MO_run x) σ τ := by
  obtain ⟨κ, n, D, P, h1, h2, h3, h4, h5, h6, h7, h8, h9, h10, h11, h12⟩ := id h
  by_cases hx0 : x = 0
  · subst hx0
    obtain ⟨L, τ0, b1, b2', b3, b4⟩ := m_rdy h2 h4 h5 h7 h12
    obtain ⟨σ1, c1, c2, c3, c4, c5, c6⟩ := c_reset σ
    have f0 : Fr [24, 25] τ0 (su (su τ0 24 0 0) 25 0 0) := (Fr.su (by simp)).tr (Fr.su (by simp))
    obtain ⟨τ1, d1, d2, d3, d4⟩ := m_clear27 0 FU 0 (su (su τ0 24 0 0) 25 0 0) (by omega) (by unfold FU; omega) (fun i hi => by omega)
    have d1 : b_MO_run_27 FU 0 0 (su (su τ0 24 0 0) 25 0 0) = _ := d1
    rw [if_pos rfl] at d1
    have fT : Fr [17, 18, 24, 25] τ0 τ1 := (f0.mono (by simp)).tr (d2.mono (by simp))
    have e24 : τ1 24 0 = 0 := by rw [d2 24 (by simp), p_suk (by omega), p_sus]
    have e25 : τ1 25 0 = nI 0 := by rw [d2 25 (by simp), p_sus]; rfl
    have hms : MS σ1 τ1 0 := run_ms (τ := τ) h8 c2 c3 c4 c6 (by rw [fT 16 (by simp), b2' 16 (by simp)]) d3 d4 e24
    have hcs : CC σ1 n := h3.fr c2 (fun k hk => by simp; omega)
    have hcm0 : CM τ0 n := h4.fr b2' (fun k hk => by simp; omega)
    have hcm : CM τ1 n := hcm0.fr fT (fun k hk => by simp; omega)
    have eσ : Eqc σ1 κ := fun k hk => (c2.eqc (fun k hk => by simp; omega) k hk).trans (h1 k hk)
    have eτ0 : Eqc τ0 κ := fun k hk => (b2'.eqc (fun k hk => by simp; omega) k hk).trans (h2 k hk)
    have eτ : Eqc τ1 κ := fun k hk => (fT.eqc (fun k hk => by simp; omega) k hk).trans (eτ0 k hk)
    obtain ⟨σ', τ', P', r1, r2, r3, r4, r5, r6, r7⟩ := r_loop FU FU 0 0 0 σ1 τ1 0 hcs hcm (fun k hk => (eτ k hk).trans (eσ k hk).symm) hms (by omega) (by omega) (by unfold FU; omega) (by unfold FU; omega) e25 (Or.inl ⟨0, by omega, rfl, rfl⟩)
    have r1 : b_MA_runInstructions_8 FU 0 0 σ1 = some (nI P', σ') := r1
    refine ⟨(nI P', σ'), (nI P', τ'), ?_, ?_, rfl, ?_⟩
    · unfold f_SC_run f_MA_runInstructions
      rw [if_pos rfl, c1, Option.bind_some, r1, Option.bind_some]
    · unfold f_MO_run
      rw [show f_MO_in 0 0 1 τ = some (1, τ) from rfl, Option.bind_some, if_neg (show ¬ (1 : Int32) = 0 by decide)]
      rw [b1, Option.bind_some, p_sf, Option.bind_some, p_sf, Option.bind_some, d1]
      unfold f_MO_runRegisters
      rw [r2, Option.bind_some, r5.2.2.2.2]
    · show Rel σ' τ'
      have fS : Fr [20, 21, 22, 29, 30, 31] σ σ' := (c2.mono (by simp)).tr (r3.mono (by simp))
      have fM : Fr [16, 17, 18, 24, 25] τ0 τ' := (fT.mono (by simp)).tr r4
      refine ⟨κ, n, D, P', fun k hk => (fS.eqc (fun k hk => by simp; omega) k hk).trans (h1 k hk), fun k hk => (fM.eqc (fun k hk => by simp; omega) k hk).trans (eτ0 k hk), h3.fr fS (fun k hk => by simp; omega), hcm0.fr fM (fun k hk => by simp; omega), h5, by rw [fS 26 (by simp)]; exact h6, by rw [fM 20 (by simp), b2' 20 (by simp)]; exact h7, r5, by omega, r7, ?_, Or.inr ⟨by rw [fM 22 (by simp)]; exact b4, L, b3.fr fM (fun k hk => by simp; omega)⟩⟩
      rw [fS 24 (by simp)]
      rcases h11 with hh | ⟨hh, L', hL⟩
      · exact Or.inl hh
      · exact Or.inr ⟨hh, L', hL.fr fS (fun k hk => by simp; omega)⟩
  · by_cases hx1 : x = 1
    · subst hx1
      obtain ⟨κ, n, D, P, L, σ0, τ0, a1, a2, a3⟩ := rdy h
      obtain ⟨h1, h2, h3, h4, h5, h6, h7, h8, h9, h10, h11, h12, h13, h14⟩ := id a3
      obtain ⟨σ1, c1, c2, c3, c4, c5, c6⟩ := c_reset σ0
      have f0 : Fr [24, 25] τ0 (su (su τ0 24 0 0) 25 0 0) := (Fr.su (by simp)).tr (Fr.su (by simp))
      obtain ⟨τ1, d1, d2, d3, d4⟩ := m_clear27 1 FU 0 (su (su τ0 24 0 0) 25 0 0) (by omega) (by unfold FU; omega) (fun i hi => by omega)
      have d1 : b_MO_run_27 FU 1 0 (su (su τ0 24 0 0) 25 0 0) = _ := d1
      rw [if_neg (show ¬ (1 : Int32) = 0 by decide)] at d1
      have fT : Fr [17, 18, 24, 25] τ0 τ1 := (f0.mono (by simp)).tr (d2.mono (by simp))
      have e24 : τ1 24 0 = 0 := by rw [d2 24 (by simp), p_suk (by omega), p_sus]
      have e25 : τ1 25 0 = nI 0 := by rw [d2 25 (by simp), p_sus]; rfl
      have hms : MS σ1 τ1 0 := run_ms (τ := τ0) h8 c2 c3 c4 c6 (by rw [fT 16 (by simp)]) d3 d4 e24
      have hcn : Cn κ n := Eqc.cn (fun k hk => (h1 k hk).symm) h3.1
      have hC1 := h12.fr c2 (fun k hk => by simp; omega)
      have hM1 := h14.fr fT (fun k hk => by simp; omega)
      obtain ⟨σ', τ', P', r1, r2, r3, r4, r5, r6, r7⟩ := s_loop (κ := κ) (n := n) (D := D) (A := aft κ n L) hcn h5 FU FU 0 0 0 0 σ1 τ1 0 hC1.2.2.2.1 hC1.2.2.2.2.1 hM1.2.2.2 hms ⟨c5, by omega, fun i hi => by omega⟩ (by omega) (by omega) (by unfold FU; omega) (by unfold FU; omega) e25 (Or.inl ⟨0, by omega, rfl, rfl, by rw [List.take_zero]; rfl⟩)
      have r1 : b_MA_runOperations_8 FU 0 0 σ1 = some (nI P', σ') := r1
      have r2 : b_MO_runStack_4 FU 0 0 τ1 = some τ' := r2
      refine ⟨(nI P', σ'), (nI P', τ'), ?_, ?_, rfl, ?_⟩
      · unfold f_SC_run f_MA_runOperations
        rw [if_neg (show ¬ (1 : Int32) = 0 by decide), if_pos rfl, a1, Option.bind_some, c1, Option.bind_some, r1, Option.bind_some]
      · unfold f_MO_run
        rw [show f_MO_in 1 0 1 τ = some (1, τ) from rfl, Option.bind_some, if_neg (show ¬ (1 : Int32) = 0 by decide)]
        rw [a2, Option.bind_some, p_sf, Option.bind_some, p_sf, Option.bind_some, d1]
        unfold f_MO_runStack
        rw [r2, Option.bind_some, r5.2.2.2.2]
      · show Rel σ' τ'
        have fS : Fr [20, 21, 22, 23, 29, 30, 31] σ0 σ' := (c2.mono (by simp)).tr (r3.mono (by simp))
        have fM : Fr [16, 17, 18, 19, 24, 25] τ0 τ' := (fT.mono (by simp)).tr r4
        exact Rd.rel (κ := κ) (n := n) (D := D) (P := P') (L := L) ⟨fun k hk => (fS.eqc (fun k hk => by simp; omega) k hk).trans (h1 k hk), fun k hk => (fM.eqc (fun k hk => by simp; omega) k hk).trans (h2 k hk), h3.fr fS (fun k hk => by simp; omega), h4.fr fM (fun k hk => by simp; omega), h5, by rw [fS 26 (by simp)]; exact h6, by rw [fM 20 (by simp)]; exact h7, r5, by omega, r7, by rw [fS 24 (by simp)]; exact h11, h12.fr fS (fun k hk => by simp; omega), by rw [fM 22 (by simp)]; exact h13, h14.fr fM (fun k hk => by simp; omega)⟩
    · refine ⟨(-1, σ), (-1, τ), ?_, ?_, rfl, h⟩
      · unfold f_SC_run
        rw [if_neg hx0, if_neg hx1]
      · unfold f_MO_run
        have hin : f_MO_in x 0 1 τ = some (0, τ) := by
          unfold f_MO_in
          by_cases h0 : x < 0
          · rw [if_pos h0]
          · rw [if_neg h0]
            obtain ⟨i, hi, rfl⟩ := nI_of h0
            have : i ≠ 0 := fun e => hx0 (by rw [e]; rfl)
            have : i ≠ 1 := fun e => hx1 (by rw [e]; rfl)
            rw [if_pos (show (1 : Int32) < nI i from nI_lt (a := 1) (by omega) hi)]
        rw [hin, Option.bind_some, if_pos rfl]
-- ===== the start =====
theorem dOf_n (x : Int32) : ∃ D, D ≤ 8 ∧ dOf x = nI D := by
  unfold dOf
  by_cases h1 : x < 1
  · rw [if_pos h1]; exact ⟨3, by omega, rfl⟩
  · rw [if_neg h1]
    by_cases h8 : 8 < x
    · rw [if_pos h8]; exact ⟨3, by omega, rfl⟩
    · rw [if_neg h8]
      rw [i_lt, show (1 : Int32).toInt = 1 by decide] at h1
      rw [i_lt, show (8 : Int32).toInt = 8 by decide] at h8
      have h0 : ¬ x < 0 := by rw [i_lt, show (0 : Int32).toInt = 0 by decide]; omega
      obtain ⟨i, hi, rfl⟩ := nI_of h0
      rw [nI_toInt hi] at h8
      exact ⟨i, by omega, rfl⟩
theorem Rel_0 (x : Int32) : Rel (s0C x) (s0M x) := by
  obtain ⟨D, hD, hd⟩ := dOf_n x
  have z : ∀ k, k ≠ 24 → k ≠ 26 → s0C x k = fun _ => 0 := fun k h h' => by unfold s0C; rw [if_neg h, if_neg h']
  have z' : ∀ k, k ≠ 20 → s0M x k = fun _ => 0 := fun k h => by unfold s0M; rw [if_neg h]
  refine ⟨s0C x, 0, D, 0, fun _ _ => rfl, fun k hk => by rw [z k (by omega) (by omega), z' k (by omega)], ⟨⟨by omega, fun j hj => by omega⟩, by rw [z 25 (by omega) (by omega)]; rfl, fun j hj => by omega⟩, ⟨⟨by omega, fun j hj => by omega⟩, by rw [z' 21 (by omega)]; rfl⟩, hD, ?_, ?_, ⟨fun i _ => ?_, fun i _ => ?_, fun i _ => ?_, ?_, ?_⟩, by omega, ?_, Or.inl ?_, Or.inl ?_⟩
  · show dOf x = nI D; exact hd
  · show dOf x = nI D; exact hd
  · rw [z 20 (by omega) (by omega), z' 18 (by omega)]
  · rw [z 21 (by omega) (by omega), z' 17 (by omega)]
  · rw [z 22 (by omega) (by omega), z' 16 (by omega)]
  · rw [z 30 (by omega) (by omega)]; rfl
  · rw [z' 24 (by omega)]; rfl
  · rw [z 31 (by omega) (by omega), z' 25 (by omega)]
  · rfl
  · rw [z' 22 (by omega)]
theorem rr_ex : ∃ RR : SS → SS → Prop, RS RR ∧ ∀ x : Int32, RR (s0C x) (s0M x) := ⟨Rel, ⟨fun _ _ h a b c d => S_add h a b c d, fun _ _ h a b c d e => S_set h a b c d e, fun _ _ h x => S_cut h x, fun _ _ h => S_size h, fun _ _ h => S_length h, fun _ _ h x => S_code h x, fun _ _ h x => S_carried h x, fun _ _ h x => S_need h x, fun _ _ h x => S_live h x, fun _ _ h => S_stores h, fun _ _ h => S_depth h, fun _ _ h x => S_run h x, fun _ _ h x => S_out h x, fun _ _ h => S_steps h, fun _ _ h x => S_cell h x⟩, Rel_0⟩
