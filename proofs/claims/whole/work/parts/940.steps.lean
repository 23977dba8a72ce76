-- ===== more steps =====
/-- answers of one instruction -/
theorem S_row {κ σ τ σ' τ' : SS} {n D P : Nat} {L : Nat → Int32} {x : Int32} {g : Int32 → SS → Option (Int32 × SS)} {r b : Nat} (a1 : f_SC_translate σ = some σ') (a2 : f_MO_work τ = some τ') (a3 : Rd κ σ' τ' n D P L) (hb : 40 ≤ b) (hb2 : b < 2 ^ 31) (hg : ∀ i, i < n → g (nI i) σ' = some (τ' r i, σ')) : ∃ q q' : Int32 × SS, ((f_SC_translate σ).bind fun σ1 => (f_RC_holds x σ1).bind fun q3 => (if q3.1 = 0 then some ((-1 : Int32), q3.2) else (g x q3.2).bind fun q6 => some (q6.1, q6.2))) = some q ∧ ((f_MO_work τ).bind fun σ1 => (f_MO_in x (0 : Int32) ((σ1 21 0) - (1 : Int32)) σ1).bind fun q3 => (if q3.1 = 0 then some ((-1 : Int32), q3.2) else (ld (q3.2 r) b x).bind fun v6 => some (v6, q3.2))) = some q' ∧ q.1 = q'.1 ∧ Rel q.2 q'.2 := by
  obtain ⟨h1, h2, h3, h4, -⟩ := id a3
  have hn := h3.1.1
  rw [a1, a2, Option.bind_some, Option.bind_some, h4.2]
  rcases hold_in (σ := σ') (τ := τ') h3.2.1 hn x with ⟨e1, e2⟩ | ⟨i, hi, rfl, e1, e2⟩
  · rw [e1, e2, Option.bind_some, Option.bind_some, if_pos rfl, if_pos rfl]
    exact ⟨_, _, rfl, rfl, rfl, a3.rel⟩
  · rw [e1, e2, Option.bind_some, Option.bind_some, if_neg (show ¬ (1 : Int32) = 0 by decide), if_neg (show ¬ (1 : Int32) = 0 by decide)]
    dsimp only
    rw [hg i hi, Option.bind_some, p_ld (by omega) hb2, Option.bind_some]
    exact ⟨_, _, rfl, rfl, rfl, a3.rel⟩
theorem S_carried {σ τ : SS} (h : Rel σ τ) (x : Int32) : St Rel (f_SC_carried x) (f_MO_carried x) σ τ := by
  obtain ⟨κ, n, D, P, L, σ', τ', a1, a2, a3⟩ := rdy h
  obtain ⟨h1, h2, h3, h4, h5, h6, h7, h8, h9, h10, h11, h12, h13, h14⟩ := id a3
  have hn := h3.1.1
  unfold St f_SC_carried f_MO_carried
  refine S_row (g := f_CA_goalOf) a1 a2 a3 (by omega) (by omega) (fun i hi => ?_)
  unfold f_CA_goalOf
  rw [p_ld (by omega) (by decide), Option.bind_some, h12.2.2.1.2.1.2.2.2.1 i hi, h14.2.2.1.2.1.2.2.2 i hi]
theorem S_need {σ τ : SS} (h : Rel σ τ) (x : Int32) : St Rel (f_SC_need x) (f_MO_need x) σ τ := by
  obtain ⟨κ, n, D, P, L, σ', τ', a1, a2, a3⟩ := rdy h
  obtain ⟨h1, h2, h3, h4, h5, h6, h7, h8, h9, h10, h11, h12, h13, h14⟩ := id a3
  have hn := h3.1.1
  unfold St f_SC_need f_MO_need
  refine S_row (g := f_CA_needOf) a1 a2 a3 (by omega) (by omega) (fun i hi => ?_)
  unfold f_CA_needOf
  rw [p_ld (by omega) (by decide), Option.bind_some, (h12.2.2.1.2.1.2.2.1 i hi).2.2.1, (h14.2.2.1.2.1.2.2.1 i hi).2.2.1]
theorem S_live {σ τ : SS} (h : Rel σ τ) (x : Int32) : St Rel (f_SC_live x) (f_MO_live x) σ τ := by
  obtain ⟨κ, n, D, P, L, σ', τ', a1, a2, a3⟩ := rdy h
  obtain ⟨h1, h2, h3, h4, h5, h6, h7, h8, h9, h10, h11, h12, h13, h14⟩ := id a3
  have hn := h3.1.1
  unfold St f_SC_live f_MO_live
  refine S_row (g := f_FL_liveBefore) a1 a2 a3 (by omega) (by omega) (fun i hi => ?_)
  unfold f_FL_liveBefore
  rw [g_holds h3.2.1 (by omega) (by omega), Option.bind_some, if_pos hi, if_neg (show ¬ (1 : Int32) = 0 by decide)]
  dsimp only
  rw [p_ld (by omega) (by decide), Option.bind_some, h12.2.1 i hi, h14.2.1 i hi]
theorem S_stores {σ τ : SS} (h : Rel σ τ) : St Rel f_SC_stores f_MO_stores σ τ := by
  obtain ⟨κ, n, D, P, L, σ', τ', a1, a2, a3⟩ := rdy h
  obtain ⟨h1, h2, h3, h4, h5, h6, h7, h8, h9, h10, h11, h12, h13, h14⟩ := id a3
  have hle := cum_le (κ := κ) (B := Bf κ n) (A := aft κ n L) (D := D) h3.1.1 (Nat.le_refl n)
  have hcn : Cn κ n := Eqc.cn (fun k hk => (h1 k hk).symm) h3.1
  have hm := m_cnt h14.2.2.2 (by rw [FC_len]; omega) FU 0 0 (by omega) (by rw [FC_len]; unfold FU; omega) (by omega)
  have hm : b_MO_stores_8 FU 0 0 τ' = _ := hm
  have hcnt : cn2 ((FC κ (tT κ (Bf κ n) (aft κ n L) D n) (aft κ n L) n).drop 0) = sm (wc κ (tT κ (Bf κ n) (aft κ n L) D n) (aft κ n L) n) n := by
    rw [List.drop_zero]
    unfold FC
    rw [cn2_app, cdl_cn tT_Dn hcn n (Nat.le_refl _)]
    rfl
  rw [hcnt, Nat.zero_add] at hm
  refine ⟨(nI (sm (wc κ (tT κ (Bf κ n) (aft κ n L) D n) (aft κ n L) n) n), σ'), (nI (sm (wc κ (tT κ (Bf κ n) (aft κ n L) D n) (aft κ n L) n) n), τ'), ?_, by unfold f_MO_stores; rw [a2, Option.bind_some]; exact hm, rfl, a3.rel⟩
  unfold f_SC_stores f_ST_putCount
  rw [a1, Option.bind_some, Option.bind_some, h12.2.2.2.2.2]
theorem S_depth {σ τ : SS} (h : Rel σ τ) : St Rel f_SC_depth f_MO_depth σ τ := by
  obtain ⟨κ, n, D, P, L, σ', τ', a1, a2, a3⟩ := rdy h
  obtain ⟨h1, h2, h3, h4, h5, h6, h7, h8, h9, h10, h11, h12, h13, h14⟩ := id a3
  obtain ⟨g', d1, d2⟩ := g_depth (σ := σ') (τ := τ') h3.2.1 h4.2 h3.1.1 (fun i hi => ⟨_, nb8 (κ := κ) (B := Bf κ n) (A := aft κ n L) h5 n i, (h12.2.2.1.2.1.2.2.1 i hi).2.2.1, (h14.2.2.1.2.1.2.2.1 i hi).2.2.1⟩) FU FU 0 0 (by omega) (by have := h3.1.1; unfold FU; omega) (by have := h3.1.1; unfold FU; omega) (by omega)
  have d1 : b_CA_greatestNeed_4 FU 0 0 σ' = some (nI g', σ') := d1
  have d2 : b_MO_depth_8 FU 0 0 τ' = some (nI g', τ') := d2
  refine ⟨(nI g', σ'), (nI g', τ'), ?_, ?_, rfl, a3.rel⟩
  · unfold f_SC_depth f_CA_greatestNeed
    rw [a1, Option.bind_some, d1, Option.bind_some]
  · unfold f_MO_depth
    rw [a2, Option.bind_some, d2]
theorem S_steps {σ τ : SS} (h : Rel σ τ) : St Rel f_SC_steps f_MO_steps σ τ := by
  obtain ⟨κ, n, D, P, h1, h2, h3, h4, h5, h6, h7, h8, h9, h10, h11, h12⟩ := id h
  exact ⟨(σ 31 0, σ), (τ 25 0, τ), rfl, rfl, h10, h⟩
theorem S_cell {σ τ : SS} (h : Rel σ τ) (x : Int32) : St Rel (f_SC_cell x) (f_MO_cell x) σ τ := by
  obtain ⟨κ, n, D, P, h1, h2, h3, h4, h5, h6, h7, h8, h9, h10, h11, h12⟩ := id h
  unfold St f_SC_cell f_MO_cell f_MA_cellValue f_MO_in
  by_cases h0 : x < 0
  · rw [if_pos h0, if_pos h0, Option.bind_some, Option.bind_some, if_pos rfl]
    exact ⟨_, _, rfl, rfl, rfl, h⟩
  · rw [if_neg h0, if_neg h0]
    obtain ⟨p, hp, rfl⟩ := nI_of h0
    by_cases h16 : p < 16
    · rw [if_neg (show ¬ (16 : Int32) ≤ nI p from nI_ge (b := 16) h16 (by omega)), if_neg (show ¬ (15 : Int32) < nI p from nI_nlt (a := 15) (by omega) (by omega)), p_ld h16 (by decide), Option.bind_some, Option.bind_some, Option.bind_some, if_neg (show ¬ (1 : Int32) = 0 by decide)]
      dsimp only
      rw [p_ld h16 (by decide), Option.bind_some, h8.2.1 p h16]
      exact ⟨_, _, rfl, rfl, rfl, h⟩
    · rw [if_pos (show (16 : Int32) ≤ nI p from nI_le (a := 16) (by omega) hp), if_pos (show (15 : Int32) < nI p from nI_lt (a := 15) (by omega) hp), Option.bind_some, Option.bind_some, if_pos rfl]
      exact ⟨_, _, rfl, rfl, rfl, h⟩
theorem S_out {σ τ : SS} (h : Rel σ τ) (x : Int32) : St Rel (f_SC_out x) (f_MO_out x) σ τ := by
  obtain ⟨κ, n, D, P, h1, h2, h3, h4, h5, h6, h7, h8, h9, h10, h11, h12⟩ := id h
  obtain ⟨m1, m2, m3, m4, m5⟩ := h8
  unfold St f_SC_out f_MO_out f_MA_printedNumber f_MO_in
  by_cases h0 : x < 0
  · rw [if_pos h0, if_pos h0, Option.bind_some, Option.bind_some, if_pos rfl]
    exact ⟨_, _, rfl, rfl, rfl, h⟩
  · rw [if_neg h0, if_neg h0]
    obtain ⟨p, hp, rfl⟩ := nI_of h0
    rw [m4]
    by_cases h40 : p < 40
    · rw [if_neg (show ¬ (40 : Int32) ≤ nI p from nI_ge (b := 40) h40 (by omega)), if_neg (show ¬ (39 : Int32) < nI p from nI_nlt (a := 39) (by omega) (by omega)), Option.bind_some, if_neg (show ¬ (1 : Int32) = 0 by decide)]
      simp only [m5]
      by_cases hP : P ≤ p
      · rw [if_pos (nI_le hP (by omega)), if_pos (nI_le hP (by omega)), Option.bind_some]
        exact ⟨_, _, rfl, rfl, rfl, h⟩
      · rw [if_neg (nI_ge (by omega) (by omega)), if_neg (nI_ge (by omega) (by omega)), p_ld h40 (by decide), Option.bind_some, Option.bind_some, p_ld h40 (by decide), Option.bind_some, m3 p h40]
        exact ⟨_, _, rfl, rfl, rfl, h⟩
    · rw [if_pos (show (40 : Int32) ≤ nI p from nI_le (a := 40) (by omega) hp), if_pos (show (39 : Int32) < nI p from nI_lt (a := 39) (by omega) hp), Option.bind_some, if_pos rfl]
      by_cases hP : nI P ≤ nI p
      · rw [if_pos hP, Option.bind_some]
        exact ⟨_, _, rfl, rfl, rfl, h⟩
      · rw [if_neg hP, Option.bind_some]
        exact ⟨_, _, rfl, rfl, rfl, h⟩
theorem S_cut {σ τ : SS} (h : Rel σ τ) (x : Int32) : St Rel (f_SC_cut x) (f_MO_cut x) σ τ := by
  obtain ⟨κ, n, D, P, h1, h2, h3, h4, h5, h6, h7, h8, h9, h10, h11, h12⟩ := id h
  have hn := h3.1.1
  unfold St f_SC_cut f_MO_cut f_MO_in
  by_cases h0 : x < 0
  · rw [if_pos h0, if_pos h0, Option.bind_some, if_pos rfl]
    exact ⟨_, _, rfl, rfl, rfl, h⟩
  · rw [if_neg h0, if_neg h0]
    obtain ⟨i, hi, rfl⟩ := nI_of h0
    rw [g_count, Option.bind_some, h4.2]
    dsimp only
    rw [h3.2.1]
    by_cases hin : i ≤ n
    · unfold f_RC_resize
      rw [if_pos (nI_le hin (by omega)), if_neg (nI_nlt hin (by omega)), p_sf, Option.bind_some, Option.bind_some, p_sf, Option.bind_some, Option.bind_some, if_neg (show ¬ (1 : Int32) = 0 by decide)]
      dsimp only
      rw [p_sf, Option.bind_some, p_sf, Option.bind_some]
      refine ⟨_, _, rfl, rfl, rfl, ?_⟩
      show Rel (su (su σ 25 0 (nI i)) 24 0 1) (su (su τ 21 0 (nI i)) 22 0 0)
      have f1 : Fr [24, 25] σ (su (su σ 25 0 (nI i)) 24 0 1) := (Fr.su (by simp)).tr (Fr.su (by simp))
      have f2 : Fr [21, 22] τ (su (su τ 21 0 (nI i)) 22 0 0) := (Fr.su (by simp)).tr (Fr.su (by simp))
      have e1 : Eqc (su (su σ 25 0 (nI i)) 24 0 1) σ := f1.eqc (fun k hk => by simp; omega)
      have e2 : Eqc (su (su τ 21 0 (nI i)) 22 0 0) τ := f2.eqc (fun k hk => by simp; omega)
      refine ⟨κ, i, D, P, fun k hk => (e1 k hk).trans (h1 k hk), fun k hk => (e2 k hk).trans (h2 k hk), ⟨⟨by omega, fun j hj => e1.rt (h3.1.2 j (by omega))⟩, by rw [p_suk (by omega), p_sus], fun j hj => ?_⟩, ⟨⟨by omega, fun j hj => e2.rt (h4.1.2 j (by omega))⟩, by rw [p_suk (by omega), p_sus]⟩, h5, by rw [f1 26 (by simp)]; exact h6, by rw [f2 20 (by simp)]; exact h7, h8.fr f1 f2 (fun k hk => by simp; omega) (fun k hk => by simp; omega), h9, by rw [f1 31 (by simp), f2 25 (by simp)]; exact h10, Or.inl (p_sus _ _ _ _), Or.inl (p_sus _ _ _ _)⟩
      rw [e1.wRq, e1.rAq, e1.rBq, f1 4 (by simp), f1 5 (by simp), f1 6 (by simp), f1 1 (by simp), f1 2 (by simp), f1 3 (by simp)]
      exact h3.2.2 j (by omega)
    · rw [if_neg (nI_ge (by omega) hi), if_pos (nI_lt (by omega) hi), Option.bind_some, if_pos rfl]
      exact ⟨_, _, rfl, rfl, rfl, h⟩
/-- the relation after an instruction was written -/
theorem Rel_w {κ σ τ : SS} {n n' D P i o : Nat} {x y z : Int32} (h1 : Eqc σ κ) (h2 : Eqc τ κ) (h3 : CC σ n) (h5 : D ≤ 8) (h6 : σ 26 0 = nI D) (h7 : τ 20 0 = nI D) (h8 : MS σ τ P) (h9 : P ≤ 2000) (h10 : σ 31 0 = τ 25 0) (hn' : n' ≤ 40) (hj : ∀ j, j < n' → j ≠ i → j < n) (ho : o ≤ 11) (hf : fit o x y z = true) : Rel (su (w7 (su σ 25 0 (nI n')) i o x y z) 24 0 1) (su (su (w4 τ i o x y z) 22 0 0) 21 0 (nI n')) := by
  have g0 : Fr [25] σ (su σ 25 0 (nI n')) := Fr.su (by simp)
  have g1 : Fr [24] (w7 (su σ 25 0 (nI n')) i o x y z) (su (w7 (su σ 25 0 (nI n')) i o x y z) 24 0 1) := Fr.su (by simp)
  have g2 : Fr [21, 22] (w4 τ i o x y z) (su (su (w4 τ i o x y z) 22 0 0) 21 0 (nI n')) := (Fr.su (by simp)).tr (Fr.su (by simp))
  have f1 : Fr [0, 1, 2, 3, 4, 5, 6, 24, 25] σ (su (w7 (su σ 25 0 (nI n')) i o x y z) 24 0 1) := ((g0.mono (by simp)).tr (w7_fr.mono (by simp))).tr (g1.mono (by simp))
  have f2 : Fr [0, 1, 2, 3, 21, 22] τ (su (su (w4 τ i o x y z) 22 0 0) 21 0 (nI n')) := (w4_fr.mono (by simp)).tr (g2.mono (by simp))
  have e0 : Eqc τ (su σ 25 0 (nI n')) := fun k hk => by rw [g0 k (by simp; omega), h1 k hk, h2 k hk]
  have e3 : Eqc (su (su (w4 τ i o x y z) 22 0 0) 21 0 (nI n')) (su (w7 (su σ 25 0 (nI n')) i o x y z) 24 0 1) := fun k hk => by
    rw [g2 k (by simp; omega), g1 k (by simp; omega), w7_fr4 k (by simp; omega)]
    exact w4_eqc e0 k hk
  have hc : CC (w7 (su σ 25 0 (nI n')) i o x y z) n' := CC_w7 hn' (p_sus _ _ _ _) ho hf (fun j hj1 hj2 => by
    have hjn := hj j hj1 hj2
    have ee : Eqc (su σ 25 0 (nI n')) σ := g0.eqc (fun k hk => by simp; omega)
    refine ⟨ee.rt (h3.1.2 j hjn), ?_⟩
    rw [ee.wRq, ee.rAq, ee.rBq, g0 4 (by simp), g0 5 (by simp), g0 6 (by simp), g0 1 (by simp), g0 2 (by simp), g0 3 (by simp)]
    exact h3.2.2 j hjn)
  have hc2 : CC (su (w7 (su σ 25 0 (nI n')) i o x y z) 24 0 1) n' := hc.fr g1 (fun k hk => by simp; omega)
  refine ⟨_, n', D, P, fun k hk => rfl, e3, hc2, ⟨e3.cn hc2.1, p_sus _ _ _ _⟩, h5, by rw [f1 26 (by simp)]; exact h6, by rw [f2 20 (by simp)]; exact h7, h8.fr f1 f2 (fun k hk => by simp; omega) (fun k hk => by simp; omega), h9, by rw [f1 31 (by simp), f2 25 (by simp)]; exact h10, Or.inl (p_sus _ _ _ _), Or.inl ?_⟩
  rw [p_suk (by omega), p_sus]
theorem S_add {σ τ : SS} (h : Rel σ τ) (w x y z : Int32) : St Rel (f_SC_add w x y z) (f_MO_add w x y z) σ τ := by
  obtain ⟨κ, n, D, P, h1, h2, h3, h4, h5, h6, h7, h8, h9, h10, h11, h12⟩ := id h
  have hn := h3.1.1
  unfold St f_SC_add f_MO_add
  rw [g_count, Option.bind_some, h4.2]
  dsimp only
  rw [h3.2.1]
  by_cases h40 : 40 ≤ n
  · rw [if_pos (show (40 : Int32) ≤ nI n from nI_le (a := 40) h40 (by omega)), if_pos (show (40 : Int32) ≤ nI n from nI_le (a := 40) h40 (by omega))]
    exact ⟨_, _, rfl, rfl, rfl, h⟩
  · rw [if_neg (show ¬ (40 : Int32) ≤ nI n from nI_ge (b := 40) (by omega) (by omega)), if_neg (show ¬ (40 : Int32) ≤ nI n from nI_ge (b := 40) (by omega) (by omega))]
    rcases op_ca w with hw | ⟨o, ho, rfl⟩
    · rw [c_fits0 hw, m_fits0 hw, Option.bind_some, Option.bind_some, if_pos rfl, if_pos rfl]
      exact ⟨_, _, rfl, rfl, rfl, h⟩
    · rw [c_fits ho, m_fits ho, Option.bind_some, Option.bind_some]
      simp only [b2_z]
      cases hf : fit o x y z with
      | false =>
        rw [if_pos rfl, if_pos rfl]
        exact ⟨_, _, rfl, rfl, rfl, h⟩
      | true =>
        unfold f_RC_resize
        rw [if_neg (by simp), if_neg (by simp), p_sf, Option.bind_some, Option.bind_some, nI_1, c_writeI (by omega) ho, Option.bind_some, p_sf, Option.bind_some, h4.2, m_putI (by omega), Option.bind_some, p_sf, Option.bind_some]
        have e21 : su (w4 τ n o x y z) 22 0 0 21 0 = nI n := by rw [p_suk (by omega), w4_fr 21 (by simp)]; exact h4.2
        rw [e21, nI_1]
        refine ⟨_, _, rfl, rfl, ?_, Rel_w h1 h2 h3 h5 h6 h7 h8 h9 h10 (by omega) (fun j hj1 hj2 => by omega) ho hf⟩
        show nI n = su _ 21 0 (nI (n + 1)) 21 0 - 1
        rw [p_sus]
        exact (pk_sub (a := n + 1) (b := 1) (by omega)).symm
theorem S_set {σ τ : SS} (h : Rel σ τ) (v w x y z : Int32) : St Rel (f_SC_set v w x y z) (f_MO_set v w x y z) σ τ := by
  obtain ⟨κ, n, D, P, h1, h2, h3, h4, h5, h6, h7, h8, h9, h10, h11, h12⟩ := id h
  have hn := h3.1.1
  unfold St f_SC_set f_MO_set
  rw [h4.2]
  rcases hold_in (σ := σ) (τ := τ) h3.2.1 hn v with ⟨e1, e2⟩ | ⟨i, hi, rfl, e1, e2⟩
  · rw [e1, e2, Option.bind_some, Option.bind_some, if_pos rfl, if_pos rfl]
    exact ⟨_, _, rfl, rfl, rfl, h⟩
  · rw [e1, e2, Option.bind_some, Option.bind_some, if_neg (show ¬ (1 : Int32) = 0 by decide), if_neg (show ¬ (1 : Int32) = 0 by decide)]
    dsimp only
    rcases op_ca w with hw | ⟨o, ho, rfl⟩
    · rw [c_fits0 hw, m_fits0 hw, Option.bind_some, Option.bind_some, if_pos rfl, if_pos rfl]
      exact ⟨_, _, rfl, rfl, rfl, h⟩
    · rw [c_fits ho, m_fits ho, Option.bind_some, Option.bind_some]
      simp only [b2_z]
      cases hf : fit o x y z with
      | false =>
        rw [if_pos rfl, if_pos rfl]
        exact ⟨_, _, rfl, rfl, rfl, h⟩
      | true =>
        rw [if_neg (by simp), if_neg (by simp), c_writeI (by omega) ho, Option.bind_some, p_sf, Option.bind_some, m_putI (by omega), Option.bind_some]
        refine ⟨_, _, rfl, rfl, rfl, ?_⟩
        have hr := Rel_w (κ := κ) (σ := σ) (τ := τ) (n := n) (n' := n) (i := i) h1 h2 h3 h5 h6 h7 h8 h9 h10 hn (fun j hj1 hj2 => hj1) ho hf
        have k1 : su σ 25 0 (nI n) = σ := by
          apply p_ext
          intro k j
          rw [p_su]
          by_cases hk : k = 25
          · subst hk
            by_cases hj : j = 0
            · subst hj; rw [if_pos rfl, if_pos rfl]; exact h3.2.1.symm
            · rw [if_pos rfl, if_neg hj]
          · rw [if_neg hk]
        have k2 : su (su (w4 τ i o x y z) 22 0 0) 21 0 (nI n) = su (w4 τ i o x y z) 22 0 0 := by
          apply p_ext
          intro k j
          rw [p_su]
          by_cases hk : k = 21
          · subst hk
            by_cases hj : j = 0
            · subst hj; rw [if_pos rfl, if_pos rfl, p_suk (by omega), w4_fr 21 (by simp)]; exact h4.2.symm
            · rw [if_pos rfl, if_neg hj]
          · rw [if_neg hk]
        rw [k1, k2] at hr
        exact hr
