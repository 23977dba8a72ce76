-- ===== the stack run =====
theorem FC_len {κ : SS} {B : Nat → Bool} {A : Nat → Int32} {D n : Nat} : (FC κ (tT κ B A D n) A n).length = cum κ (tT κ B A D n) A n n + 1 := by
  unfold FC
  rw [List.length_append, cumPL (Nat.le_refl _)]
  rfl
theorem s_holds {σ : SS} {p e : Nat} (h27 : σ 27 0 = nI e) (he : e ≤ 200) (hp : p ≤ e) : f_ST_holds (nI p) σ = some (1, σ) := by
  unfold f_ST_holds
  rw [if_neg (nI_pos (by omega)), h27, if_neg (nI_nlt hp (by omega)), if_neg (show ¬ (201 : Int32) ≤ nI p from nI_ge (b := 201) (by omega) (by omega))]
theorem s_loop {κ : SS} {n D : Nat} {A : Nat → Int32} (hcn : Cn κ n) (hD : D ≤ 8) : ∀ (m m' k h : Nat) (x y : Int32) (σ τ : SS) (P : Nat), σ 27 0 = nI (cum κ (tT κ (Bf κ n) A D n) A n n) → (∀ p, p ≤ cum κ (tT κ (Bf κ n) A D n) A n n → Gd (FC κ (tT κ (Bf κ n) A D n) A n) σ p) → Cd τ (FC κ (tT κ (Bf κ n) A D n) A n) → MS σ τ P → SK σ τ h → P ≤ k → k ≤ 2000 → 2000 - k < m → 2000 - k < m' → τ 25 0 = nI k → ((∃ p, p ≤ cum κ (tT κ (Bf κ n) A D n) A n n ∧ x = nI p ∧ y = nI p ∧ hs ((FC κ (tT κ (Bf κ n) A D n) A n).take p) 0 = some h) ∨ (x = -1 ∧ y = nI (cum κ (tT κ (Bf κ n) A D n) A n n + 1))) → ∃ (σ' τ' : SS) (P' : Nat), b_MA_runOperations_8 m x (nI k) σ = some (nI P', σ') ∧ b_MO_runStack_4 m' y (nI h) τ = some τ' ∧ Fr [20, 21, 22, 23, 29, 30, 31] σ σ' ∧ Fr [16, 17, 18, 19, 24, 25] τ τ' ∧ MS σ' τ' P' ∧ P' ≤ 2000 ∧ σ' 31 0 = τ' 25 0 := by
  have hDn : Dn (tT κ (Bf κ n) A D n) n := tT_Dn
  have hle := cum_le (κ := κ) (B := Bf κ n) (A := A) (D := D) hcn.1 (Nat.le_refl n)
  intro m
  induction m with
  | zero => intro m' k h x y σ τ P _ _ _ _ _ _ _ h; omega
  | succ m ih =>
    intro m' k h x y σ τ P h27 hg hC hms hsk hPk hk hmm hmm' h25 hxy
    obtain ⟨m', rfl⟩ : ∃ g, m' = g + 1 := ⟨m' - 1, by omega⟩
    have h23 : τ 23 0 = nI (cum κ (tT κ (Bf κ n) A D n) A n n + 1) := by rw [hC.1, FC_len]
    have stop : ∃ (σ' τ' : SS) (P' : Nat), ((sf σ 31 (nI k)).bind fun σ2 => some ((σ2 30 0), σ2)) = some (nI P', σ') ∧ some τ = some τ' ∧ Fr [20, 21, 22, 23, 29, 30, 31] σ σ' ∧ Fr [16, 17, 18, 19, 24, 25] τ τ' ∧ MS σ' τ' P' ∧ P' ≤ 2000 ∧ σ' 31 0 = τ' 25 0 := by
      rw [p_sf, Option.bind_some]
      refine ⟨su σ 31 0 (nI k), τ, P, ?_, rfl, Fr.su (by simp), Fr.rf, hms.fr (S := [31]) (S' := []) (Fr.su (by simp)) Fr.rf (fun k hk => by simp; omega) (fun k hk => by simp), by omega, by rw [p_sus, h25]⟩
      rw [p_suk (by omega), hms.2.2.2.1]
    rw [b_MA_runOperations_8]
    by_cases hk3 : 2000 ≤ k
    · have r : b_MO_runStack_4 (m' + 1) y (nI h) τ = some τ := by
        rw [b_MO_runStack_4, h25, if_pos (show (2000 : Int32) ≤ nI k from nI_le (a := 2000) hk3 (by omega))]
        split <;> rfl
      rw [if_pos (show (2000 : Int32) ≤ nI k from nI_le (a := 2000) hk3 (by omega)), r]
      exact stop
    · rw [if_neg (show ¬ (2000 : Int32) ≤ nI k from nI_ge (b := 2000) (by omega) (by omega))]
      rcases hxy with ⟨p, p1, rfl, rfl, p2⟩ | ⟨rfl, rfl⟩
      · have hgp := hg p p1
        unfold Gd at hgp
        have hcp := hC.2 p (by rw [FC_len]; omega)
        rw [hgp] at hcp
        have q1 : τ 12 p = σ 16 p := by have := congrArg (fun o => o.map Prod.fst) hcp; simp at this; exact this.symm
        have q2 : τ 13 p = σ 17 p := by have := congrArg (fun o => o.map Prod.snd) hcp; simp at this; exact this.symm
        obtain ⟨o, o1, o2, o3, o4⟩ := cdl_g (pl := (PL κ (tT κ (Bf κ n) A D n) A n)) hDn hcn (σ 16 p, σ 17 p) (List.mem_of_getElem? hgp)
        have o2 : σ 16 p = nI o := o2
        obtain ⟨a, b, b1, b2', b3⟩ := hs_take (FC_all (κ := κ) (B := Bf κ n) (A := A) hcn hD) p _ hgp
        rw [p2] at b1
        cases b1
        have b2' : st (σ 16 p).toNatClampNeg h = some b := b2'
        rw [o2, nI_clamp (by omega)] at b2'
        have hop : f_ST_operationAt (nI p) σ = some (σ 16 p, σ) := by unfold f_ST_operationAt; rw [p_ld (by omega) (by decide), Option.bind_some]
        have hnu : f_ST_numberAt (nI p) σ = some (σ 17 p, σ) := by unfold f_ST_numberAt; rw [p_ld (by omega) (by decide), Option.bind_some]
        rw [s_holds h27 hle p1, Option.bind_some, if_neg (show ¬ (1 : Int32) = 0 by decide), hop, Option.bind_some]
        dsimp only
        rw [hnu, Option.bind_some]
        dsimp only
        rw [o2, nI_1]
        obtain ⟨σ1, τ1, x, y, P1, c1, c2, c3, c4, c5, c6, c7, c8, c9⟩ := s_step (p := p) (N := cum κ (tT κ (Bf κ n) A D n) A n n + 1) hms hsk (by omega) o1 o3 b2' (by rw [q1, o2]) q2 h23 h25 (by omega) (by omega) (by omega)
        rw [c1, Option.bind_some, c2, nI_1]
        have hC1 : Cd τ1 (FC κ (tT κ (Bf κ n) A D n) A n) := ⟨by rw [c4 23 (by simp)]; exact hC.1, fun p hp => by rw [c4 12 (by simp), c4 13 (by simp)]; exact hC.2 p hp⟩
        have hg1 : ∀ p, p ≤ cum κ (tT κ (Bf κ n) A D n) A n n → Gd (FC κ (tT κ (Bf κ n) A D n) A n) σ1 p := fun p hp => by
          have := hg p hp
          unfold Gd at this ⊢
          rw [c3 16 (by simp), c3 17 (by simp)]
          exact this
        have hnx : (∃ p, p ≤ cum κ (tT κ (Bf κ n) A D n) A n n ∧ x = nI p ∧ y = nI p ∧ hs ((FC κ (tT κ (Bf κ n) A D n) A n).take p) 0 = some b) ∨ (x = -1 ∧ y = nI (cum κ (tT κ (Bf κ n) A D n) A n n + 1)) := by
          rcases c9 with ⟨d1, d2⟩ | ⟨d1, d2, d3⟩ | ⟨-, d2, d3⟩
          · by_cases hpe : p = cum κ (tT κ (Bf κ n) A D n) A n n
            · -- END stands there
              have hend := FC_end (κ := κ) (B := Bf κ n) (A := A) (D := D) (n := n)
              rw [← hpe, hgp] at hend
              have : σ 16 p = 14 := by have := congrArg (fun o => o.map Prod.fst) hend; simp at this; exact this
              have ho : o = 14 := by
                rw [o2] at this
                exact (nI_eq (b := 14) (by omega) (by omega)).mp this
              subst ho
              have : f_MA_followOperation (nI 14) (σ 17 p) (nI (p + 1)) σ = some (-1, σ) := rfl
              rw [this] at c1
              cases c1
              exact absurd d1.symm (p_nm1 (by omega))
            · exact Or.inl ⟨p + 1, by omega, d1, d2, b3⟩
          · obtain ⟨t, t1, t2⟩ := o4 d1
            have t2 : σ 17 p = (PL κ (tT κ (Bf κ n) A D n) A n) t := t2
            have hb : b = 0 := by
              rcases d1 with e | e
              · subst e; simp [st] at b2'; omega
              · subst e; simp [st] at b2'; omega
            rw [hb]
            unfold PL at t2
            by_cases htn : t < n
            · rw [if_pos htn] at t2
              exact Or.inl ⟨cum κ (tT κ (Bf κ n) A D n) A n t, cum_m n (by omega), by rw [d2, t2], by rw [d3, t2], FC_at hcn hD (by omega)⟩
            · rw [if_neg htn] at t2
              exact Or.inl ⟨cum κ (tT κ (Bf κ n) A D n) A n n, Nat.le_refl _, by rw [d2, t2], by rw [d3, t2], FC_at hcn hD (Nat.le_refl _)⟩
          · exact Or.inr ⟨d2, d3⟩
        clear o3 o4 c9 stop
        obtain ⟨σ', τ', P', e1, e2, e3, e4, e5⟩ := ih m' (k + 1) b x y σ1 τ1 P1 (by rw [c3 27 (by simp)]; exact h27) hg1 hC1 c5 c7 (by omega) (by omega) (by omega) (by omega) c8 hnx
        exact ⟨σ', τ', P', e1, e2, (c3.mono (by simp)).tr e3, c4.tr e4, e5⟩
      · have r : b_MO_runStack_4 (m' + 1) (nI (cum κ (tT κ (Bf κ n) A D n) A n n + 1)) (nI h) τ = some τ := by
          rw [b_MO_runStack_4, h23, if_pos (nI_le (Nat.le_refl _) (by omega))]
        have hh : f_ST_holds (-1) σ = some (0, σ) := by unfold f_ST_holds; rw [if_pos (by decide)]
        rw [r, hh, Option.bind_some, if_pos rfl]
        exact stop
