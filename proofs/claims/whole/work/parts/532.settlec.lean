-- ===== the class settles all =====
theorem c_tReads {σ : SS} {T : Nat → En} {j r : Nat} (b : Bool) (hj : j ≤ 40) (h14 : ∀ i, i < j → σ 14 i = (T i).2.2.2.1) {x : Int32} (hx : x = if b then nI r else -1) (hr : b = true → r < 10) (o : Option Nat) (ho : ∀ i, o = some i → i < j) : f_CA_thingReads x (oI o) σ = some (rdT T b r o, σ) := by
  unfold f_CA_thingReads
  cases o with
  | none => rw [if_pos (show oI none = -1 from rfl), c_setOf b hx hr]; rfl
  | some i =>
    have hi := ho i rfl
    rw [show oI (some i) = nI i from rfl, if_neg (p_nm1 (by omega)), p_ld (by omega) (by decide), Option.bind_some, h14 i hi]
    rfl
theorem c_tLoads {σ : SS} {T : Nat → En} {j : Nat} (hj : j ≤ 40) (h15 : ∀ i, i < j → σ 15 i = b2 (T i).2.2.2.2) (o : Option Nat) (ho : ∀ i, o = some i → i < j) : f_CA_thingLoads (oI o) σ = some (b2 (ldT T o), σ) := by
  unfold f_CA_thingLoads
  cases o with
  | none => rw [if_pos (show oI none = -1 from rfl)]; rfl
  | some i =>
    have hi := ho i rfl
    rw [show oI (some i) = nI i from rfl, if_neg (p_nm1 (by omega)), p_ld (by omega) (by decide), Option.bind_some, h15 i hi]
    show _ = some (b2 (T i).2.2.2.2, σ)
    cases (T i).2.2.2.2 <;> rfl
theorem c_note {σ : SS} {n j : Nat} {T : Nat → En} {fa fb : Option Nat} (hc : CC σ n) (hj : j < n) (hT : RC σ T j) (hb : ∀ i, (T i).2.2.1 ≤ 8) (h11 : σ 11 j = oI fa) (h12 : σ 12 j = oI fb) (ha : ∀ i, fa = some i → i < j) (hbb : ∀ i, fb = some i → i < j) : ∃ σ' : SS, f_CA_noteTree (nI j) σ = some σ' ∧ Fr [13, 14, 15] σ σ' ∧ σ' 13 j = nI (ndW σ T j fa fb) ∧ σ' 14 j = (rdT T (rA σ j) (aN σ j) fa ||| rdT T (rB σ j) (bN σ j) fb) ∧ σ' 15 j = b2 (oN σ j == 6 || ldT T fa || ldT T fb) ∧ ∀ i, i ≠ j → σ' 13 i = σ 13 i ∧ σ' 14 i = σ 14 i ∧ σ' 15 i = σ 15 i := by
  have hn4 := hc.1.1
  have hrt := hc.1.2 j hj
  unfold f_CA_noteTree
  rw [p_ld (by omega) (by decide), Option.bind_some, p_ld (by omega) (by decide), Option.bind_some, h11, h12, c_need hc hj hT hb fa fb ha hbb, Option.bind_some]
  dsimp only
  rw [p_sto (by omega) (by decide), Option.bind_some]
  obtain ⟨σ1, hσ1⟩ : ∃ σ1, σ1 = su σ 13 j (nI (ndW σ T j fa fb)) := ⟨_, rfl⟩
  rw [← hσ1]
  have f1 : Fr [13] σ σ1 := by rw [hσ1]; exact Fr.su (by simp)
  rw [g_ra (by omega), Option.bind_some]
  dsimp only
  rw [f1 5 (by simp), c_tReads (T := T) (j := j) (rA σ j) (by omega) (fun i hi => by rw [f1 14 (by simp)]; exact (hT i hi).2.2.2.1) (c_rowA hc hj) (fun h => (rA_lt hrt h).2) fa ha, Option.bind_some]
  dsimp only
  rw [g_rb (by omega), Option.bind_some]
  dsimp only
  rw [f1 6 (by simp), c_tReads (T := T) (j := j) (rB σ j) (by omega) (fun i hi => by rw [f1 14 (by simp)]; exact (hT i hi).2.2.2.1) (c_rowB hc hj) (fun h => (rB_lt hrt h).2) fb hbb, Option.bind_some]
  dsimp only
  rw [p_sto (by omega) (by decide), Option.bind_some]
  obtain ⟨σ2, hσ2⟩ : ∃ σ2, σ2 = su σ1 14 j (rdT T (rA σ j) (aN σ j) fa ||| rdT T (rB σ j) (bN σ j) fb) := ⟨_, rfl⟩
  rw [← hσ2]
  have f2 : Fr [13, 14] σ σ2 := by rw [hσ2]; exact (f1.mono (by simp)).tr (Fr.su (by simp))
  rw [g_op (by omega), Option.bind_some]
  dsimp only
  rw [f2 0 (by simp), hrt.1]
  have h15 : ∀ i, i < j → σ2 15 i = b2 (T i).2.2.2.2 := fun i hi => by rw [f2 15 (by simp)]; exact (hT i hi).2.2.2.2
  have fin : ∀ x : Bool, x = (oN σ j == 6 || ldT T fa || ldT T fb) → Fr [13, 14, 15] σ (su σ2 15 j (b2 x)) ∧ su σ2 15 j (b2 x) 13 j = nI (ndW σ T j fa fb) ∧ su σ2 15 j (b2 x) 14 j = (rdT T (rA σ j) (aN σ j) fa ||| rdT T (rB σ j) (bN σ j) fb) ∧ su σ2 15 j (b2 x) 15 j = b2 (oN σ j == 6 || ldT T fa || ldT T fb) ∧ ∀ i, i ≠ j → su σ2 15 j (b2 x) 13 i = σ 13 i ∧ su σ2 15 j (b2 x) 14 i = σ 14 i ∧ su σ2 15 j (b2 x) 15 i = σ 15 i := by
    intro x hx
    refine ⟨(f2.mono (by simp)).tr (Fr.su (by simp)), ?_, ?_, ?_, fun i hi => ⟨?_, ?_, ?_⟩⟩
    · rw [p_suk (by omega), hσ2, p_suk (by omega), hσ1, p_sus]
    · rw [p_suk (by omega), hσ2, p_sus]
    · rw [p_sus, hx]
    · rw [p_suk (by omega), hσ2, p_suk (by omega), hσ1, p_sun hi]
    · rw [p_suk (by omega), hσ2, p_sun hi, hσ1, p_suk (by omega)]
    · rw [p_sun hi, hσ2, p_suk (by omega), hσ1, p_suk (by omega)]
  have h11' := hrt.2.1
  by_cases o6 : oN σ j = 6
  · rw [if_pos (show nI (oN σ j) = 6 by rw [o6]; rfl), p_nz1, p_sto (by omega) (by decide), Option.bind_some]
    exact ⟨_, rfl, fin true (by rw [o6]; rfl)⟩
  · rw [if_neg (show ¬ nI (oN σ j) = 6 from nI_neq (b := 6) (by omega) (by omega) o6), c_tLoads (T := T) (j := j) (by omega) h15 fa ha, Option.bind_some]
    simp only [b2_z]
    cases hla : ldT T fa with
    | true =>
      rw [if_neg (by simp), p_nz1, p_sto (by omega) (by decide), Option.bind_some]
      exact ⟨_, rfl, by have := fin true (by rw [hla]; simp); rw [hla] at this; exact this⟩
    | false =>
      rw [if_pos rfl, c_tLoads (T := T) (j := j) (by omega) h15 fb hbb, Option.bind_some]
      simp only [b2_z]
      cases hlb : ldT T fb with
      | true =>
        rw [if_neg (by simp), p_nz1, p_sto (by omega) (by decide), Option.bind_some]
        exact ⟨_, rfl, by have := fin true (by rw [hlb]; simp); rw [hla, hlb] at this; exact this⟩
      | false =>
        rw [if_pos rfl, p_nz0, p_sto (by omega) (by decide), Option.bind_some]
        exact ⟨_, rfl, by have := fin false (by rw [hla, hlb, bnq o6]; rfl); rw [hla, hlb] at this; exact this⟩
/-- the class's stage j -/
def SgC (κ σ : SS) (n : Nat) (A : Nat → Int32) (D j : Nat) : Prop := KC σ n A ∧ σ 26 0 = nI D ∧ RC σ (tT κ (Bf κ n) A D j) j ∧ (∀ i, i < n → σ 10 i = oI (gl (tT κ (Bf κ n) A D j) j i)) ∧ ∀ i, j ≤ i → i < n → σ 11 i = -1 ∧ σ 12 i = -1
theorem c_stage {κ σ : SS} {n j D : Nat} {A : Nat → Int32} (he : Eqc σ κ) (hj : j < n) (hD : D ≤ 8) (hs : SgC κ σ n A D j) : ∃ σ1 σ2 : SS, f_CA_carryInto (nI j) σ = some σ1 ∧ f_CA_noteTree (nI j) σ1 = some σ2 ∧ Fr [10, 11, 12, 13, 14, 15] σ σ2 ∧ SgC κ σ2 n A D (j + 1) := by
  obtain ⟨hK, h26, hR, hg, hr⟩ := hs
  have hnb : ∀ i, (tT κ (Bf κ n) A D j i).2.2.1 ≤ 8 := nb hD j
  obtain ⟨σ1, e1, e2, e3, e4, e5, e6⟩ := c_into hK hj hR hnb hD h26 (hr j (Nat.le_refl _) hj).1 (hr j (Nat.le_refl _) hj).2
  have he1 : Eqc σ1 σ := e2.eqc (fun k hk => by simp; omega)
  have hK1 : KC σ1 n A := hK.fr e2 (fun k hk => by simp; omega)
  have hR1 : RC σ1 (tT κ (Bf κ n) A D j) j := fun i hi => by
    obtain ⟨a1, a2, a3, a4, a5⟩ := hR i hi
    rw [(e5 i (by omega)).1, (e5 i (by omega)).2, e2 13 (by simp), e2 14 (by simp), e2 15 (by simp)]
    exact ⟨a1, a2, a3, a4, a5⟩
  obtain ⟨σ2, g1, g2, g3, g4, g5, g6⟩ := c_note hK1.1 hj hR1 hnb e3 e4 (fun i hi => crr_lt (fa_s hi).2.1) (fun i hi => crr_lt (fb_s hi).2.1)
  have hf : Fr [10, 11, 12, 13, 14, 15] σ σ2 := (e2.mono (by simp)).tr (g2.mono (by simp))
  refine ⟨σ1, σ2, e1, g1, hf, hK.fr hf (fun k hk => by simp; omega), by rw [hf 26 (by simp)]; exact h26, fun i hi => ?_, fun i hi => ?_, fun i h1 h2 => ?_⟩
  · by_cases e : i = j
    · subst e
      rw [tT_eq]
      rw [he1.ndq, he1.rAq, he1.rBq, he1.a, he1.b, he1.o] at *
      rw [he.faq, he.fbq, he.bfq] at *
      rw [he.ndq, he.rAq, he.rBq, he.a, he.b] at *
      rw [he.o] at g5
      rw [g2 11 (by simp), g2 12 (by simp)]
      exact ⟨e3, e4, g3, g4, g5⟩
    · rw [tT_ne e]
      obtain ⟨a1, a2, a3, a4, a5⟩ := hR1 i (by omega)
      rw [g2 11 (by simp), g2 12 (by simp), (g6 i e).1, (g6 i e).2.1, (g6 i e).2.2]
      exact ⟨a1, a2, a3, a4, a5⟩
  · rw [g2 10 (by simp), e6 i]
    show _ = oI (if (tT κ (Bf κ n) A D (j + 1) j).1 = some i ∨ (tT κ (Bf κ n) A D (j + 1) j).2.1 = some i then some j else gl (tT κ (Bf κ n) A D (j + 1)) j i)
    rw [tT_eq]
    show _ = oI (if tFa κ (Bf κ n) A D (tT κ (Bf κ n) A D j) j = some i ∨ tFb κ (Bf κ n) A D (tT κ (Bf κ n) A D j) j = some i then some j else gl (tT κ (Bf κ n) A D (j + 1)) j i)
    rw [he.faq, he.fbq, he.bfq, hg i hi, gl_c j (fun k hk => tT_ne (by omega))]
    by_cases h : tFa κ (Bf κ n) A D (tT κ (Bf κ n) A D j) j = some i ∨ tFb κ (Bf κ n) A D (tT κ (Bf κ n) A D j) j = some i
    · rw [if_pos h, if_pos h]; rfl
    · rw [if_neg h, if_neg h]
  · rw [g2 11 (by simp), g2 12 (by simp), (e5 i (by omega)).1, (e5 i (by omega)).2]
    exact hr i (by omega) h2
theorem c_settle42 {κ : SS} {n D : Nat} {A : Nat → Int32} (hD : D ≤ 8) : ∀ (m j : Nat) (σ : SS), Eqc σ κ → j ≤ n → n - j < m → SgC κ σ n A D j → ∃ σ' : SS, b_CA_settle_42 m (nI j) σ = some σ' ∧ Fr [10, 11, 12, 13, 14, 15] σ σ' ∧ SgC κ σ' n A D n := by
  intro m
  induction m with
  | zero => intro j σ _ _ h; omega
  | succ m ih =>
    intro j σ he hj hm hs
    have hn4 := hs.1.1.1.1
    rw [b_CA_settle_42, g_count, Option.bind_some]
    dsimp only
    rw [hs.1.1.2.1]
    by_cases hjn : j < n
    · obtain ⟨σ1, σ2, e1, e2, e3, e4⟩ := c_stage he hjn hD hs
      rw [if_neg (nI_ge hjn (by omega)), e1, Option.bind_some, e2, Option.bind_some, nI_1]
      obtain ⟨σ', g1, g2, g3⟩ := ih (j + 1) σ2 (fun k hk => (e3.eqc (fun k hk => by simp; omega) k hk).trans (he k hk)) (by omega) (by omega) e4
      exact ⟨σ', g1, e3.tr g2, g3⟩
    · rw [if_pos (nI_le (by omega) (by omega))]
      have : j = n := by omega
      subst this
      exact ⟨σ, rfl, Fr.rf, hs⟩
theorem c_settle2 {κ : SS} {n D : Nat} {A : Nat → Int32} (hD : D ≤ 8) : ∀ (m i : Nat) (σ : SS), Eqc σ κ → KC σ n A → σ 26 0 = nI D → i ≤ n → n - i < m → (∀ k, k < i → σ 10 k = -1 ∧ σ 11 k = -1 ∧ σ 12 k = -1) → ∃ σ' : SS, b_CA_settle_2 m (nI i) σ = some σ' ∧ Fr [10, 11, 12, 13, 14, 15] σ σ' ∧ SgC κ σ' n A D n := by
  intro m
  induction m with
  | zero => intro i σ _ _ _ _ h; omega
  | succ m ih =>
    intro i σ he hK h26 hi hm h0
    have hn4 := hK.1.1.1
    rw [b_CA_settle_2]
    rw [g_count, Option.bind_some]
    by_cases hin : i < n
    · rw [show (σ 25 0, σ).1 = nI n from hK.1.2.1, if_neg (nI_ge hin (by omega))]
      dsimp only
      rw [p_sto (by omega) (by decide), Option.bind_some, p_sto (by omega) (by decide), Option.bind_some, p_sto (by omega) (by decide), Option.bind_some, nI_1]
      have hf : Fr [10, 11, 12, 13, 14, 15] σ (su (su (su σ 10 i (-1)) 11 i (-1)) 12 i (-1)) := Fr.tr (Fr.tr (Fr.su (by simp)) (Fr.su (by simp))) (Fr.su (by simp))
      obtain ⟨σ', g1, g2, g3⟩ := ih (i + 1) _ (fun k hk => (hf.eqc (fun k hk => by simp; omega) k hk).trans (he k hk)) (hK.fr hf (fun k hk => by simp; omega)) (by rw [hf 26 (by simp)]; exact h26) (by omega) (by omega) (fun k hk => by
        rw [p_suk (show (10 : Nat) ≠ 12 by omega), p_suk (show (10 : Nat) ≠ 11 by omega), p_suk (show (11 : Nat) ≠ 12 by omega)]
        by_cases e : k = i
        · subst e; rw [p_sus, p_sus, p_sus]; exact ⟨rfl, rfl, rfl⟩
        · rw [p_sun e, p_sun e, p_sun e, p_suk (show (11 : Nat) ≠ 10 by omega), p_suk (show (12 : Nat) ≠ 11 by omega), p_suk (show (12 : Nat) ≠ 10 by omega)]
          exact h0 k (by omega))
      exact ⟨σ', g1, hf.tr g2, g3⟩
    · rw [show (σ 25 0, σ).1 = nI n from hK.1.2.1, if_pos (nI_le (by omega) (by omega))]
      refine c_settle42 hD FU 0 σ he (by omega) (by unfold FU; omega) ⟨hK, h26, fun i hi => by omega, fun i hi => ?_, fun i _ hi => (h0 i (by omega)).2⟩
      rw [(h0 i (by omega)).1]; rfl
/-- class: settle -/
theorem c_settle {σ : SS} {n D : Nat} {A : Nat → Int32} (hD : D ≤ 8) (hK : KC σ n A) (h26 : σ 26 0 = nI D) : ∃ σ' : SS, f_CA_settle σ = some σ' ∧ Fr [10, 11, 12, 13, 14, 15] σ σ' ∧ SgC σ σ' n A D n := by
  have hn4 := hK.1.1.1
  unfold f_CA_settle
  exact c_settle2 hD FU 0 σ (fun _ _ => rfl) hK h26 (by omega) (by unfold FU; omega) (fun k hk => by omega)
