-- ===== both run register code =====
/-- the machines hold the same -/
def MS (σ τ : SS) (P : Nat) : Prop := (∀ i, i < 10 → τ 18 i = σ 20 i) ∧ (∀ i, i < 16 → τ 17 i = σ 21 i) ∧ (∀ i, i < 40 → τ 16 i = σ 22 i) ∧ σ 30 0 = nI P ∧ τ 24 0 = nI P
theorem MS.fr {σ σ' τ τ' : SS} {P : Nat} {S S' : List Nat} (h : MS σ τ P) (h1 : Fr S σ σ') (h2 : Fr S' τ τ') (hS : ∀ k, k = 20 ∨ k = 21 ∨ k = 22 ∨ k = 30 → k ∉ S) (hS' : ∀ k, k = 16 ∨ k = 17 ∨ k = 18 ∨ k = 24 → k ∉ S') : MS σ' τ' P := by
  unfold MS
  rw [h1 20 (hS 20 (by omega)), h1 21 (hS 21 (by omega)), h1 22 (hS 22 (by omega)), h1 30 (hS 30 (by omega)), h2 16 (hS' 16 (by omega)), h2 17 (hS' 17 (by omega)), h2 18 (hS' 18 (by omega)), h2 24 (hS' 24 (by omega))]
  exact h
theorem MS_reg {σ τ : SS} {P d : Nat} {v : Int32} (h : MS σ τ P) : MS (su σ 20 d v) (su τ 18 d v) P := by
  obtain ⟨h1, h2, h3, h4, h5⟩ := h
  refine ⟨fun i hi => ?_, fun i hi => by rw [p_suk (by omega), p_suk (by omega)]; exact h2 i hi, fun i hi => by rw [p_suk (by omega), p_suk (by omega)]; exact h3 i hi, by rw [p_suk (by omega)]; exact h4, by rw [p_suk (by omega)]; exact h5⟩
  by_cases e : i = d
  · rw [e, p_sus, p_sus]
  · rw [p_sun e, p_sun e]; exact h1 i hi
theorem MS_cell {σ τ : SS} {P c : Nat} {v : Int32} (h : MS σ τ P) : MS (su σ 21 c v) (su τ 17 c v) P := by
  obtain ⟨h1, h2, h3, h4, h5⟩ := h
  refine ⟨fun i hi => by rw [p_suk (by omega), p_suk (by omega)]; exact h1 i hi, fun i hi => ?_, fun i hi => by rw [p_suk (by omega), p_suk (by omega)]; exact h3 i hi, by rw [p_suk (by omega)]; exact h4, by rw [p_suk (by omega)]; exact h5⟩
  by_cases e : i = c
  · rw [e, p_sus, p_sus]
  · rw [p_sun e, p_sun e]; exact h2 i hi
theorem p_print {σ τ : SS} {P : Nat} {v : Int32} (h : MS σ τ P) (hP : P < 2 ^ 30) : ∃ σ' τ' : SS, f_MA_print v σ = some σ' ∧ f_MO_print v τ = some τ' ∧ Fr [22, 30] σ σ' ∧ Fr [16, 24] τ τ' ∧ MS σ' τ' (P + 1) := by
  obtain ⟨h1, h2, h3, h4, h5⟩ := h
  unfold f_MA_print f_MO_print
  rw [h4, h5]
  by_cases hp : 40 ≤ P
  · rw [if_pos (show (40 : Int32) ≤ nI P from nI_le (a := 40) hp (by omega)), if_pos (show (40 : Int32) ≤ nI P from nI_le (a := 40) hp (by omega)), p_sf, Option.bind_some, p_sf, Option.bind_some, nI_1]
    refine ⟨_, _, rfl, rfl, Fr.su (by simp), Fr.su (by simp), fun i hi => by rw [p_suk (by omega), p_suk (by omega)]; exact h1 i hi, fun i hi => by rw [p_suk (by omega), p_suk (by omega)]; exact h2 i hi, fun i hi => by rw [p_suk (by omega), p_suk (by omega)]; exact h3 i hi, p_sus _ _ _ _, p_sus _ _ _ _⟩
  · rw [if_neg (show ¬ (40 : Int32) ≤ nI P from nI_ge (b := 40) (by omega) (by omega)), if_neg (show ¬ (40 : Int32) ≤ nI P from nI_ge (b := 40) (by omega) (by omega)), p_sto (by omega) (by decide), Option.bind_some, p_sto (by omega) (by decide), Option.bind_some, p_sf, Option.bind_some, p_sf, Option.bind_some, p_suk (show (30 : Nat) ≠ 22 by omega), p_suk (show (24 : Nat) ≠ 16 by omega), h4, h5, nI_1]
    refine ⟨_, _, rfl, rfl, (Fr.su (by simp)).tr (Fr.su (by simp)), (Fr.su (by simp)).tr (Fr.su (by simp)), fun i hi => by rw [p_suk (by omega), p_suk (by omega), p_suk (by omega), p_suk (by omega)]; exact h1 i hi, fun i hi => by rw [p_suk (by omega), p_suk (by omega), p_suk (by omega), p_suk (by omega)]; exact h2 i hi, fun i hi => ?_, p_sus _ _ _ _, p_sus _ _ _ _⟩
    rw [p_suk (show (16 : Nat) ≠ 24 by omega), p_suk (show (22 : Nat) ≠ 30 by omega)]
    by_cases e : i = P
    · rw [e, p_sus, p_sus]
    · rw [p_sun e, p_sun e]; exact h3 i hi
theorem and15 (x : Int32) : ∃ c, c < 16 ∧ x &&& 15 = nI c := by
  refine ⟨(x.toBitVec &&& 15#32).toNat, ?_, ?_⟩
  · rw [BitVec.toNat_and]
    exact Nat.and_lt_two_pow _ (show (15#32).toNat < 2 ^ 4 by decide)
  · apply Int32.toBitVec_inj.mp
    rw [Int32.toBitVec_and]
    show _ = (Int32.ofNat _).toBitVec
    rw [Int32.toBitVec_ofNat', BitVec.ofNat_toNat, BitVec.setWidth_eq]
    rfl
/-- one instruction -/
theorem r_step {σ τ : SS} {n P i : Nat} (hc : CC σ n) (hm : CM τ n) (he : Eqc τ σ) (hi : i < n) (hs : MS σ τ P) (hP : P < 2 ^ 30) : ∃ (σ' τ' : SS) (x y : Int32) (P' : Nat), f_MA_followInstruction (nI i) σ = some (x, σ') ∧ f_MO_instruct (nI i) τ = some (y, τ') ∧ Fr [20, 21, 22, 30] σ σ' ∧ Fr [16, 17, 18, 24] τ τ' ∧ MS σ' τ' P' ∧ P' ≤ P + 1 ∧ ((∃ t, t ≤ 40 ∧ x = nI t ∧ y = nI t) ∨ (x = -1 ∧ y = 100)) := by
  have hn4 := hc.1.1
  obtain ⟨r1, r2, r3, r4, r5, r6, r7, r8⟩ := hc.1.2 i hi
  have hrtm := hm.1.2 i hi
  have t0 : τ 0 i = σ 0 i := by rw [he 0 (by omega)]
  have t1 : τ 1 i = nI (dN σ i) := by rw [he 1 (by omega)]; exact r3
  have t2 : τ 2 i = σ 2 i := by rw [he 2 (by omega)]
  have t3 : τ 3 i = nI (bN σ i) := by rw [he 3 (by omega)]; exact r6
  have hA : rA τ i = rA σ i := by rw [he.rAq]
  have hB : rB τ i = rB σ i := by rw [he.rBq]
  have hW : wR τ i = wR σ i := by rw [he.wRq]
  have reg := hs.1
  have mem := hs.2.1
  have C0 : ∀ q, (f_MA_followInstruction (nI i) σ = q) ↔ ((if σ 0 i = (7 : Int32) then (ld (σ 20) 10 (σ 2 i)).bind fun v12 => (f_MA_cellIndex v12 σ).bind fun q14 => (ld (q14.2 20) 10 (σ 3 i)).bind fun v16 => (sto q14.2 21 16 q14.1 v16).bind fun σ18 => some ((nI i + (1 : Int32)), σ18) else (if σ 0 i = (8 : Int32) then (ld (σ 20) 10 (σ 2 i)).bind fun v20 => (f_MA_print v20 σ).bind fun σ22 => some ((nI i + (1 : Int32)), σ22) else (if σ 0 i = (9 : Int32) then some (σ 2 i, σ) else (if σ 0 i = (10 : Int32) then (ld (σ 20) 10 (σ 2 i)).bind fun v24 => (if v24 = 0 then some (σ 3 i, σ) else some ((nI i + (1 : Int32)), σ)) else (if σ 0 i = (11 : Int32) then some ((-1 : Int32), σ) else (f_MA_valueOf (σ 0 i) (σ 2 i) (σ 3 i) σ).bind fun q31 => (sto q31.2 20 10 (σ 1 i) q31.1).bind fun σ33 => some ((nI i + (1 : Int32)), σ33)))))) = q) := by
    intro q
    unfold f_MA_followInstruction
    rw [g_a (by omega), Option.bind_some, g_b (by omega), Option.bind_some, g_op (by omega), Option.bind_some, g_d (by omega), Option.bind_some, g_op (by omega), Option.bind_some]
  have M0 : ∀ X Y : Int32, (rA σ i = true → τ 18 (aN σ i) = X) → (rA σ i = false → X = 0) → (rB σ i = true → τ 18 (bN σ i) = Y) → (rB σ i = false → Y = 0) → f_MO_instruct (nI i) τ = b_MO_instruct_54 (nI i) (nI (oN σ i)) X Y τ := by
    intro X Y x1 x2 y1 y2
    have m30 : ∀ Z, b_MO_instruct_30 (nI i) (nI (oN σ i)) Z τ = b_MO_instruct_54 (nI i) (nI (oN σ i)) Z Y τ := by
      intro Z
      unfold b_MO_instruct_30
      rw [m_rB (by omega) hrtm, Option.bind_some]
      simp only [b2_z]
      rw [hB]
      cases hb : rB σ i with
      | false => rw [if_pos rfl, y2 hb]
      | true =>
        have := (rB_lt (hc.1.2 i hi) hb).2
        rw [if_neg (by simp), p_ld (by omega) (by decide), Option.bind_some, t3, p_ld this (by decide), Option.bind_some, y1 hb]
    unfold f_MO_instruct
    rw [p_ld (by omega) (by decide), Option.bind_some, m_rA (by omega) hrtm, Option.bind_some, t0, r1]
    simp only [b2_z]
    rw [hA]
    cases ha : rA σ i with
    | false => rw [if_pos rfl, m30, x2 ha]
    | true =>
      obtain ⟨z1, z2⟩ := rA_lt (hc.1.2 i hi) ha
      rw [if_neg (by simp), p_ld (by omega) (by decide), Option.bind_some, t2, z1, p_ld z2 (by decide), Option.bind_some, m30, x1 ha]
  have M129 : ∀ (X Y : Int32) (τ1 : SS), Fr [16, 17, 24] τ τ1 → wR σ i = false → b_MO_instruct_129 (nI i) (nI (oN σ i)) X Y τ1 = some (nI (i + 1), τ1) := by
    intro X Y τ1 hf hw
    have e1 : Eqc τ1 τ := hf.eqc (fun k hk => by simp; omega)
    unfold b_MO_instruct_129
    rw [m_isW (by omega) (e1.rt hrtm), Option.bind_some]
    simp only [b2_z]
    rw [e1.wRq, hW, hw, if_pos rfl, nI_1]
  have W129 : ∀ (X Y : Int32), wR σ i = true → b_MO_instruct_129 (nI i) (nI (oN σ i)) X Y τ = (if nI (oN σ i) = 0 then b_MO_instruct_194 (nI i) (nI (dN σ i)) (σ 2 i) τ else (if nI (oN σ i) = (1 : Int32) then b_MO_instruct_194 (nI i) (nI (dN σ i)) X τ else (if nI (oN σ i) = (6 : Int32) then (ld (τ 17) 16 (X &&& (15 : Int32))).bind fun v11 => b_MO_instruct_194 (nI i) (nI (dN σ i)) v11 τ else (f_MO_combine (nI (oN σ i)) X Y τ).bind fun q9 => b_MO_instruct_194 (nI i) (nI (dN σ i)) q9.1 q9.2))) := by
    intro X Y hw
    unfold b_MO_instruct_129
    rw [m_isW (by omega) hrtm, Option.bind_some]
    simp only [b2_z]
    rw [hW, hw, if_neg (by simp), p_ld (by omega) (by decide), Option.bind_some, p_ld (by omega) (by decide), Option.bind_some, t1, t2]
  have m194 : ∀ v : Int32, b_MO_instruct_194 (nI i) (nI (dN σ i)) v τ = some (nI (i + 1), su τ 18 (dN σ i) v) := by
    intro v
    unfold b_MO_instruct_194
    rw [p_sto r4 (by decide), Option.bind_some, nI_1]
  have fin : ∀ v : Int32, f_MA_followInstruction (nI i) σ = some (nI (i + 1), su σ 20 (dN σ i) v) → f_MO_instruct (nI i) τ = some (nI (i + 1), su τ 18 (dN σ i) v) → ∃ (σ' τ' : SS) (x y : Int32) (P' : Nat), f_MA_followInstruction (nI i) σ = some (x, σ') ∧ f_MO_instruct (nI i) τ = some (y, τ') ∧ Fr [20, 21, 22, 30] σ σ' ∧ Fr [16, 17, 18, 24] τ τ' ∧ MS σ' τ' P' ∧ P' ≤ P + 1 ∧ ((∃ t, t ≤ 40 ∧ x = nI t ∧ y = nI t) ∨ (x = -1 ∧ y = 100)) := fun v h1 h2 => ⟨_, _, _, _, P, h1, h2, Fr.su (by simp), Fr.su (by simp), MS_reg hs, by omega, Or.inl ⟨i + 1, by omega, rfl, rfl⟩⟩
  have ga : rA σ i = true → σ 2 i = nI (aN σ i) ∧ aN σ i < 10 := rA_lt (hc.1.2 i hi)
  have gb : rB σ i = true → σ 3 i = nI (bN σ i) ∧ bN σ i < 10 := rB_lt (hc.1.2 i hi)
  rcases (show oN σ i = 0 ∨ oN σ i = 1 ∨ oN σ i = 2 ∨ oN σ i = 3 ∨ oN σ i = 4 ∨ oN σ i = 5 ∨ oN σ i = 6 ∨ oN σ i = 7 ∨ oN σ i = 8 ∨ oN σ i = 9 ∨ oN σ i = 10 ∨ oN σ i = 11 by omega) with ho | ho | ho | ho | ho | ho | ho | ho | ho | ho | ho | ho
  · have hra : rA σ i = false := by unfold rA; rw [ho]; rfl
    have hrb : rB σ i = false := by unfold rB; rw [ho]; rfl
    have hwr : wR σ i = true := by unfold wR; rw [ho]; rfl
    have m0 := M0 0 0 (fun h => by rw [hra] at h; cases h) (fun _ => rfl) (fun h => by rw [hrb] at h; cases h) (fun _ => rfl)
    rw [ho] at r1 m0 M129 W129
    unfold b_MO_instruct_54 at m0
    rw [if_neg (show ¬ nI 0 = 11 by decide), if_neg (show ¬ nI 0 = 9 by decide), if_neg (show ¬ nI 0 = 10 by decide), if_neg (show ¬ nI 0 = 8 by decide), if_neg (show ¬ nI 0 = 7 by decide)] at m0
    refine fin (σ 2 i) ((C0 _).mpr ?_) ?_
    · rw [r1, if_neg (show ¬ nI 0 = 7 by decide), if_neg (show ¬ nI 0 = 8 by decide), if_neg (show ¬ nI 0 = 9 by decide), if_neg (show ¬ nI 0 = 10 by decide), if_neg (show ¬ nI 0 = 11 by decide)]
      unfold f_MA_valueOf
      rw [if_pos (show nI 0 = 0 by decide)]
      rw [Option.bind_some, r3, p_sto r4 (by decide), Option.bind_some, nI_1]
    · rw [m0, W129 _ _ hwr, if_pos (show nI 0 = 0 by decide)]
      exact m194 _
  · have hra : rA σ i = true := by unfold rA; rw [ho]; rfl
    have hrb : rB σ i = false := by unfold rB; rw [ho]; rfl
    have hwr : wR σ i = true := by unfold wR; rw [ho]; rfl
    obtain ⟨a1, a2⟩ := ga hra
    have m0 := M0 (σ 20 (aN σ i)) 0 (fun _ => reg _ a2) (fun h => by rw [hra] at h; cases h) (fun h => by rw [hrb] at h; cases h) (fun _ => rfl)
    rw [ho] at r1 m0 M129 W129
    unfold b_MO_instruct_54 at m0
    rw [if_neg (show ¬ nI 1 = 11 by decide), if_neg (show ¬ nI 1 = 9 by decide), if_neg (show ¬ nI 1 = 10 by decide), if_neg (show ¬ nI 1 = 8 by decide), if_neg (show ¬ nI 1 = 7 by decide)] at m0
    refine fin (σ 20 (aN σ i)) ((C0 _).mpr ?_) ?_
    · rw [r1, if_neg (show ¬ nI 1 = 7 by decide), if_neg (show ¬ nI 1 = 8 by decide), if_neg (show ¬ nI 1 = 9 by decide), if_neg (show ¬ nI 1 = 10 by decide), if_neg (show ¬ nI 1 = 11 by decide)]
      unfold f_MA_valueOf
      rw [if_neg (show ¬ nI 1 = 0 by decide), if_pos (show nI 1 = 1 by decide), a1, p_ld a2 (by decide), Option.bind_some]
      rw [Option.bind_some, r3, p_sto r4 (by decide), Option.bind_some, nI_1]
    · rw [m0, W129 _ _ hwr, if_neg (show ¬ nI 1 = 0 by decide), if_pos (show nI 1 = 1 by decide)]
      exact m194 _
  · have hra : rA σ i = true := by unfold rA; rw [ho]; rfl
    have hrb : rB σ i = true := by unfold rB; rw [ho]; rfl
    have hwr : wR σ i = true := by unfold wR; rw [ho]; rfl
    obtain ⟨a1, a2⟩ := ga hra
    obtain ⟨b1, b2'⟩ := gb hrb
    have m0 := M0 (σ 20 (aN σ i)) (σ 20 (bN σ i)) (fun _ => reg _ a2) (fun h => by rw [hra] at h; cases h) (fun _ => reg _ b2') (fun h => by rw [hrb] at h; cases h)
    rw [ho] at r1 m0 M129 W129
    unfold b_MO_instruct_54 at m0
    rw [if_neg (show ¬ nI 2 = 11 by decide), if_neg (show ¬ nI 2 = 9 by decide), if_neg (show ¬ nI 2 = 10 by decide), if_neg (show ¬ nI 2 = 8 by decide), if_neg (show ¬ nI 2 = 7 by decide)] at m0
    refine fin (σ 20 (aN σ i) + σ 20 (bN σ i)) ((C0 _).mpr ?_) ?_
    · rw [r1, if_neg (show ¬ nI 2 = 7 by decide), if_neg (show ¬ nI 2 = 8 by decide), if_neg (show ¬ nI 2 = 9 by decide), if_neg (show ¬ nI 2 = 10 by decide), if_neg (show ¬ nI 2 = 11 by decide)]
      unfold f_MA_valueOf
      rw [if_neg (show ¬ nI 2 = 0 by decide), if_neg (show ¬ nI 2 = 1 by decide), if_pos (show nI 2 = 2 by decide), a1, b1, p_ld a2 (by decide), Option.bind_some, p_ld b2' (by decide), Option.bind_some]
      rw [Option.bind_some, r3, p_sto r4 (by decide), Option.bind_some, nI_1]
    · rw [m0, W129 _ _ hwr, if_neg (show ¬ nI 2 = 0 by decide), if_neg (show ¬ nI 2 = 1 by decide), if_neg (show ¬ nI 2 = 6 by decide)]
      unfold f_MO_combine
      rw [if_pos (show nI 2 = 2 by decide)]
      rw [Option.bind_some]
      exact m194 _
  · have hra : rA σ i = true := by unfold rA; rw [ho]; rfl
    have hrb : rB σ i = true := by unfold rB; rw [ho]; rfl
    have hwr : wR σ i = true := by unfold wR; rw [ho]; rfl
    obtain ⟨a1, a2⟩ := ga hra
    obtain ⟨b1, b2'⟩ := gb hrb
    have m0 := M0 (σ 20 (aN σ i)) (σ 20 (bN σ i)) (fun _ => reg _ a2) (fun h => by rw [hra] at h; cases h) (fun _ => reg _ b2') (fun h => by rw [hrb] at h; cases h)
    rw [ho] at r1 m0 M129 W129
    unfold b_MO_instruct_54 at m0
    rw [if_neg (show ¬ nI 3 = 11 by decide), if_neg (show ¬ nI 3 = 9 by decide), if_neg (show ¬ nI 3 = 10 by decide), if_neg (show ¬ nI 3 = 8 by decide), if_neg (show ¬ nI 3 = 7 by decide)] at m0
    refine fin (σ 20 (aN σ i) - σ 20 (bN σ i)) ((C0 _).mpr ?_) ?_
    · rw [r1, if_neg (show ¬ nI 3 = 7 by decide), if_neg (show ¬ nI 3 = 8 by decide), if_neg (show ¬ nI 3 = 9 by decide), if_neg (show ¬ nI 3 = 10 by decide), if_neg (show ¬ nI 3 = 11 by decide)]
      unfold f_MA_valueOf
      rw [if_neg (show ¬ nI 3 = 0 by decide), if_neg (show ¬ nI 3 = 1 by decide), if_neg (show ¬ nI 3 = 2 by decide), if_pos (show nI 3 = 3 by decide), a1, b1, p_ld a2 (by decide), Option.bind_some, p_ld b2' (by decide), Option.bind_some]
      rw [Option.bind_some, r3, p_sto r4 (by decide), Option.bind_some, nI_1]
    · rw [m0, W129 _ _ hwr, if_neg (show ¬ nI 3 = 0 by decide), if_neg (show ¬ nI 3 = 1 by decide), if_neg (show ¬ nI 3 = 6 by decide)]
      unfold f_MO_combine
      rw [if_neg (show ¬ nI 3 = 2 by decide), if_pos (show nI 3 = 3 by decide)]
      rw [Option.bind_some]
      exact m194 _
  · have hra : rA σ i = true := by unfold rA; rw [ho]; rfl
    have hrb : rB σ i = true := by unfold rB; rw [ho]; rfl
    have hwr : wR σ i = true := by unfold wR; rw [ho]; rfl
    obtain ⟨a1, a2⟩ := ga hra
    obtain ⟨b1, b2'⟩ := gb hrb
    have m0 := M0 (σ 20 (aN σ i)) (σ 20 (bN σ i)) (fun _ => reg _ a2) (fun h => by rw [hra] at h; cases h) (fun _ => reg _ b2') (fun h => by rw [hrb] at h; cases h)
    rw [ho] at r1 m0 M129 W129
    unfold b_MO_instruct_54 at m0
    rw [if_neg (show ¬ nI 4 = 11 by decide), if_neg (show ¬ nI 4 = 9 by decide), if_neg (show ¬ nI 4 = 10 by decide), if_neg (show ¬ nI 4 = 8 by decide), if_neg (show ¬ nI 4 = 7 by decide)] at m0
    refine fin (σ 20 (aN σ i) * σ 20 (bN σ i)) ((C0 _).mpr ?_) ?_
    · rw [r1, if_neg (show ¬ nI 4 = 7 by decide), if_neg (show ¬ nI 4 = 8 by decide), if_neg (show ¬ nI 4 = 9 by decide), if_neg (show ¬ nI 4 = 10 by decide), if_neg (show ¬ nI 4 = 11 by decide)]
      unfold f_MA_valueOf
      rw [if_neg (show ¬ nI 4 = 0 by decide), if_neg (show ¬ nI 4 = 1 by decide), if_neg (show ¬ nI 4 = 2 by decide), if_neg (show ¬ nI 4 = 3 by decide), if_pos (show nI 4 = 4 by decide), a1, b1, p_ld a2 (by decide), Option.bind_some, p_ld b2' (by decide), Option.bind_some]
      rw [Option.bind_some, r3, p_sto r4 (by decide), Option.bind_some, nI_1]
    · rw [m0, W129 _ _ hwr, if_neg (show ¬ nI 4 = 0 by decide), if_neg (show ¬ nI 4 = 1 by decide), if_neg (show ¬ nI 4 = 6 by decide)]
      unfold f_MO_combine
      rw [if_neg (show ¬ nI 4 = 2 by decide), if_neg (show ¬ nI 4 = 3 by decide), if_pos (show nI 4 = 4 by decide)]
      rw [Option.bind_some]
      exact m194 _
  · have hra : rA σ i = true := by unfold rA; rw [ho]; rfl
    have hrb : rB σ i = true := by unfold rB; rw [ho]; rfl
    have hwr : wR σ i = true := by unfold wR; rw [ho]; rfl
    obtain ⟨a1, a2⟩ := ga hra
    obtain ⟨b1, b2'⟩ := gb hrb
    have m0 := M0 (σ 20 (aN σ i)) (σ 20 (bN σ i)) (fun _ => reg _ a2) (fun h => by rw [hra] at h; cases h) (fun _ => reg _ b2') (fun h => by rw [hrb] at h; cases h)
    rw [ho] at r1 m0 M129 W129
    unfold b_MO_instruct_54 at m0
    rw [if_neg (show ¬ nI 5 = 11 by decide), if_neg (show ¬ nI 5 = 9 by decide), if_neg (show ¬ nI 5 = 10 by decide), if_neg (show ¬ nI 5 = 8 by decide), if_neg (show ¬ nI 5 = 7 by decide)] at m0
    obtain ⟨v, hv⟩ : ∃ v : Int32, v = (if σ 20 (bN σ i) ≤ σ 20 (aN σ i) then 0 else 1) := ⟨_, rfl⟩
    refine fin v ((C0 _).mpr ?_) ?_
    · rw [r1, if_neg (show ¬ nI 5 = 7 by decide), if_neg (show ¬ nI 5 = 8 by decide), if_neg (show ¬ nI 5 = 9 by decide), if_neg (show ¬ nI 5 = 10 by decide), if_neg (show ¬ nI 5 = 11 by decide)]
      unfold f_MA_valueOf
      rw [if_neg (show ¬ nI 5 = 0 by decide), if_neg (show ¬ nI 5 = 1 by decide), if_neg (show ¬ nI 5 = 2 by decide), if_neg (show ¬ nI 5 = 3 by decide), if_neg (show ¬ nI 5 = 4 by decide), if_pos (show nI 5 = 5 by decide), a1, b1, p_ld a2 (by decide), Option.bind_some, p_ld b2' (by decide), Option.bind_some]
      rw [hv]
      by_cases hle : σ 20 (bN σ i) ≤ σ 20 (aN σ i)
      · rw [if_pos hle, if_pos hle, Option.bind_some, r3, p_sto r4 (by decide), Option.bind_some, nI_1]
      · rw [if_neg hle, if_neg hle, Option.bind_some, r3, p_sto r4 (by decide), Option.bind_some, nI_1]
    · rw [m0, W129 _ _ hwr, if_neg (show ¬ nI 5 = 0 by decide), if_neg (show ¬ nI 5 = 1 by decide), if_neg (show ¬ nI 5 = 6 by decide)]
      unfold f_MO_combine
      rw [if_neg (show ¬ nI 5 = 2 by decide), if_neg (show ¬ nI 5 = 3 by decide), if_neg (show ¬ nI 5 = 4 by decide)]
      rw [hv]
      by_cases hle : σ 20 (bN σ i) ≤ σ 20 (aN σ i)
      · rw [if_pos hle, if_pos hle, Option.bind_some]; exact m194 _
      · rw [if_neg hle, if_neg hle, Option.bind_some]; exact m194 _
  · have hra : rA σ i = true := by unfold rA; rw [ho]; rfl
    have hrb : rB σ i = false := by unfold rB; rw [ho]; rfl
    have hwr : wR σ i = true := by unfold wR; rw [ho]; rfl
    obtain ⟨a1, a2⟩ := ga hra
    have m0 := M0 (σ 20 (aN σ i)) 0 (fun _ => reg _ a2) (fun h => by rw [hra] at h; cases h) (fun h => by rw [hrb] at h; cases h) (fun _ => rfl)
    rw [ho] at r1 m0 M129 W129
    unfold b_MO_instruct_54 at m0
    rw [if_neg (show ¬ nI 6 = 11 by decide), if_neg (show ¬ nI 6 = 9 by decide), if_neg (show ¬ nI 6 = 10 by decide), if_neg (show ¬ nI 6 = 8 by decide), if_neg (show ¬ nI 6 = 7 by decide)] at m0
    obtain ⟨c, c1, c2⟩ := and15 (σ 20 (aN σ i))
    refine fin (σ 21 c) ((C0 _).mpr ?_) ?_
    · rw [r1, if_neg (show ¬ nI 6 = 7 by decide), if_neg (show ¬ nI 6 = 8 by decide), if_neg (show ¬ nI 6 = 9 by decide), if_neg (show ¬ nI 6 = 10 by decide), if_neg (show ¬ nI 6 = 11 by decide)]
      unfold f_MA_valueOf
      rw [if_neg (show ¬ nI 6 = 0 by decide), if_neg (show ¬ nI 6 = 1 by decide), if_neg (show ¬ nI 6 = 2 by decide), if_neg (show ¬ nI 6 = 3 by decide), if_neg (show ¬ nI 6 = 4 by decide), if_neg (show ¬ nI 6 = 5 by decide), if_pos (show nI 6 = 6 by decide), a1, p_ld a2 (by decide), Option.bind_some, show f_MA_cellIndex (σ 20 (aN σ i)) σ = some (nI c, σ) from by unfold f_MA_cellIndex; rw [c2], Option.bind_some, p_ld c1 (by decide), Option.bind_some]
      rw [Option.bind_some, r3, p_sto r4 (by decide), Option.bind_some, nI_1]
    · rw [m0, W129 _ _ hwr, if_neg (show ¬ nI 6 = 0 by decide), if_neg (show ¬ nI 6 = 1 by decide), if_pos (show nI 6 = 6 by decide)]
      rw [c2, p_ld c1 (by decide), Option.bind_some, mem c c1]
      exact m194 _
  · have hra : rA σ i = true := by unfold rA; rw [ho]; rfl
    have hrb : rB σ i = true := by unfold rB; rw [ho]; rfl
    have hwr : wR σ i = false := by unfold wR; rw [ho]; rfl
    obtain ⟨a1, a2⟩ := ga hra
    obtain ⟨b1, b2'⟩ := gb hrb
    have m0 := M0 (σ 20 (aN σ i)) (σ 20 (bN σ i)) (fun _ => reg _ a2) (fun h => by rw [hra] at h; cases h) (fun _ => reg _ b2') (fun h => by rw [hrb] at h; cases h)
    rw [ho] at r1 m0 M129 W129
    unfold b_MO_instruct_54 at m0
    rw [if_neg (show ¬ nI 7 = 11 by decide), if_neg (show ¬ nI 7 = 9 by decide), if_neg (show ¬ nI 7 = 10 by decide), if_neg (show ¬ nI 7 = 8 by decide), if_pos (show nI 7 = 7 by decide)] at m0
    obtain ⟨c, c1, c2⟩ := and15 (σ 20 (aN σ i))
    rw [c2, p_sto c1 (by decide), Option.bind_some, M129 _ _ _ (Fr.su (by simp)) hwr] at m0
    refine ⟨su σ 21 c (σ 20 (bN σ i)), _, nI (i + 1), _, P, (C0 _).mpr ?_, m0, Fr.su (by simp), Fr.su (by simp), MS_cell hs, by omega, Or.inl ⟨i + 1, by omega, rfl, rfl⟩⟩
    rw [r1, if_pos (show nI 7 = 7 by decide), a1, b1, p_ld a2 (by decide), Option.bind_some, show f_MA_cellIndex (σ 20 (aN σ i)) σ = some (nI c, σ) from by unfold f_MA_cellIndex; rw [c2], Option.bind_some]
    dsimp only
    rw [p_ld b2' (by decide), Option.bind_some, p_sto c1 (by decide), Option.bind_some, nI_1]
  · have hra : rA σ i = true := by unfold rA; rw [ho]; rfl
    have hrb : rB σ i = false := by unfold rB; rw [ho]; rfl
    have hwr : wR σ i = false := by unfold wR; rw [ho]; rfl
    obtain ⟨a1, a2⟩ := ga hra
    have m0 := M0 (σ 20 (aN σ i)) 0 (fun _ => reg _ a2) (fun h => by rw [hra] at h; cases h) (fun h => by rw [hrb] at h; cases h) (fun _ => rfl)
    rw [ho] at r1 m0 M129 W129
    unfold b_MO_instruct_54 at m0
    rw [if_neg (show ¬ nI 8 = 11 by decide), if_neg (show ¬ nI 8 = 9 by decide), if_neg (show ¬ nI 8 = 10 by decide), if_pos (show nI 8 = 8 by decide)] at m0
    obtain ⟨σ', τ', d1, d2, d3, d4, d5⟩ := p_print (v := σ 20 (aN σ i)) hs hP
    rw [d2, Option.bind_some, if_neg (show ¬ nI 8 = 7 by decide), M129 _ _ τ' (d4.mono (by simp)) hwr] at m0
    refine ⟨σ', τ', nI (i + 1), _, P + 1, (C0 _).mpr ?_, m0, d3.mono (by simp), d4.mono (by simp), d5, by omega, Or.inl ⟨i + 1, by omega, rfl, rfl⟩⟩
    rw [r1, if_neg (show ¬ nI 8 = 7 by decide), if_pos (show nI 8 = 8 by decide), a1, p_ld a2 (by decide), Option.bind_some, d1, Option.bind_some, nI_1]
  · have hra : rA σ i = false := by unfold rA; rw [ho]; rfl
    have hrb : rB σ i = false := by unfold rB; rw [ho]; rfl
    have hwr : wR σ i = false := by unfold wR; rw [ho]; rfl
    have m0 := M0 0 0 (fun h => by rw [hra] at h; cases h) (fun _ => rfl) (fun h => by rw [hrb] at h; cases h) (fun _ => rfl)
    rw [ho] at r1 m0 M129 W129
    unfold b_MO_instruct_54 at m0
    rw [if_neg (show ¬ nI 9 = 11 by decide), if_pos (show nI 9 = 9 by decide)] at m0
    obtain ⟨a1, a2, -⟩ := r5 (by omega)
    rw [p_ld (by omega) (by decide), Option.bind_some, t2] at m0
    refine ⟨σ, τ, σ 2 i, σ 2 i, P, (C0 _).mpr ?_, m0, Fr.rf, Fr.rf, hs, by omega, Or.inl ⟨aN σ i, by omega, a1, a1⟩⟩
    rw [r1, if_neg (show ¬ nI 9 = 7 by decide), if_neg (show ¬ nI 9 = 8 by decide), if_pos (show nI 9 = 9 by decide)]
  · have hra : rA σ i = true := by unfold rA; rw [ho]; rfl
    have hrb : rB σ i = false := by unfold rB; rw [ho]; rfl
    have hwr : wR σ i = false := by unfold wR; rw [ho]; rfl
    obtain ⟨a1, a2⟩ := ga hra
    have m0 := M0 (σ 20 (aN σ i)) 0 (fun _ => reg _ a2) (fun h => by rw [hra] at h; cases h) (fun h => by rw [hrb] at h; cases h) (fun _ => rfl)
    rw [ho] at r1 m0 M129 W129
    unfold b_MO_instruct_54 at m0
    rw [if_neg (show ¬ nI 10 = 11 by decide), if_neg (show ¬ nI 10 = 9 by decide), if_pos (show nI 10 = 10 by decide)] at m0
    by_cases hz : σ 20 (aN σ i) = 0
    · rw [if_pos hz, p_ld (by omega) (by decide), Option.bind_some, t3] at m0
      refine ⟨σ, τ, nI (bN σ i), _, P, (C0 _).mpr ?_, m0, Fr.rf, Fr.rf, hs, by omega, Or.inl ⟨bN σ i, by omega, rfl, rfl⟩⟩
      rw [r1, if_neg (show ¬ nI 10 = 7 by decide), if_neg (show ¬ nI 10 = 8 by decide), if_neg (show ¬ nI 10 = 9 by decide), if_pos (show nI 10 = 10 by decide), a1, p_ld a2 (by decide), Option.bind_some, if_pos hz, r6]
    · rw [if_neg hz, nI_1] at m0
      refine ⟨σ, τ, nI (i + 1), _, P, (C0 _).mpr ?_, m0, Fr.rf, Fr.rf, hs, by omega, Or.inl ⟨i + 1, by omega, rfl, rfl⟩⟩
      rw [r1, if_neg (show ¬ nI 10 = 7 by decide), if_neg (show ¬ nI 10 = 8 by decide), if_neg (show ¬ nI 10 = 9 by decide), if_pos (show nI 10 = 10 by decide), a1, p_ld a2 (by decide), Option.bind_some, if_neg hz, nI_1]
  · have hra : rA σ i = false := by unfold rA; rw [ho]; rfl
    have hrb : rB σ i = false := by unfold rB; rw [ho]; rfl
    have hwr : wR σ i = false := by unfold wR; rw [ho]; rfl
    have m0 := M0 0 0 (fun h => by rw [hra] at h; cases h) (fun _ => rfl) (fun h => by rw [hrb] at h; cases h) (fun _ => rfl)
    rw [ho] at r1 m0 M129 W129
    unfold b_MO_instruct_54 at m0
    rw [if_pos (show nI 11 = 11 by decide)] at m0
    refine ⟨σ, τ, -1, 100, P, (C0 _).mpr ?_, m0, Fr.rf, Fr.rf, hs, by omega, Or.inr ⟨rfl, rfl⟩⟩
    rw [r1, if_neg (show ¬ nI 11 = 7 by decide), if_neg (show ¬ nI 11 = 8 by decide), if_neg (show ¬ nI 11 = 9 by decide), if_neg (show ¬ nI 11 = 10 by decide), if_pos (show nI 11 = 11 by decide)]
-- ===== clearing =====
theorem c_reset23 : ∀ (m k : Nat) (σ : SS), k ≤ 16 → 16 - k < m → (∀ i, i < k → σ 21 i = 0) → ∃ σ' : SS, b_MA_reset_23 m (nI k) σ = some σ' ∧ Fr [21, 29, 30] σ σ' ∧ (∀ i, i < 16 → σ' 21 i = 0) ∧ σ' 29 0 = 0 ∧ σ' 30 0 = 0 := by
  intro m
  induction m with
  | zero => intro k σ _ h; omega
  | succ m ih =>
    intro k σ hk hm h
    rw [b_MA_reset_23]
    by_cases hk6 : 16 ≤ k
    · rw [if_pos (show (16 : Int32) ≤ nI k from nI_le (a := 16) hk6 (by omega)), p_sf, Option.bind_some, p_sf, Option.bind_some]
      refine ⟨_, rfl, (Fr.su (by simp)).tr (Fr.su (by simp)), fun i hi => by rw [p_suk (by omega), p_suk (by omega)]; exact h i (by omega), by rw [p_suk (by omega), p_sus], p_sus _ _ _ _⟩
    · rw [if_neg (show ¬ (16 : Int32) ≤ nI k from nI_ge (b := 16) (by omega) (by omega)), p_sto (by omega) (by decide), Option.bind_some, nI_1]
      obtain ⟨σ', d1, d2, d3⟩ := ih (k + 1) (su σ 21 k 0) (by omega) (by omega) (fun i hi => by
        by_cases e : i = k
        · rw [e, p_sus]
        · rw [p_sun e]; exact h i (by omega))
      exact ⟨σ', d1, (Fr.su (by simp)).tr d2, d3⟩
theorem c_reset2 : ∀ (m k : Nat) (σ : SS), k ≤ 10 → 10 - k < m → (∀ i, i < k → σ 20 i = 0) → ∃ σ' : SS, b_MA_reset_2 m (nI k) σ = some σ' ∧ Fr [20, 21, 29, 30] σ σ' ∧ (∀ i, i < 10 → σ' 20 i = 0) ∧ (∀ i, i < 16 → σ' 21 i = 0) ∧ σ' 29 0 = 0 ∧ σ' 30 0 = 0 := by
  intro m
  induction m with
  | zero => intro k σ _ h; omega
  | succ m ih =>
    intro k σ hk hm h
    rw [b_MA_reset_2]
    by_cases hk6 : 10 ≤ k
    · rw [if_pos (show (10 : Int32) ≤ nI k from nI_le (a := 10) hk6 (by omega))]
      obtain ⟨σ', d1, d2, d3⟩ := c_reset23 FU 0 σ (by omega) (by unfold FU; omega) (fun i hi => by omega)
      exact ⟨σ', d1, d2.mono (by simp), fun i hi => by rw [d2 20 (by simp)]; exact h i (by omega), d3⟩
    · rw [if_neg (show ¬ (10 : Int32) ≤ nI k from nI_ge (b := 10) (by omega) (by omega)), p_sto (by omega) (by decide), Option.bind_some, nI_1]
      obtain ⟨σ', d1, d2, d3⟩ := ih (k + 1) (su σ 20 k 0) (by omega) (by omega) (fun i hi => by
        by_cases e : i = k
        · rw [e, p_sus]
        · rw [p_sun e]; exact h i (by omega))
      exact ⟨σ', d1, (Fr.su (by simp)).tr d2, d3⟩
theorem c_reset (σ : SS) : ∃ σ' : SS, f_MA_reset σ = some σ' ∧ Fr [20, 21, 29, 30] σ σ' ∧ (∀ i, i < 10 → σ' 20 i = 0) ∧ (∀ i, i < 16 → σ' 21 i = 0) ∧ σ' 29 0 = 0 ∧ σ' 30 0 = 0 := by
  unfold f_MA_reset
  exact c_reset2 FU 0 σ (by omega) (by unfold FU; omega) (fun i hi => by omega)
theorem m_clear48 (x : Int32) : ∀ (m k : Nat) (τ : SS), k ≤ 10 → 10 - k < m → (∀ i, i < k → τ 18 i = 0) → ∃ τ' : SS, b_MO_run_48 m x (nI k) τ = (if x = 0 then (f_MO_runRegisters τ').bind fun σ5 => some ((σ5 24 0), σ5) else (f_MO_runStack τ').bind fun σ3 => some ((σ3 24 0), σ3)) ∧ Fr [18] τ τ' ∧ ∀ i, i < 10 → τ' 18 i = 0 := by
  intro m
  induction m with
  | zero => intro k σ _ h; omega
  | succ m ih =>
    intro k τ hk hm h
    rw [b_MO_run_48]
    by_cases hk6 : 10 ≤ k
    · rw [if_pos (show (10 : Int32) ≤ nI k from nI_le (a := 10) hk6 (by omega))]
      exact ⟨τ, rfl, Fr.rf, fun i hi => h i (by omega)⟩
    · rw [if_neg (show ¬ (10 : Int32) ≤ nI k from nI_ge (b := 10) (by omega) (by omega)), p_sto (by omega) (by decide), Option.bind_some, nI_1]
      obtain ⟨τ', d1, d2, d3⟩ := ih (k + 1) (su τ 18 k 0) (by omega) (by omega) (fun i hi => by
        by_cases e : i = k
        · rw [e, p_sus]
        · rw [p_sun e]; exact h i (by omega))
      exact ⟨τ', d1, (Fr.su (by simp)).tr d2, d3⟩
theorem m_clear27 (x : Int32) : ∀ (m k : Nat) (τ : SS), k ≤ 16 → 16 - k < m → (∀ i, i < k → τ 17 i = 0) → ∃ τ' : SS, b_MO_run_27 m x (nI k) τ = (if x = 0 then (f_MO_runRegisters τ').bind fun σ5 => some ((σ5 24 0), σ5) else (f_MO_runStack τ').bind fun σ3 => some ((σ3 24 0), σ3)) ∧ Fr [17, 18] τ τ' ∧ (∀ i, i < 16 → τ' 17 i = 0) ∧ ∀ i, i < 10 → τ' 18 i = 0 := by
  intro m
  induction m with
  | zero => intro k σ _ h; omega
  | succ m ih =>
    intro k τ hk hm h
    rw [b_MO_run_27]
    by_cases hk6 : 16 ≤ k
    · rw [if_pos (show (16 : Int32) ≤ nI k from nI_le (a := 16) hk6 (by omega))]
      obtain ⟨τ', d1, d2, d3⟩ := m_clear48 x FU 0 τ (by omega) (by unfold FU; omega) (fun i hi => by omega)
      exact ⟨τ', d1, d2.mono (by simp), fun i hi => by rw [d2 17 (by simp)]; exact h i (by omega), d3⟩
    · rw [if_neg (show ¬ (16 : Int32) ≤ nI k from nI_ge (b := 16) (by omega) (by omega)), p_sto (by omega) (by decide), Option.bind_some, nI_1]
      obtain ⟨τ', d1, d2, d3⟩ := ih (k + 1) (su τ 17 k 0) (by omega) (by omega) (fun i hi => by
        by_cases e : i = k
        · rw [e, p_sus]
        · rw [p_sun e]; exact h i (by omega))
      exact ⟨τ', d1, (Fr.su (by simp)).tr d2, d3⟩
-- ===== the register run =====
theorem r_loop {n : Nat} : ∀ (m m' k : Nat) (x y : Int32) (σ τ : SS) (P : Nat), CC σ n → CM τ n → Eqc τ σ → MS σ τ P → P ≤ k → k ≤ 300 → 300 - k < m → 300 - k < m' → τ 25 0 = nI k → ((∃ t, t ≤ 40 ∧ x = nI t ∧ y = nI t) ∨ (x = -1 ∧ y = 100)) → ∃ (σ' τ' : SS) (P' : Nat), b_MA_runInstructions_8 m x (nI k) σ = some (nI P', σ') ∧ b_MO_runRegisters_2 m' y τ = some τ' ∧ Fr [20, 21, 22, 30, 31] σ σ' ∧ Fr [16, 17, 18, 24, 25] τ τ' ∧ MS σ' τ' P' ∧ P' ≤ 300 ∧ σ' 31 0 = τ' 25 0 := by
  intro m
  induction m with
  | zero => intro m' k x y σ τ P _ _ _ _ _ _ h; omega
  | succ m ih =>
    intro m' k x y σ τ P hc hm he hs hPk hk hmm hmm' h25 hxy
    have hn4 := hc.1.1
    obtain ⟨m', rfl⟩ : ∃ g, m' = g + 1 := ⟨m' - 1, by omega⟩
    rw [b_MA_runInstructions_8, b_MO_runRegisters_2, hm.2, h25]
    -- both stop
    have stop : ∀ P', P' = P → ∃ (σ' τ' : SS) (P' : Nat), ((sf σ 31 (nI k)).bind fun σ2 => some ((σ2 30 0), σ2)) = some (nI P', σ') ∧ some τ = some τ' ∧ Fr [20, 21, 22, 30, 31] σ σ' ∧ Fr [16, 17, 18, 24, 25] τ τ' ∧ MS σ' τ' P' ∧ P' ≤ 300 ∧ σ' 31 0 = τ' 25 0 := by
      intro _ _
      rw [p_sf, Option.bind_some]
      refine ⟨su σ 31 0 (nI k), τ, P, ?_, rfl, Fr.su (by simp), Fr.rf, hs.fr (S := [31]) (S' := []) (Fr.su (by simp)) Fr.rf (fun k hk => by simp; omega) (fun k hk => by simp), by omega, by rw [p_sus, h25]⟩
      rw [p_suk (by omega), hs.2.2.2.1]
    by_cases hk3 : 300 ≤ k
    · rw [if_pos (show (300 : Int32) ≤ nI k from nI_le (a := 300) hk3 (by omega)), if_pos (show (300 : Int32) ≤ nI k from nI_le (a := 300) hk3 (by omega))]
      have := stop P rfl
      by_cases hny : nI n ≤ y
      · rw [if_pos hny]; exact this
      · rw [if_neg hny]; exact this
    · rw [if_neg (show ¬ (300 : Int32) ≤ nI k from nI_ge (b := 300) (by omega) (by omega)), if_neg (show ¬ (300 : Int32) ≤ nI k from nI_ge (b := 300) (by omega) (by omega))]
      rcases hxy with ⟨t, t1, rfl, rfl⟩ | ⟨rfl, rfl⟩
      · rw [g_holds hc.2.1 (by omega) (by omega), Option.bind_some]
        by_cases htn : t < n
        · rw [if_neg (nI_ge htn (by omega)), if_pos htn, if_neg (show ¬ (1 : Int32) = 0 by decide)]
          obtain ⟨σ1, τ1, x, y, P1, a1, a2, a3, a4, a5, a6, a7⟩ := r_step hc hm he htn hs (by omega)
          rw [a1, Option.bind_some, a2, Option.bind_some, p_sf, Option.bind_some, nI_1]
          have hf : Fr [25] τ1 (su τ1 25 0 (nI (k + 1))) := Fr.su (by simp)
          have e25 : τ1 25 0 = nI k := by rw [a4 25 (by simp)]; exact h25
          dsimp only
          rw [e25, nI_1]
          obtain ⟨σ', τ', P', d1, d2, d3, d4, d5, d6, d7⟩ := ih m' (k + 1) x y σ1 (su τ1 25 0 (nI (k + 1))) P1 (hc.fr a3 (fun k hk => by simp; omega)) ((hm.fr a4 (fun k hk => by simp; omega)).fr hf (fun k hk => by simp; omega)) (fun q hq => by rw [hf q (by simp; omega), a4 q (by simp; omega), a3 q (by simp; omega)]; exact he q hq) (a5.fr (S := []) Fr.rf hf (fun k hk => by simp) (fun k hk => by simp; omega)) (by omega) (by omega) (by omega) (by omega) (p_sus _ _ _ _) a7
          exact ⟨σ', τ', P', d1, d2, (a3.mono (by simp)).tr d3, ((a4.mono (by simp)).tr (hf.mono (by simp))).tr d4, d5, d6, d7⟩
        · rw [if_pos (nI_le (by omega) (by omega)), if_neg htn, if_pos rfl]
          exact stop P rfl
      · have hh : f_RC_holds (-1) σ = some (0, σ) := by unfold f_RC_holds; rw [if_pos (by decide)]
        rw [hh, Option.bind_some, if_pos rfl, if_pos (show nI n ≤ 100 from nI_le (b := 100) (by omega) (by omega))]
        exact stop P rfl
