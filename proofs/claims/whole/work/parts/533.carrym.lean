-- ===== the reference's conditions =====
def KM (τ : SS) (n : Nat) (A : Nat → Int32) : Prop := CM τ n ∧ (∀ j, j < 42 → τ 4 j = b2 (Bf τ n j)) ∧ ∀ i, aft τ n (τ 5) i = A i
theorem KM.fr {S : List Nat} {τ τ' : SS} {n : Nat} {A : Nat → Int32} (h : Fr S τ τ') (hs : ∀ k, k < 4 ∨ k = 21 ∨ k = 4 ∨ k = 5 → k ∉ S) (hc : KM τ n A) : KM τ' n A := by
  have he : Eqc τ' τ := h.eqc (fun k hk => hs k (Or.inl hk))
  refine ⟨hc.1.fr h (fun k hk => hs k (by omega)), fun j hj => ?_, fun i => ?_⟩
  · rw [he.bfq, h 4 (hs 4 (by omega))]; exact hc.2.1 j hj
  · rw [he.aftq, h 5 (hs 5 (by omega))]; exact hc.2.2 i
theorem bg_0 {κ : SS} : ∀ m, bg κ m 0 = true := by
  intro m
  induction m with
  | zero => rfl
  | succ m ih => show (bg κ m 0 || _) = true; rw [ih]; rfl
theorem Bf_0 {κ : SS} {n : Nat} : Bf κ n 0 = true := by unfold Bf; rw [bg_0]; simp
theorem Bf_n {κ : SS} {n j : Nat} (h : n ≤ j) : Bf κ n j = true := by unfold Bf; simp [h]
theorem m_writes {τ : SS} {n k r : Nat} (hc : CM τ n) (hk : k < n) (hr : r < 10) : f_MO_writes (nI k) (nI r) τ = some (b2 (wr τ k r), τ) := by
  have hn4 := hc.1.1
  have hrt := hc.1.2 k hk
  unfold f_MO_writes wr
  rw [m_isW (by omega) hrt, Option.bind_some]
  simp only [b2_z]
  cases hw : wR τ k with
  | false => rw [if_pos rfl]; rfl
  | true =>
    rw [if_neg (by simp), p_ld (by omega) (by decide), Option.bind_some, hrt.2.2.1, Bool.true_and]
    have hd := hrt.2.2.2.1
    by_cases e : dN τ k = r
    · rw [if_pos (by rw [e]), e, beq_self_eq_true]; rfl
    · rw [if_neg (nI_neq (by omega) (by omega) e), bnq e]; rfl
def tm (κ : SS) (k r : Nat) : Nat := (if (rA κ k && aN κ k == r) = true then 1 else 0) + (if (rB κ k && bN κ k == r) = true then 1 else 0)
theorem m_times {τ : SS} {n k r : Nat} (hc : CM τ n) (hk : k < n) (hr : r < 10) : f_MO_times (nI k) (nI r) τ = some (nI (tm τ k r), τ) := by
  have hn4 := hc.1.1
  have hrt := hc.1.2 k hk
  have t23 : ∀ y : Nat, b_MO_times_23 (nI k) (nI r) (nI y) τ = some (nI (y + (if (rB τ k && bN τ k == r) = true then 1 else 0)), τ) := by
    intro y
    unfold b_MO_times_23
    rw [m_rB (by omega) hrt, Option.bind_some]
    simp only [b2_z]
    cases hb : rB τ k with
    | false => simp
    | true =>
      have hbl := rB_lt hrt hb
      rw [if_neg (by simp), p_ld (by omega) (by decide), Option.bind_some, hbl.1, Bool.true_and]
      have := hbl.2
      by_cases e : bN τ k = r
      · rw [if_pos (by rw [e]), e, beq_self_eq_true, if_pos rfl, nI_1]
      · rw [if_neg (nI_neq (by omega) (by omega) e), bnq e, if_neg (by simp)]
        show some (nI y + nI 0, τ) = _
        rw [nI_add]
  unfold f_MO_times tm
  rw [m_rA (by omega) hrt, Option.bind_some]
  simp only [b2_z]
  cases ha : rA τ k with
  | false =>
    rw [if_pos rfl, Bool.false_and, if_neg (show ¬ (false = true) by simp)]
    exact t23 0
  | true =>
    have hal := rA_lt hrt ha
    rw [if_neg (by simp), p_ld (by omega) (by decide), Option.bind_some, hal.1, Bool.true_and]
    have := hal.2
    by_cases e : aN τ k = r
    · rw [if_pos (by rw [e]), e, beq_self_eq_true, if_pos rfl]
      exact t23 1
    · rw [if_neg (nI_neq (by omega) (by omega) e), bnq e, if_neg (show ¬ (false = true) by simp)]
      exact t23 0
theorem tm_le {κ : SS} {k r : Nat} : tm κ k r ≤ 2 := by unfold tm; split <;> split <;> omega
theorem tm_1 {κ : SS} {k r : Nat} : tm κ k r = 1 ↔ ro κ k r = true := by
  unfold tm ro
  cases (rA κ k && aN κ k == r) <;> cases (rB κ k && bN κ k == r) <;> simp
theorem tm_0 {κ : SS} {k r : Nat} : tm κ k r = 0 ↔ rd1 κ k r = false := by
  unfold tm rd1
  cases (rA κ k && aN κ k == r) <;> cases (rB κ k && bN κ k == r) <;> simp
theorem m_wb {τ : SS} {n r : Nat} {A : Nat → Int32} (hc : KM τ n A) (hr : r < 10) : ∀ (m k : Nat), k < n → k < m → b_MO_writerBefore_2 m (nI r) (nI k) τ = some (oI (lwo τ (Bf τ n) r k), τ) := by
  have hn4 := hc.1.1.1
  intro m
  induction m with
  | zero => intro k _ h; omega
  | succ m ih =>
    intro k hk hm
    rw [b_MO_writerBefore_2, p_ld (by omega) (by decide), Option.bind_some, hc.2.1 k (by omega)]
    simp only [b2_z]
    cases k with
    | zero => rw [Bf_0, if_neg (by simp)]; rfl
    | succ k =>
      show _ = some (oI (if Bf τ n (k + 1) then none else if wr τ k r then some k else lwo τ (Bf τ n) r k), τ)
      by_cases h1 : Bf τ n (k + 1) = true
      · rw [if_neg (by simp [h1]), if_pos h1]; rfl
      · rw [if_pos (by simpa using h1), if_neg h1]
        have e1 : nI (k + 1) - 1 = nI k := pk_sub (a := k + 1) (b := 1) (by omega)
        rw [e1, m_writes hc.1 (by omega) hr, Option.bind_some]
        simp only [b2_z]
        by_cases h2 : wr τ k r = true
        · rw [if_neg (by simp [h2]), if_pos h2]; rfl
        · rw [if_pos (by simpa using h2), if_neg h2]
          exact ih k (by omega) (by omega)
/-- e is the end of i's block -/
def BE (B : Nat → Bool) (n i e : Nat) : Prop := i ≤ e ∧ e < n ∧ B (e + 1) = true ∧ ∀ k, i < k → k ≤ e → B k = false
theorem BE_one {B : Nat → Bool} {n i e e' : Nat} (h : BE B n i e) (h' : BE B n i e') : e = e' := by
  obtain ⟨a1, a2, a3, a4⟩ := h
  obtain ⟨b1, b2, b3, b4⟩ := h'
  rcases Nat.lt_trichotomy e e' with h | h | h
  · have := b4 (e + 1) (by omega) (by omega); rw [a3] at this; cases this
  · exact h
  · have := a4 (e' + 1) (by omega) (by omega); rw [b3] at this; cases this
theorem m_be {τ : SS} {n : Nat} {A : Nat → Int32} (hc : KM τ n A) : ∀ (m i : Nat), i < n → n - i < m → ∃ e, b_MO_blockEnd_2 m (nI i) τ = some (nI e, τ) ∧ BE (Bf τ n) n i e := by
  have hn4 := hc.1.1.1
  intro m
  induction m with
  | zero => intro i _ h; omega
  | succ m ih =>
    intro i hi hm
    rw [b_MO_blockEnd_2, nI_1, p_ld (by omega) (by decide), Option.bind_some, hc.2.1 (i + 1) (by omega)]
    simp only [b2_z]
    by_cases h1 : Bf τ n (i + 1) = true
    · rw [if_neg (by simp [h1])]
      exact ⟨i, rfl, Nat.le_refl _, hi, h1, fun k a b => by omega⟩
    · rw [if_pos (by simpa using h1)]
      have hlt : i + 1 < n := by
        apply Nat.not_le.mp
        intro h
        exact h1 (Bf_n h)
      obtain ⟨e, g1, g2, g3, g4, g5⟩ := ih (i + 1) hlt (by omega)
      refine ⟨e, g1, by omega, g3, g4, fun k a b => ?_⟩
      by_cases hk : k = i + 1
      · rw [hk]; simpa using h1
      · exact g5 k (by omega) b
theorem m_blockEnd {τ : SS} {n i : Nat} {A : Nat → Int32} (hc : KM τ n A) (hi : i < n) : ∃ e, f_MO_blockEnd (nI i) τ = some (nI e, τ) ∧ BE (Bf τ n) n i e := by
  have hn4 := hc.1.1.1
  unfold f_MO_blockEnd
  exact m_be hc FU i hi (by unfold FU; omega)
/-- w is the first writer of r behind i up to e -/
def NW (κ : SS) (r i e : Nat) (w : Option Nat) : Prop := (w = none → ∀ k, i < k → k ≤ e → wr κ k r = false) ∧ ∀ v, w = some v → i < v ∧ v ≤ e ∧ wr κ v r = true ∧ ∀ k, i < k → k < v → wr κ k r = false
theorem m_nw {τ : SS} {n i e r : Nat} {A : Nat → Int32} (hc : KM τ n A) (hi : i < n) (he : e < n) (hd : dN τ i = r) : ∀ (m k : Nat) (w : Option Nat), k ≤ e → i ≤ k → k - i < m → NW τ r k e w → ∃ w', b_MO_nextWriter_11 m (nI i) (oI w) (nI k) τ = some (oI w', τ) ∧ NW τ r i e w' := by
  have hn4 := hc.1.1.1
  have hrt := hc.1.1.2 i hi
  have hr : r < 10 := by rw [← hd]; exact hrt.2.2.2.1
  intro m
  induction m with
  | zero => intro k w _ _ h; omega
  | succ m ih =>
    intro k w hk hik hm hw
    rw [b_MO_nextWriter_11]
    by_cases hki : k = i
    · subst hki
      rw [if_pos (nI_le (Nat.le_refl _) (by omega))]
      exact ⟨w, rfl, hw⟩
    · rw [if_neg (nI_ge (by omega) (by omega)), p_ld (by omega) (by decide), Option.bind_some, hrt.2.2.1, hd, m_writes hc.1 (by omega) hr, Option.bind_some]
      simp only [b2_z]
      have e2 : nI k + (-1) = nI (k - 1) := lt_am (by omega)
      rw [e2]
      by_cases h1 : wr τ k r = true
      · rw [if_neg (by simp [h1]), show nI k = oI (some k) from rfl]
        exact ih (k - 1) (some k) (by omega) (by omega) (by omega) ⟨(fun h => by cases h), (fun v hv => by cases hv; exact ⟨by omega, hk, h1, fun k' a b => by omega⟩)⟩
      · rw [if_pos (by simpa using h1)]
        have h1 : wr τ k r = false := by simpa using h1
        refine ih (k - 1) w (by omega) (by omega) (by omega) ⟨fun h k' a b => ?_, fun v hv => ?_⟩
        · by_cases e : k' = k
          · rw [e]; exact h1
          · exact hw.1 h k' (by omega) b
        · obtain ⟨a1, a2, a3, a4⟩ := hw.2 v hv
          refine ⟨by omega, a2, a3, fun k' b1 b2 => ?_⟩
          by_cases e : k' = k
          · rw [e]; exact h1
          · exact a4 k' (by omega) b2
theorem m_next {τ : SS} {n i : Nat} {A : Nat → Int32} (hc : KM τ n A) (hi : i < n) : ∃ (e : Nat) (w : Option Nat), f_MO_nextWriter (nI i) τ = some (oI w, τ) ∧ f_MO_blockEnd (nI i) τ = some (nI e, τ) ∧ BE (Bf τ n) n i e ∧ NW τ (dN τ i) i e w := by
  have hn4 := hc.1.1.1
  obtain ⟨e, h1, h2⟩ := m_blockEnd hc hi
  obtain ⟨w, g1, g2⟩ := m_nw hc hi h2.2.1 rfl FU e none (Nat.le_refl _) h2.1 (by have := h2.2.1; unfold FU; omega) ⟨fun _ k a b => by omega, fun v hv => by cases hv⟩
  refine ⟨e, w, ?_, h1, h2, g2⟩
  unfold f_MO_nextWriter
  rw [h1, Option.bind_some]
  exact g1
/-- one bit, by shifting -/
theorem sh_bit {x : Int32} {d : Nat} (hd : d < 32) : ((x >>> (nI d &&& 31)) &&& 1) = b2 (bt x d) := by
  apply b_ext
  intro k hk
  rw [b_and, bt_1 k hk]
  by_cases e : k = 0
  · subst e
    rw [b_sshr d hd x (by omega), if_pos (by omega)]
    cases hb : bt x d with
    | false => decide
    | true => decide
  · rw [decide_eq_false e, Bool.and_false]
    cases bt x d with
    | false => rw [b2_f, b_0]
    | true => rw [b2_t, bt_1 k hk, decide_eq_false e]
theorem m_cw {τ : SS} {n i j : Nat} {x : Int32} {l : Bool} (hc : CM τ n) (hi : i < n) (hj : j < n) (h10 : τ 10 i = x) (h11 : τ 11 i = b2 l) : ∀ (m k : Nat) (g : Bool), k ≤ j → j - k < m → ∀ f, j - k ≤ f → b_MO_canCarry_143 m (nI i) (nI j) (b2 g) (nI k) τ = some (b2 (g && cwt τ x l j f k), τ) := by
  have hn4 := hc.1.1
  intro m
  induction m with
  | zero => intro k g _ h; omega
  | succ m ih =>
    intro k g hk hm f hf
    rw [b_MO_canCarry_143]
    by_cases hkj : k < j
    · obtain ⟨f, rfl⟩ : ∃ g, f = g + 1 := ⟨f - 1, by omega⟩
      have hrt := hc.1.2 k (by omega)
      rw [if_neg (nI_ge hkj (by omega))]
      simp only [b2_z]
      cases g with
      | false =>
        rw [if_pos rfl, nI_1, Bool.false_and]
        have := ih (k + 1) false (by omega) (by omega) f (by omega)
        rw [Bool.false_and] at this
        exact this
      | true =>
        rw [if_neg (by simp), Bool.true_and]
        show _ = some (b2 (if j ≤ k then true else if wR τ k && bt x (dN τ k) then false else if l && oN τ k == 7 then false else cwt τ x l j f (k + 1)), τ)
        rw [if_neg (show ¬ j ≤ k by omega), m_isW (by omega) hrt, Option.bind_some]
        simp only [b2_z]
        have go0 := ih (k + 1) false (by omega) (by omega) f (by omega)
        have go1 := ih (k + 1) true (by omega) (by omega) f (by omega)
        rw [Bool.false_and, b2_f] at go0
        rw [Bool.true_and, b2_t] at go1
        have t183 : b_MO_canCarry_183 (b_MO_canCarry_143 m) (nI i) (nI j) (nI k) τ = some (b2 (if l && oN τ k == 7 then false else cwt τ x l j f (k + 1)), τ) := by
          unfold b_MO_canCarry_183
          rw [p_ld (by omega) (by decide), Option.bind_some, h11, nI_1]
          simp only [b2_z]
          cases l with
          | false => rw [if_pos rfl, Bool.false_and, if_neg (by simp)]; exact go1
          | true =>
            rw [if_neg (by simp), p_ld (by omega) (by decide), Option.bind_some, hrt.1, Bool.true_and]
            have h11' := hrt.2.1
            by_cases h7 : oN τ k = 7
            · rw [h7, if_pos (by decide), if_pos (by decide)]; exact go0
            · rw [if_neg (show ¬ nI (oN τ k) = 7 from nI_neq (b := 7) (by omega) (by omega) h7), bnq h7, if_neg (by simp)]; exact go1
        cases hw : wR τ k with
        | false => rw [if_pos rfl, Bool.false_and, if_neg (show ¬ (false = true) by simp)]; exact t183
        | true =>
          rw [if_neg (by simp), p_ld (by omega) (by decide), Option.bind_some, h10, p_ld (by omega) (by decide), Option.bind_some, hrt.2.2.1, sh_bit (by have := hrt.2.2.2.1; omega), Bool.true_and]
          simp only [b2_o]
          by_cases hb : bt x (dN τ k) = true
          · rw [if_pos hb, if_pos hb, nI_1]; exact go0
          · rw [if_neg hb, if_neg hb]; exact t183
    · rw [if_pos (nI_le (by omega) (by omega)), b2_rz]
      cases f with
      | zero => show _ = some (b2 (g && true), τ); rw [Bool.and_true]
      | succ f => show _ = some (b2 (g && (if j ≤ k then true else _)), τ); rw [if_pos (by omega), Bool.and_true]
def al (κ : SS) (r j last : Nat) : Nat → Nat → Bool
  | 0, _ => true
  | f + 1, k => if last < k then true else ((k == j) || !rd1 κ k r) && al κ r j last f (k + 1)
theorem m_64 {τ : SS} {n i j e r last : Nat} {A : Nat → Int32} {x : Int32} {l : Bool} {w : Option Nat} (hc : KM τ n A) (hi : i < j) (hj : j < n) (hr : r < 10) (h10 : τ 10 i = x) (h11 : τ 11 i = b2 l) (hbe : f_MO_blockEnd (nI i) τ = some (nI e, τ)) (hen : e < n) (hl : last < n) (hw : ∀ v, w = some v → v < 40) : ∀ (m k : Nat) (g : Bool), k ≤ last + 1 → last + 1 - k < m → ∀ f, last + 1 - k ≤ f → b_MO_canCarry_64 m (nI i) (nI j) (nI r) (oI w) (nI last) (b2 g) (nI k) τ = some (b2 ((g && al τ r j last f k && (w.isSome || !(bt (A e) r))) && cwt τ x l j 41 (i + 1)), τ) := by
  have hn4 := hc.1.1.1
  have hcw : ∀ g : Bool, b_MO_canCarry_143 FU (nI i) (nI j) (b2 g) (nI (i + 1)) τ = some (b2 (g && cwt τ x l j 41 (i + 1)), τ) := fun g => m_cw hc.1 (by omega) hj h10 h11 FU (i + 1) g (by omega) (by unfold FU; omega) 41 (by omega)
  intro m
  induction m with
  | zero => intro k g _ h; omega
  | succ m ih =>
    intro k g hk hm f hf
    rw [b_MO_canCarry_64]
    by_cases hkl : last < k
    · rw [if_pos (nI_lt hkl (by omega))]
      have hal : al τ r j last f k = true := by
        cases f with
        | zero => rfl
        | succ f => show (if last < k then true else _) = true; rw [if_pos hkl]
      rw [hal, Bool.and_true]
      simp only [b2_z]
      rw [nI_1]
      cases g with
      | false => rw [if_pos rfl]; exact hcw false
      | true =>
        rw [if_neg (by simp), Bool.true_and]
        cases w with
        | some v =>
          have := hw v rfl
          rw [if_pos (show (0 : Int32) ≤ oI (some v) from nI_pos' (by omega))]
          exact hcw true
        | none =>
          rw [if_neg (show ¬ (0 : Int32) ≤ oI none by decide), hbe, Option.bind_some]
          rw [m_behind hc.1 hen, Option.bind_some, hc.2.2 e]
          dsimp only
          rw [sh_bit (by omega)]
          simp only [b2_z]
          cases hb : bt (A e) r with
          | false => rw [if_pos rfl]; exact hcw true
          | true => rw [if_neg (by simp)]; exact hcw false
    · obtain ⟨f, rfl⟩ : ∃ g, f = g + 1 := ⟨f - 1, by omega⟩
      rw [if_neg (nI_nlt (by omega) (by omega)), nI_1]
      simp only [b2_z]
      have hal : al τ r j last (f + 1) k = (((k == j) || !rd1 τ k r) && al τ r j last f (k + 1)) := by show (if last < k then true else _) = _; rw [if_neg hkl]
      rw [hal]
      cases g with
      | false =>
        rw [if_pos rfl]
        have := ih (k + 1) false (by omega) (by omega) f (by omega)
        simp only [Bool.false_and] at this ⊢
        exact this
      | true =>
        rw [if_neg (by simp)]
        have go0 := ih (k + 1) false (by omega) (by omega) f (by omega)
        have go1 := ih (k + 1) true (by omega) (by omega) f (by omega)
        simp only [Bool.false_and, Bool.true_and, b2_f, b2_t] at go0 go1 ⊢
        by_cases ekj : k = j
        · rw [if_pos (by rw [ekj]), ekj, beq_self_eq_true, Bool.true_or, Bool.true_and]
          rw [ekj] at go1
          exact go1
        · rw [if_neg (nI_neq (by omega) (by omega) ekj), bnq ekj, Bool.false_or, m_times hc.1 (by omega) hr, Option.bind_some]
          have htl := tm_le (κ := τ) (k := k) (r := r)
          by_cases ht : tm τ k r = 0
          · rw [if_pos (show nI (tm τ k r) = 0 by rw [ht]; rfl), tm_0.mp ht]
            exact go1
          · rw [if_neg (show ¬ nI (tm τ k r) = 0 from nI_neq (b := 0) (by omega) (by omega) ht)]
            have : rd1 τ k r = true := by
              cases hh : rd1 τ k r with
              | true => rfl
              | false => exact absurd (tm_0.mpr hh) ht
            rw [this]
            exact go0
/-- the two ways to say that none but j reads it -/
theorem nrb_al {κ : SS} {B : Nat → Bool} {A : Nat → Int32} {r j i e n last : Nat} {w : Option Nat} (hbe : BE B n i e) (hnw : NW κ r i e w) (hlast : last = w.getD e) : ∀ (f f' k : Nat), i < k → k ≤ e + 1 → e + 1 - k ≤ f → last + 1 - k ≤ f' → (∀ k', i < k' → k' < k → wr κ k' r = false) → nrb κ B A r j f k (k - 1) = (al κ r j last f' k && (w.isSome || !(bt (A e) r))) := by
  intro f
  induction f with
  | zero =>
    intro f' k h1 h2 h3 h4 h5
    have hk : k = e + 1 := by omega
    have hwn : w = none := by
      cases hw : w with
      | none => rfl
      | some v => obtain ⟨a1, a2, a3, a4⟩ := hnw.2 v hw; rw [h5 v a1 (by omega)] at a3; cases a3
    subst hwn
    have hl : last = e := hlast
    have hal : al κ r j last f' k = true := by
      cases f' with
      | zero => rfl
      | succ f' => show (if last < k then true else _) = true; rw [if_pos (by omega)]
    rw [hal, hk]
    rfl
  | succ f ih =>
    intro f' k h1 h2 h3 h4 h5
    show (if B k then !(bt (A (k - 1)) r) else if !(k == j) && rd1 κ k r then false else if wr κ k r then true else nrb κ B A r j f (k + 1) k) = _
    by_cases hke : k = e + 1
    · have hwn : w = none := by
        cases hw : w with
        | none => rfl
        | some v => obtain ⟨a1, a2, a3, a4⟩ := hnw.2 v hw; rw [h5 v a1 (by omega)] at a3; cases a3
      subst hwn
      have hl : last = e := hlast
      have hal : al κ r j last f' k = true := by
        cases f' with
        | zero => rfl
        | succ f' => show (if last < k then true else _) = true; rw [if_pos (by omega)]
      rw [hal, hke, if_pos hbe.2.2.1]
      rfl
    · have hke : k ≤ e := by omega
      have hlk : k ≤ last := by
        cases hw : w with
        | none => rw [hw] at hlast; have : last = e := hlast; omega
        | some v =>
          rw [hw] at hlast
          have hlv : last = v := hlast
          obtain ⟨a1, a2, a3, a4⟩ := hnw.2 v hw
          rw [hlv]
          apply Nat.not_lt.mp
          intro hlt
          rw [h5 v a1 hlt] at a3
          cases a3
      rw [if_neg (by rw [hbe.2.2.2 k h1 hke]; simp)]
      obtain ⟨f', rfl⟩ : ∃ g, f' = g + 1 := ⟨f' - 1, by omega⟩
      have hal : al κ r j last (f' + 1) k = (((k == j) || !rd1 κ k r) && al κ r j last f' (k + 1)) := by show (if last < k then true else _) = _; rw [if_neg (by omega)]
      rw [hal]
      by_cases hx : (!(k == j) && rd1 κ k r) = true
      · rw [if_pos hx]
        have : ((k == j) || !rd1 κ k r) = false := by
          simp at hx ⊢
          exact hx
        rw [this]; rfl
      · rw [if_neg hx]
        have hy : ((k == j) || !rd1 κ k r) = true := by
          simp at hx ⊢
          by_cases e : k = j
          · exact Or.inl e
          · exact Or.inr (hx e)
        rw [hy, Bool.true_and]
        by_cases hwr : wr κ k r = true
        · rw [if_pos hwr]
          have hwk : w = some k := by
            cases hw : w with
            | none => rw [hnw.1 hw k h1 hke] at hwr; cases hwr
            | some v =>
              obtain ⟨a1, a2, a3, a4⟩ := hnw.2 v hw
              have hkv : ¬ v < k := fun h => by rw [h5 v a1 h] at a3; cases a3
              have hvk : ¬ k < v := fun h => by rw [a4 k h1 h] at hwr; cases hwr
              congr 1
              omega
          rw [hwk]
          have hl : last = k := by rw [hwk] at hlast; exact hlast
          have : al κ r j last f' (k + 1) = true := by
            cases f' with
            | zero => rfl
            | succ f' => show (if last < k + 1 then true else _) = true; rw [if_pos (by omega)]
          rw [this]; rfl
        · rw [if_neg hwr]
          have hwr : wr κ k r = false := by simpa using hwr
          have := ih f' (k + 1) (by omega) (by omega) (by omega) (by omega) (fun k' a b => by
            by_cases e : k' = k
            · rw [e]; exact hwr
            · exact h5 k' a (by omega))
          rw [show k + 1 - 1 = k from rfl] at this
          exact this
theorem m_can {τ : SS} {n i j : Nat} {A : Nat → Int32} {x : Int32} {l : Bool} (hc : KM τ n A) (hj : j < n) (h10 : τ 10 i = x) (h11 : τ 11 i = b2 l) {r : Nat} (hl : lwo τ (Bf τ n) r j = some i) : f_MO_canCarry (nI i) (nI j) τ = some (b2 (ro τ j r && nrb τ (Bf τ n) A r j 41 (i + 1) i && cwt τ x l j 41 (i + 1)), τ) := by
  have hn4 := hc.1.1.1
  obtain ⟨l1, l2, l3, l4⟩ := lwo_s j hl
  have hrt := hc.1.1.2 i (by omega)
  have hd : dN τ i = r := by unfold wr at l2; simp at l2; exact l2.2
  have hr : r < 10 := by rw [← hd]; exact hrt.2.2.2.1
  obtain ⟨e, w, e1, e2, e3, e4⟩ := m_next hc (show i < n by omega)
  rw [hd] at e4
  have hw40 : ∀ v, w = some v → v < 40 := fun v hv => by have := (e4.2 v hv).2.1; have := e3.2.1; omega
  have hje : j ≤ e := by
    apply Nat.not_lt.mp
    intro hlt
    have := l3 (e + 1) (by have := e3.1; omega) (by omega)
    rw [e3.2.2.1] at this
    cases this
  have hwj : ∀ v, w = some v → j ≤ v := fun v hv => by
    obtain ⟨a1, a2, a3, a4⟩ := e4.2 v hv
    apply Nat.not_lt.mp
    intro hlt
    rw [l4 v a1 hlt] at a3
    cases a3
  have hlast : w.getD e < n := by
    cases hw : w with
    | none => exact e3.2.1
    | some v => have := (e4.2 v hw).2.1; have := e3.2.1; show v < n; omega
  have h29 : b_MO_canCarry_29 (nI i) (nI j) (nI r) (oI w) (nI (w.getD e)) τ = some (b2 (ro τ j r && nrb τ (Bf τ n) A r j 41 (i + 1) i && cwt τ x l j 41 (i + 1)), τ) := by
    have hil : i + 1 ≤ w.getD e + 1 := by
      cases hw : w with
      | none => show i + 1 ≤ e + 1; omega
      | some v => have := hwj v hw; show i + 1 ≤ v + 1; omega
    have key : ∀ g : Bool, b_MO_canCarry_64 FU (nI i) (nI j) (nI r) (oI w) (nI (w.getD e)) (b2 g) (nI i + 1) τ = some (b2 (g && nrb τ (Bf τ n) A r j 41 (i + 1) i && cwt τ x l j 41 (i + 1)), τ) := by
      intro g
      rw [nI_1, m_64 hc l1 hj hr h10 h11 e2 e3.2.1 hlast hw40 FU (i + 1) g hil (by unfold FU; omega) 41 (by omega)]
      have := nrb_al (A := A) (j := j) e3 e4 rfl 41 41 (i + 1) (by omega) (by have := e3.1; omega) (by have := e3.2.1; omega) (by omega) (fun k' a b => by omega)
      rw [show i + 1 - 1 = i from rfl] at this
      rw [this, Bool.and_assoc g]
    unfold b_MO_canCarry_29
    rw [m_times hc.1 hj hr, Option.bind_some]
    dsimp only
    have htl := tm_le (κ := τ) (k := j) (r := r)
    by_cases ht : tm τ j r = 1
    · rw [if_pos (show nI (tm τ j r) = 1 by rw [ht]; rfl), tm_1.mp ht]
      cases hw : w with
      | none => rw [if_pos (by decide)]; rw [hw] at key; exact key true
      | some v =>
        have := hw40 v hw
        have hjv := hwj v hw
        rw [if_neg (show ¬ oI (some v) < 0 from nI_pos (by omega)), if_neg (show ¬ oI (some v) < nI j from nI_nlt hjv (by omega))]
        rw [hw] at key
        exact key true
    · rw [if_neg (show ¬ nI (tm τ j r) = 1 from nI_neq (b := 1) (by omega) (by omega) ht)]
      have : ro τ j r = false := by
        cases hh : ro τ j r with
        | false => rfl
        | true => exact absurd (tm_1.mpr hh) ht
      rw [this]
      exact key false
  unfold f_MO_canCarry
  rw [p_ld (by omega) (by decide), Option.bind_some, e1, Option.bind_some, hrt.2.2.1, hd]
  dsimp only
  cases hw : w with
  | none =>
    rw [if_pos (show oI none < 0 by decide), e2, Option.bind_some]
    rw [hw] at h29
    exact h29
  | some v =>
    have := hw40 v hw
    rw [if_neg (show ¬ oI (some v) < 0 from nI_pos (by omega))]
    rw [hw] at h29
    exact h29
