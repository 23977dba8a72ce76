-- ===== what is wanted =====
theorem bt_rd {κ : SS} {k r : Nat} (hrt : Rt κ k) (hr : r < 10) : bt (rdS κ k) r = rd1 κ k r := by
  unfold rdS rd1
  rw [b_or]
  have h1 : bt (if rA κ k then sb (aN κ k) else 0) r = (rA κ k && aN κ k == r) := by
    cases h : rA κ k with
    | false => exact b_0 r
    | true =>
      have := (rA_lt hrt h).2
      rw [if_pos rfl, bt_sb (by omega) (by omega), Bool.true_and]
      by_cases e : r = aN κ k
      · rw [decide_eq_true e, e]; simp
      · rw [decide_eq_false e, bnq (fun h => e h.symm)]
  have h2 : bt (if rB κ k then sb (bN κ k) else 0) r = (rB κ k && bN κ k == r) := by
    cases h : rB κ k with
    | false => exact b_0 r
    | true =>
      have := (rB_lt hrt h).2
      rw [if_pos rfl, bt_sb (by omega) (by omega), Bool.true_and]
      by_cases e : r = bN κ k
      · rw [decide_eq_true e, e]; simp
      · rw [decide_eq_false e, bnq (fun h => e h.symm)]
  rw [h1, h2]
theorem bt_wr {κ : SS} {k r : Nat} (hrt : Rt κ k) (hr : r < 10) : bt (wrS κ k ^^^ (-1)) r = !wr κ k r := by
  unfold wrS wr
  rw [b_xor, b_m1 r (by omega)]
  cases h : wR κ k with
  | false => rw [if_neg (by simp), b_0]; rfl
  | true =>
    have := hrt.2.2.2.1
    rw [if_pos rfl, bt_sb (by omega) (by omega), Bool.true_and]
    by_cases e : r = dN κ k
    · rw [decide_eq_true e, e]; simp
    · rw [decide_eq_false e, bnq (fun h => e h.symm)]; rfl
theorem bt_FF {κ : SS} {n k r : Nat} {L : Nat → Int32} (hrt : Rt κ k) (hr : r < 10) : bt (FF κ n L k) r = (rd1 κ k r || (bt (aft κ n L k) r && !wr κ k r)) := by
  unfold FF
  rw [b_or, b_and, bt_rd hrt hr, bt_wr hrt hr]
theorem bg_tg {κ : SS} {i k : Nat} (h : tg κ k i = true) : ∀ m, k < m → bg κ m i = true := by
  intro m
  induction m with
  | zero => intro h; omega
  | succ m ih =>
    intro hm
    show (bg κ m i || tg κ m i) = true
    by_cases e : k = m
    · subst e; rw [h]; simp
    · rw [ih (by omega)]; rfl
theorem aft_next {κ : SS} {n k r : Nat} {L : Nat → Int32} (hc : Cn κ n) (hf : Fix κ n L) (hB : Bf κ n (k + 1) = false) (hr : r < 10) : bt (aft κ n L k) r = (rd1 κ (k + 1) r || (bt (aft κ n L (k + 1)) r && !wr κ (k + 1) r)) := by
  unfold Bf at hB
  simp only [Bool.or_eq_false_iff, decide_eq_false_iff_not] at hB
  have hk : k + 1 < n := by omega
  have ht : tg κ k (k + 1) = false := by
    cases h : tg κ k (k + 1) with
    | false => rfl
    | true => rw [bg_tg h n (by omega)] at hB; cases hB.2
  unfold tg at ht
  simp only [Bool.or_eq_false_iff] at ht
  have h3 : (oN κ k == 9) = false ∧ (oN κ k == 10) = false ∧ (oN κ k == 11) = false := by
    have := ht.2
    cases h9 : oN κ k == 9 <;> cases h10 : oN κ k == 10 <;> cases h11 : oN κ k == 11 <;> simp [h9, h10, h11] at this ⊢
  have h9 : oN κ k ≠ 9 := fun e => by rw [e] at h3; simp at h3
  have h10 : oN κ k ≠ 10 := fun e => by rw [e] at h3; simp at h3
  have h11 : oN κ k ≠ 11 := fun e => by rw [e] at h3; simp at h3
  have ha : aft κ n L k = L (k + 1) := by
    unfold aft lat
    rw [if_neg h11, if_neg h9, if_neg h10, if_pos hk]
  rw [ha, hf.1 (k + 1) hk, bt_FF (hc.2 _ hk) hr]
def anr (κ : SS) (r : Nat) : Nat → Nat → Bool
  | 0, _ => false
  | c + 1, k => rd1 κ k r || anr κ r c (k + 1)
theorem wan1 {κ : SS} {n r : Nat} {L : Nat → Int32} (hc : Cn κ n) (hf : Fix κ n L) (hr : r < 10) : ∀ c k, (∀ k', k < k' → k' ≤ k + c → Bf κ n k' = false ∧ wr κ k' r = false) → bt (aft κ n L k) r = (anr κ r c (k + 1) || bt (aft κ n L (k + c)) r) := by
  intro c
  induction c with
  | zero => intro k _; rfl
  | succ c ih =>
    intro k h
    obtain ⟨h1, h2⟩ := h (k + 1) (by omega) (by omega)
    rw [aft_next hc hf h1 hr, h2, ih (k + 1) (fun k' a b => h k' (by omega) (by omega))]
    show _ = (rd1 κ (k + 1) r || anr κ r c (k + 1 + 1) || bt (aft κ n L (k + (c + 1))) r)
    rw [show k + (c + 1) = k + 1 + c by omega, Bool.or_assoc]
    simp
theorem wan2 {κ : SS} {n r : Nat} {L : Nat → Int32} (hc : Cn κ n) (hf : Fix κ n L) (hr : r < 10) : ∀ c k, (∀ k', k < k' → k' ≤ k + (c + 1) → Bf κ n k' = false) → (∀ k', k < k' → k' < k + (c + 1) → wr κ k' r = false) → wr κ (k + (c + 1)) r = true → bt (aft κ n L k) r = anr κ r (c + 1) (k + 1) := by
  intro c
  induction c with
  | zero =>
    intro k h1 h2 h3
    rw [aft_next hc hf (h1 (k + 1) (by omega) (by omega)) hr, h3]
    show _ = (rd1 κ (k + 1) r || false)
    simp
  | succ c ih =>
    intro k h1 h2 h3
    rw [aft_next hc hf (h1 (k + 1) (by omega) (by omega)) hr, h2 (k + 1) (by omega) (by omega), ih (k + 1) (fun k' a b => h1 k' (by omega) (by omega)) (fun k' a b => h2 k' (by omega) (by omega)) (by rw [show k + 1 + (c + 1) = k + (c + 1 + 1) by omega]; exact h3)]
    show _ = (rd1 κ (k + 1) r || anr κ r (c + 1) (k + 1 + 1))
    simp
theorem Eqc.anq {κ κ' : SS} (h : Eqc κ κ') (r : Nat) : ∀ c k, anr κ r c k = anr κ' r c k := by
  intro c
  induction c with
  | zero => intro k; rfl
  | succ c ih => intro k; show (rd1 κ k r || anr κ r c (k + 1)) = (rd1 κ' k r || anr κ' r c (k + 1)); rw [ih, h.rdq]
theorem Eqc.nwq {κ κ' : SS} (h : Eqc κ κ') : NW κ = NW κ' := by funext r i e w; unfold NW; rw [h.wrq]
theorem m_w54 {τ : SS} {n j last : Nat} (hc : CM τ n) (hj : j < n) (hl : last < n) : ∀ (m k : Nat) (g : Bool), k ≤ last + 1 → last + 1 - k < m → b_MO_isWanted_54 m (nI j) (nI last) (b2 g) (nI k) τ = some (b2 (g || anr τ (dN τ j) (last + 1 - k) k), τ) := by
  have hn4 := hc.1.1
  have hrt := hc.1.2 j hj
  intro m
  induction m with
  | zero => intro k g _ h; omega
  | succ m ih =>
    intro k g hk hm
    rw [b_MO_isWanted_54]
    by_cases hlk : last < k
    · rw [if_pos (nI_lt hlk (by omega)), b2_rz, show last + 1 - k = 0 by omega]
      show _ = some (b2 (g || false), τ)
      rw [Bool.or_false]
    · rw [if_neg (nI_nlt (by omega) (by omega))]
      have hr : anr τ (dN τ j) (last + 1 - k) k = (rd1 τ k (dN τ j) || anr τ (dN τ j) (last + 1 - (k + 1)) (k + 1)) := by
        rw [show last + 1 - k = (last + 1 - (k + 1)) + 1 by omega]; rfl
      rw [hr]
      simp only [b2_z]
      have h1 := ih (k + 1) true (by omega) (by omega)
      have h0 := ih (k + 1) false (by omega) (by omega)
      rw [b2_t] at h1
      rw [b2_f] at h0
      cases g with
      | true => rw [if_neg (by simp), nI_1, h1]; simp
      | false =>
        rw [if_pos rfl, p_ld (by omega) (by decide), Option.bind_some, hrt.2.2.1, m_times hc (by omega) hrt.2.2.2.1, Option.bind_some]
        dsimp only
        rw [nI_1]
        have htm := tm_le (κ := τ) (k := k) (r := dN τ j)
        cases hrd : rd1 τ k (dN τ j) with
        | false =>
          rw [tm_0.mpr hrd, if_pos (show nI 0 ≤ 0 by decide), h0]; simp
        | true =>
          have : tm τ k (dN τ j) ≠ 0 := fun e => by rw [tm_0.mp e] at hrd; cases hrd
          rw [if_neg (show ¬ nI (tm τ k (dN τ j)) ≤ 0 from nI_ge (a := 0) (by omega) (by omega)), h1]; simp
theorem m_wanted {κ τ : SS} {n D j : Nat} {L : Nat → Int32} (hl : LM κ τ n (aft κ n L) D) (hf : Fix κ n L) (hj : j < n) : f_MO_isWanted (nI j) τ = some (b2 (bt (aft κ n L j) (dN κ j)), τ) := by
  have hK := hl.2.1.1
  have hc := hK.1
  have hn4 := hc.1.1
  have hrt := hc.1.2 j hj
  have hcn : Cn κ n := Eqc.cn (fun k hk => (hl.1 k hk).symm) hc.1
  obtain ⟨e, w, a1, a2, a3, a4⟩ := m_next hK hj
  obtain ⟨b1, b2', b3, b4⟩ := a3
  rw [hl.1.bfq] at b4
  have hd : dN κ j < 10 := by rw [← hl.1.d]; exact hrt.2.2.2.1
  have hanr : ∀ c k, anr τ (dN τ j) c k = anr κ (dN κ j) c k := fun c k => by rw [hl.1.anq, hl.1.d]
  have a4 : NW κ (dN κ j) j e w := by rw [hl.1.nwq, hl.1.d] at a4; exact a4
  unfold f_MO_isWanted
  rw [a1, Option.bind_some]
  dsimp only
  cases w with
  | none =>
    rw [if_pos (show oI none < 0 by decide), a2, Option.bind_some]
    dsimp only
    unfold b_MO_isWanted_19
    have hFU : 50 < FU := by unfold FU; omega
    revert hFU
    generalize FU = F
    intro hFU
    rw [if_neg (show ¬ (0 : Int32) ≤ oI none by decide), m_behind hc b2', Option.bind_some]
    dsimp only
    rw [p_ld (by omega) (by decide), Option.bind_some, hrt.2.2.1, sh_bit (by have := hrt.2.2.2.1; omega), hK.2.2 e, nI_1]
    simp only [b2_o]
    have hmain : ∀ g : Bool, b_MO_isWanted_54 F (nI j) (nI e) (b2 g) (nI (j + 1)) τ = some (b2 (g || anr κ (dN κ j) (e - j) (j + 1)), τ) := by
      intro g
      rw [m_w54 hc hj b2' F (j + 1) g (by omega) (by omega), hanr, show e + 1 - (j + 1) = e - j by omega]
    have hw := wan1 hcn hf hd (e - j) j (fun k' x y => ⟨b4 k' x (by omega), a4.1 rfl k' x (by omega)⟩)
    rw [show j + (e - j) = e by omega] at hw
    rw [hw, hl.1.d]
    cases hb : bt (aft κ n L e) (dN κ j) with
    | true => rw [if_pos rfl]; have := hmain true; rw [b2_t] at this; rw [this]; simp
    | false => rw [if_neg (by simp)]; have := hmain false; rw [b2_f] at this; rw [this]; simp
  | some v =>
    obtain ⟨v1, v2, v3, v4⟩ := a4.2 v rfl
    rw [show oI (some v) = nI v from rfl]
    rw [if_neg (nI_pos (by omega))]
    unfold b_MO_isWanted_19
    have hFU : 50 < FU := by unfold FU; omega
    revert hFU
    generalize FU = F
    intro hFU
    rw [if_pos (show (0 : Int32) ≤ nI v from nI_le (a := 0) (by omega) (by omega)), nI_1]
    have := m_w54 hc hj (show v < n by omega) F (j + 1) false (by omega) (by omega)
    rw [b2_f] at this
    rw [this, hanr, show v + 1 - (j + 1) = (v - j - 1) + 1 by omega]
    rw [wan2 hcn hf hd (v - j - 1) j (fun k' x y => b4 k' x (by omega)) (fun k' x y => v4 k' x (by omega)) (by rw [show j + (v - j - 1 + 1) = v by omega]; exact v3)]
    simp
