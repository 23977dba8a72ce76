-- ===== an instruction is written =====
def w4 (σ : SS) (i o : Nat) (x y z : Int32) : SS := su (su (su (su σ 0 i (nI o)) 1 i x) 2 i y) 3 i z
def w7 (σ : SS) (i o : Nat) (x y z : Int32) : SS := su (su (su (w4 σ i o x y z) 4 i (if kD o = 1 then x else -1)) 5 i (if kA o = 1 then y else -1)) 6 i (if kB o = 1 then z else -1)
theorem w4_fr {σ : SS} {i o : Nat} {x y z : Int32} : Fr [0, 1, 2, 3] σ (w4 σ i o x y z) := (((Fr.su (by simp)).tr (Fr.su (by simp))).tr (Fr.su (by simp))).tr (Fr.su (by simp))
theorem w7_fr4 {σ : SS} {i o : Nat} {x y z : Int32} : Fr [4, 5, 6] (w4 σ i o x y z) (w7 σ i o x y z) := ((Fr.su (by simp)).tr (Fr.su (by simp))).tr (Fr.su (by simp))
theorem w7_fr {σ : SS} {i o : Nat} {x y z : Int32} : Fr [0, 1, 2, 3, 4, 5, 6] σ (w7 σ i o x y z) := (w4_fr.mono (by simp)).tr (w7_fr4.mono (by simp))
theorem k_1 {k : Nat} (hk : k ≤ 3) : (nI k = (1 : Int32)) ↔ k = 1 := lt_eq (c := 1) (by omega) (by omega)
theorem c_writeI {σ : SS} {i o : Nat} {x y z : Int32} (hi : i < 40) (ho : o ≤ 11) : f_RC_write (nI i) (nI o) x y z σ = some (w7 σ i o x y z) := by
  obtain ⟨t0, t1, t2⟩ := tb_k ho
  obtain ⟨l0, l1, l2⟩ := k_le (o := o)
  unfold f_RC_write b_RC_write_49 w7 w4
  rw [p_sto hi (by decide), Option.bind_some, p_sto hi (by decide), Option.bind_some, p_sto hi (by decide), Option.bind_some, p_sto hi (by decide), Option.bind_some, t0, Option.bind_some, p_sto hi (by decide), Option.bind_some, p_sto hi (by decide), Option.bind_some, t1, Option.bind_some]
  simp only [k_1 l0, k_1 l1, k_1 l2, t2, p_sto hi (show 40 < 2 ^ 31 by decide), Option.bind_some]
  by_cases h0 : kD o = 1 <;> by_cases h1 : kA o = 1 <;> by_cases h2 : kB o = 1 <;> simp only [h0, h1, h2, if_true, if_false]
theorem m_putI {τ : SS} {i o : Nat} {x y z : Int32} (hi : i < 40) : f_MO_put (nI i) (nI o) x y z τ = some (su (w4 τ i o x y z) 22 0 0) := by
  unfold f_MO_put w4
  rw [p_sto hi (by decide), Option.bind_some, p_sto hi (by decide), Option.bind_some, p_sto hi (by decide), Option.bind_some, p_sto hi (by decide), Option.bind_some, p_sf, Option.bind_some]
theorem w4_eqc {σ τ : SS} {i o : Nat} {x y z : Int32} (h : Eqc τ σ) : Eqc (w4 τ i o x y z) (w4 σ i o x y z) := by
  intro k hk
  have e : ∀ (σ : SS) (k : Nat), k < 4 → w4 σ i o x y z k = fun j => if j = i then (if k = 0 then nI o else if k = 1 then x else if k = 2 then y else z) else σ k j := by
    intro σ k hk
    funext j
    unfold w4
    rcases (show k = 0 ∨ k = 1 ∨ k = 2 ∨ k = 3 by omega) with rfl | rfl | rfl | rfl
    · rw [p_suk (by omega), p_suk (by omega), p_suk (by omega), p_su, if_pos rfl]; rfl
    · rw [p_suk (by omega), p_suk (by omega), p_su, if_pos rfl, p_suk (by omega)]; rfl
    · rw [p_suk (by omega), p_su, if_pos rfl, p_suk (by omega), p_suk (by omega)]; rfl
    · rw [p_su, if_pos rfl, p_suk (by omega), p_suk (by omega), p_suk (by omega)]; rfl
  rw [e τ k hk, e σ k hk, h k hk]
theorem w4_n {σ : SS} {i o j : Nat} {x y z : Int32} (h : j ≠ i) (k : Nat) : w7 σ i o x y z k j = σ k j := by
  unfold w7 w4
  simp only [p_su]
  by_cases h6 : k = 6
  · subst h6; simp [h]
  · by_cases h5 : k = 5
    · subst h5; simp [h]
    · by_cases h4 : k = 4
      · subst h4; simp [h]
      · by_cases h3 : k = 3
        · subst h3; simp [h]
        · by_cases h2 : k = 2
          · subst h2; simp [h]
          · by_cases h1 : k = 1
            · subst h1; simp [h]
            · by_cases h0 : k = 0
              · subst h0; simp [h]
              · simp [h0, h1, h2, h3, h4, h5, h6]
theorem w7_v {σ : SS} {i o : Nat} {x y z : Int32} : w7 σ i o x y z 0 i = nI o ∧ w7 σ i o x y z 1 i = x ∧ w7 σ i o x y z 2 i = y ∧ w7 σ i o x y z 3 i = z ∧ w7 σ i o x y z 4 i = (if kD o = 1 then x else -1) ∧ w7 σ i o x y z 5 i = (if kA o = 1 then y else -1) ∧ w7 σ i o x y z 6 i = (if kB o = 1 then z else -1) := by
  unfold w7 w4
  simp [p_su]
theorem k_ops {o : Nat} (ho : o ≤ 11) : decide (o ≤ 6) = decide (kD o = 1) ∧ (!(o == 0 || o == 9 || o == 11)) = decide (kA o = 1) ∧ ((decide (2 ≤ o) && decide (o ≤ 5)) || o == 7) = decide (kB o = 1) := by
  rcases (show o = 0 ∨ o = 1 ∨ o = 2 ∨ o = 3 ∨ o = 4 ∨ o = 5 ∨ o = 6 ∨ o = 7 ∨ o = 8 ∨ o = 9 ∨ o = 10 ∨ o = 11 by omega) with rfl | rfl | rfl | rfl | rfl | rfl | rfl | rfl | rfl | rfl | rfl | rfl <;> decide
theorem CC_w7 {σ : SS} {i o n' : Nat} {x y z : Int32} (hn : n' ≤ 40) (h25 : σ 25 0 = nI n') (ho : o ≤ 11) (hf : fit o x y z = true) (hr : ∀ j, j < n' → j ≠ i → Rt σ j ∧ σ 4 j = (if wR σ j then σ 1 j else -1) ∧ σ 5 j = (if rA σ j then σ 2 j else -1) ∧ σ 6 j = (if rB σ j then σ 3 j else -1)) : CC (w7 σ i o x y z) n' := by
  obtain ⟨v0, v1, v2, v3, v4, v5, v6⟩ := w7_v (σ := σ) (i := i) (o := o) (x := x) (y := y) (z := z)
  obtain ⟨⟨d, d1, d2⟩, ha, b, b1, b2', b3⟩ := fit_rt ho hf
  have eo : oN (w7 σ i o x y z) i = o := by unfold oN; rw [v0, nI_clamp (by omega)]
  have ed : dN (w7 σ i o x y z) i = d := by unfold dN; rw [v1, d2, nI_clamp (by omega)]
  have eb : bN (w7 σ i o x y z) i = b := by unfold bN; rw [v3, b2', nI_clamp (by omega)]
  refine ⟨⟨hn, fun j hj => ?_⟩, by rw [w7_fr 25 (by simp)]; exact h25, fun j hj => ?_⟩
  · by_cases e : j = i
    · subst e
      unfold Rt
      rw [eo, ed, eb]
      refine ⟨v0, ho, by rw [v1]; exact d2, d1, fun h0 => ?_, by rw [v3]; exact b2', b1, b3⟩
      obtain ⟨a, a1, a2, a3⟩ := ha h0
      have ea : aN (w7 σ j o x y z) j = a := by unfold aN; rw [v2, a2, nI_clamp (by omega)]
      rw [ea]
      exact ⟨by rw [v2]; exact a2, a1, a3⟩
    · have := (hr j hj e).1
      unfold Rt oN dN aN bN at this ⊢
      rw [w4_n e, w4_n e, w4_n e, w4_n e]
      exact this
  · by_cases e : j = i
    · subst e
      obtain ⟨k1, k2, k3⟩ := k_ops ho
      unfold wR rA rB
      rw [eo, k1, k2, k3, v1, v2, v3, v4, v5, v6]
      simp only [decide_eq_true_eq]
      exact ⟨trivial, trivial, trivial⟩
    · have := (hr j hj e).2
      unfold wR rA rB oN at this ⊢
      rw [w4_n e, w4_n e, w4_n e, w4_n e, w4_n e, w4_n e, w4_n e]
      exact this
-- ===== counting stores =====
def cn2 : List Op → Nat
  | [] => 0
  | q :: l => (if q.1 = 2 then 1 else 0) + cn2 l
theorem cn2_app (b : List Op) : ∀ a, cn2 (a ++ b) = cn2 a + cn2 b := by
  intro a
  induction a with
  | nil => show cn2 b = 0 + cn2 b; omega
  | cons q a ih => show (if q.1 = 2 then 1 else 0) + cn2 (a ++ b) = (if q.1 = 2 then 1 else 0) + cn2 a + cn2 b; rw [ih]; omega
theorem cn2_0 : ∀ l : List Op, (∀ q ∈ l, q.1 ≠ 2) → cn2 l = 0 := by
  intro l
  induction l with
  | nil => intro _; rfl
  | cons q l ih =>
    intro h
    show (if q.1 = 2 then 1 else 0) + cn2 l = 0
    rw [if_neg (h q (by simp)), ih (fun q hq => h q (by simp [hq]))]
theorem cdl_cn {κ : SS} {pl : Nat → Int32} {T : Nat → En} {A : Nat → Int32} {n : Nat} (hD : Dn T n) (hc : Cn κ n) : ∀ m, m ≤ n → cn2 (cdl κ pl T A n m) = sm (wc κ T A n) m := by
  have htr := tr_all (P := fun q => q.1 ≠ 2) (pl := pl) hD hc (fun r _ => (by decide : (1 : Int32) ≠ 2)) (by decide) (fun j hj q hq => (own_g (hc.2 j hj) q hq).2)
  intro m
  induction m with
  | zero => intro _; rfl
  | succ m ih =>
    intro hm
    show cn2 (cdl κ pl T A n m ++ _) = sm (wc κ T A n) m + wc κ T A n m
    rw [cn2_app, ih (by omega)]
    congr 1
    unfold wc wnt blk
    cases hcar : car T n m with
    | true => simp [cn2]
    | false =>
      rw [if_neg (by simp), cn2_app, cn2_0 _ (htr m (by omega))]
      cases hw : wR κ m with
      | false => rfl
      | true =>
        unfold endl
        cases hb : bt (A m) (dN κ m) with
        | false => rfl
        | true => rfl
theorem m_cnt {τ : SS} {C : List Op} (hC : Cd τ C) (hl : C.length < 600) : ∀ (m c p : Nat), p ≤ C.length → C.length - p < m → c ≤ p → b_MO_stores_8 m (nI c) (nI p) τ = some (nI (c + cn2 (C.drop p)), τ) := by
  intro m
  induction m with
  | zero => intro c p _ h; omega
  | succ m ih =>
    intro c p hp hm hcp
    rw [b_MO_stores_8, hC.1]
    by_cases hpl : p < C.length
    · rw [if_neg (nI_ge hpl (by omega)), p_ld (by omega) (by decide), Option.bind_some, nI_1, nI_1]
      have hq := hC.2 p hpl
      rw [List.getElem?_eq_getElem hpl] at hq
      have hq : C[p] = (τ 12 p, τ 13 p) := Option.some.inj hq
      have hd : cn2 (C.drop p) = (if τ 12 p = 2 then 1 else 0) + cn2 (C.drop (p + 1)) := by
        rw [List.drop_eq_getElem_cons hpl, hq]; rfl
      by_cases h2 : τ 12 p = 2
      · rw [if_pos h2, ih (c + 1) (p + 1) (by omega) (by omega) (by omega), hd, if_pos h2, Nat.add_assoc]
      · rw [if_neg h2, ih c (p + 1) (by omega) (by omega) (by omega), hd, if_neg h2, Nat.zero_add]
    · rw [if_pos (nI_le (by omega) (by omega)), List.drop_of_length_le (by omega)]
      rfl
-- ===== the greatest need =====
theorem g_depth {σ τ : SS} {n : Nat} (h25 : σ 25 0 = nI n) (h21 : τ 21 0 = nI n) (hn : n ≤ 40) (hd : ∀ i, i < n → ∃ d, d ≤ 8 ∧ σ 13 i = nI d ∧ τ 9 i = nI d) : ∀ (m m' i g : Nat), i ≤ n → n - i < m → n - i < m' → g ≤ 8 → ∃ g' : Nat, b_CA_greatestNeed_4 m (nI g) (nI i) σ = some (nI g', σ) ∧ b_MO_depth_8 m' (nI g) (nI i) τ = some (nI g', τ) := by
  intro m
  induction m with
  | zero => intro m' i g _ h; omega
  | succ m ih =>
    intro m' i g hi hm hm' hg
    obtain ⟨m', rfl⟩ : ∃ k, m' = k + 1 := ⟨m' - 1, by omega⟩
    rw [b_CA_greatestNeed_4, b_MO_depth_8, g_count, Option.bind_some, h21]
    dsimp only
    rw [h25]
    by_cases hin : i < n
    · obtain ⟨d, d1, d2, d3⟩ := hd i hin
      rw [if_neg (nI_ge hin (by omega)), if_neg (nI_ge hin (by omega)), p_ld (by omega) (by decide), Option.bind_some, p_ld (by omega) (by decide), Option.bind_some, Option.bind_some, d2, d3, nI_1]
      by_cases hgd : g < d
      · rw [if_pos (nI_lt hgd (by omega)), if_neg (nI_ge hgd (by omega))]
        exact ih m' (i + 1) d (by omega) (by omega) (by omega) d1
      · rw [if_neg (nI_nlt (by omega) (by omega)), if_pos (nI_le (by omega) (by omega))]
        exact ih m' (i + 1) g (by omega) (by omega) (by omega) hg
    · rw [if_pos (nI_le (by omega) (by omega)), if_pos (nI_le (by omega) (by omega))]
      exact ⟨g, rfl, rfl⟩
