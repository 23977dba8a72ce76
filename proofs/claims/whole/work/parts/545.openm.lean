-- ===== the reference writes =====
/-- W is what is written -/
def Cd (τ : SS) (W : List Op) : Prop := τ 23 0 = nI W.length ∧ ∀ p, p < W.length → W[p]? = some (τ 12 p, τ 13 p)
theorem m_emit {τ : SS} {W : List Op} {x y : Int32} (h : Cd τ W) (hl : W.length < 600) : ∃ τ' : SS, f_MO_emit x y τ = some τ' ∧ Fr [12, 13, 23] τ τ' ∧ Cd τ' (W ++ [(x, y)]) := by
  unfold f_MO_emit
  rw [h.1, p_sto hl (by decide), Option.bind_some, p_suk (show (23 : Nat) ≠ 12 by omega), h.1, p_sto hl (by decide), Option.bind_some, p_sf, Option.bind_some, p_suk (show (23 : Nat) ≠ 13 by omega), p_suk (show (23 : Nat) ≠ 12 by omega), h.1, nI_1]
  refine ⟨_, rfl, ((Fr.su (by simp)).tr (Fr.su (by simp))).tr (Fr.su (by simp)), ?_, fun p hp => ?_⟩
  · rw [p_sus, List.length_append]; rfl
  · rw [List.length_append] at hp
    have hp : p < W.length + 1 := hp
    rw [p_suk (show (12 : Nat) ≠ 23 by omega), p_suk (show (12 : Nat) ≠ 13 by omega), p_suk (show (13 : Nat) ≠ 23 by omega)]
    by_cases e : p = W.length
    · rw [e, p_sus, p_sus, List.getElem?_append_right (Nat.le_refl _), Nat.sub_self]; rfl
    · rw [p_sun e, p_sun e, p_suk (show (13 : Nat) ≠ 12 by omega), List.getElem?_append_left (by omega)]
      exact h.2 p (by omega)
/-- the reference with carrying settled -/
def LM (κ τ : SS) (n : Nat) (A : Nat → Int32) (D : Nat) : Prop := Eqc τ κ ∧ SgM κ τ n A D n ∧ D ≤ 8
theorem LM.fr {κ τ τ' : SS} {n D : Nat} {A : Nat → Int32} {S : List Nat} (h : Fr S τ τ') (hs : ∀ k, k < 12 ∨ k = 20 ∨ k = 21 → k ∉ S) (hl : LM κ τ n A D) : LM κ τ' n A D := by
  obtain ⟨he, ⟨h1, h2, h3, h4⟩, hD⟩ := hl
  refine ⟨fun k hk => (h k (hs k (by omega))).trans (he k hk), ⟨h1.fr h (fun k hk => hs k (by omega)), by rw [h 20 (hs 20 (by omega))]; exact h2, fun i hi => ?_, fun i hi => ?_⟩, hD⟩
  · rw [h 7 (hs 7 (by omega)), h 8 (hs 8 (by omega)), h 9 (hs 9 (by omega)), h 10 (hs 10 (by omega)), h 11 (hs 11 (by omega))]; exact h3 i hi
  · rw [h 6 (hs 6 (by omega))]; exact h4 i hi
theorem m_emitOp {κ τ : SS} {n D j : Nat} {A : Nat → Int32} {W : List Op} (hl : LM κ τ n A D) (hj : j < n) (h0 : oN κ j ≠ 0) (h : Cd τ W) (hw : W.length < 600) : ∃ τ' : SS, f_MO_emitOperation (nI j) τ = some τ' ∧ Fr [12, 13, 23] τ τ' ∧ Cd τ' (W ++ own κ nI j) := by
  have hn4 := hl.2.1.1.1.1.1
  obtain ⟨r1, r2, r3, r4, r5, r6, r7, r8⟩ := hl.2.1.1.1.1.2 j hj
  rw [← hl.1.o] at h0
  have e2 : τ 2 j = nI (aN κ j) := by rw [(r5 h0).1, hl.1.a]
  have e3 : τ 3 j = nI (bN κ j) := by rw [r6, hl.1.b]
  unfold own onm
  rw [← hl.1.o]
  have go : ∀ (x y : Int32), f_MO_emitOperation (nI j) τ = f_MO_emit x y τ → (∃ τ' : SS, f_MO_emitOperation (nI j) τ = some τ' ∧ Fr [12, 13, 23] τ τ' ∧ Cd τ' (W ++ [(x, y)])) := by
    intro x y hh
    rw [hh]
    exact m_emit h hw
  have hb : ∀ x y : Int32, ((f_MO_emit x y τ).bind fun σ3 => some σ3) = f_MO_emit x y τ := by
    intro x y
    obtain ⟨τ', a, -⟩ := m_emit (x := x) (y := y) h hw
    rw [a]; rfl
  rcases (show oN τ j = 1 ∨ oN τ j = 2 ∨ oN τ j = 3 ∨ oN τ j = 4 ∨ oN τ j = 5 ∨ oN τ j = 6 ∨ oN τ j = 7 ∨ oN τ j = 8 ∨ oN τ j = 9 ∨ oN τ j = 10 ∨ oN τ j = 11 by omega) with ho | ho | ho | ho | ho | ho | ho | ho | ho | ho | ho
  · rw [ho]
    refine ⟨τ, ?_, Fr.rf, ?_⟩
    · unfold f_MO_emitOperation b_MO_emitOperation_37 b_MO_emitOperation_63 b_MO_emitOperation_81
      rw [p_ld (by omega) (by decide), Option.bind_some, r1, ho]
      rfl
    · rw [if_pos rfl, List.append_nil]; exact h
  all_goals
    rw [ho]
    refine go _ _ ?_
    unfold f_MO_emitOperation b_MO_emitOperation_37 b_MO_emitOperation_63 b_MO_emitOperation_81
    rw [p_ld (by omega) (by decide), Option.bind_some, r1, ho]
  · exact hb _ _
  · exact hb _ _
  · exact hb _ _
  · exact hb _ _
  · exact hb _ _
  · exact hb _ _
  · exact hb _ _
  · show (ld (τ 2) 40 (nI j)).bind _ = _
    rw [p_ld (by omega) (by decide), Option.bind_some, e2]
    exact hb _ _
  · show (ld (τ 3) 40 (nI j)).bind _ = _
    rw [p_ld (by omega) (by decide), Option.bind_some, e3]
    exact hb _ _
  · exact hb _ _
-- ===== the todo stack, top first =====
def Td (τ : SS) : List Nat → Prop
  | [] => True
  | x :: S => τ 15 S.length = nI x ∧ Td τ S
theorem Td_su {τ : SS} {k : Nat} {v : Int32} : ∀ S : List Nat, S.length ≤ k → Td τ S → Td (su τ 15 k v) S := by
  intro S
  induction S with
  | nil => intro _ _; trivial
  | cons x S ih =>
    intro hk h
    have hk : S.length + 1 ≤ k := hk
    exact ⟨by rw [p_sun (by omega)]; exact h.1, ih (by omega) h.2⟩
theorem Td_push {τ : SS} {S : List Nat} {x : Nat} (h : Td τ S) : Td (su τ 15 S.length (nI x)) (x :: S) := ⟨p_sus _ _ _ _, Td_su S (Nat.le_refl _) h⟩
theorem Td_fr {τ τ' : SS} {F : List Nat} (hf : Fr F τ τ') (hF : 15 ∉ F) : ∀ S : List Nat, Td τ S → Td τ' S := by
  intro S
  induction S with
  | nil => intro _; trivial
  | cons x S ih => intro h; exact ⟨by rw [hf 15 hF]; exact h.1, ih h.2⟩
def thi (r : Nat) : Option Nat → Nat
  | none => 100 + r
  | some i => i
def opn (κ : SS) (T : Nat → En) (t : Nat) : List Nat := (if rA κ t then [if tb1 κ T t then thi (bN κ t) (T t).2.1 else thi (aN κ t) (T t).1] else []) ++ ((if rB κ t then [if tb1 κ T t then thi (aN κ t) (T t).1 else thi (bN κ t) (T t).2.1] else []) ++ ((if nsw κ T t then [200] else []) ++ [300 + t]))
/-- one is pushed -/
theorem m_push {τ : SS} {S : List Nat} {x : Nat} {X : Int32} (h : Td τ S) (hS : S.length < 200) (hX : X = nI x) : ∃ τ' : SS, sto τ 15 200 (nI S.length) X = some τ' ∧ Fr [15] τ τ' ∧ Td τ' (x :: S) := by
  rw [p_sto hS (by decide), hX]
  exact ⟨_, rfl, Fr.su (by simp), Td_push h⟩
theorem m_open {κ τ : SS} {n D t : Nat} {A : Nat → Int32} {S : List Nat} (hl : LM κ τ n A D) (ht : t < n) (h0 : oN κ t ≠ 0) (hS : Td τ S) (hS4 : S.length + (opn κ (tT κ (Bf κ n) A D n) t).length ≤ 200) : ∃ τ' : SS, f_MO_open (nI t) (nI S.length) τ = some (nI (opn κ (tT κ (Bf κ n) A D n) t ++ S).length, τ') ∧ Fr [15] τ τ' ∧ Td τ' (opn κ (tT κ (Bf κ n) A D n) t ++ S) := by
  have hn4 := hl.2.1.1.1.1.1
  have hc := hl.2.1.1.1
  have hR := hl.2.1.2.2.1
  have hrt := hc.1.2 t ht
  have hDn : Dn (tT κ (Bf κ n) A D n) n := tT_Dn
  have hnb := nb (κ := κ) (B := Bf κ n) (A := A) hl.2.2 n
  obtain ⟨r1, r2, r3, r4, r5, r6, r7, r8⟩ := hrt
  rw [← hl.1.o] at h0
  have e2 : τ 2 t = nI (aN κ t) := by rw [(r5 h0).1, hl.1.a]
  have e3 : τ 3 t = nI (bN κ t) := by rw [r6, hl.1.b]
  have ha := (r5 h0).2.1
  rw [hl.1.a] at ha
  rw [hl.1.b] at r7
  have hlA : ∀ i, ((tT κ (Bf κ n) A D n) t).1 = some i → i < n := fun i hi => by have := (hDn t ht).1 i hi; omega
  have hlB : ∀ i, ((tT κ (Bf κ n) A D n) t).2.1 = some i → i < n := fun i hi => by have := (hDn t ht).2 i hi; omega
  have h100 : ∀ k : Nat, (100 : Int32) + nI k = nI (100 + k) := fun k => nI_add 100 k
  have s1 : f_MO_open (nI t) (nI S.length) τ = b_MO_open_29 (nI t) (nI S.length) (nI (thi (aN κ t) ((tT κ (Bf κ n) A D n) t).1)) τ := by
    unfold f_MO_open
    rw [p_ld (by omega) (by decide), Option.bind_some, (hR t ht).1]
    cases hq : ((tT κ (Bf κ n) A D n) t).1 with
    | none => rw [if_pos (show oI none < 0 by decide), p_ld (by omega) (by decide), Option.bind_some, e2, h100]; rfl
    | some i => rw [if_neg (show ¬ oI (some i) < 0 from nI_pos (by have := hlA i hq; omega)), Option.bind_some]; rfl
  have s2 : ∀ X : Int32, b_MO_open_29 (nI t) (nI S.length) X τ = b_MO_open_58 (nI t) (nI S.length) X (nI (thi (bN κ t) ((tT κ (Bf κ n) A D n) t).2.1)) τ := by
    intro X
    unfold b_MO_open_29
    rw [p_ld (by omega) (by decide), Option.bind_some, (hR t ht).2.1]
    cases hq : ((tT κ (Bf κ n) A D n) t).2.1 with
    | none => rw [if_pos (show oI none < 0 by decide), p_ld (by omega) (by decide), Option.bind_some, e3, h100]; rfl
    | some i => rw [if_neg (show ¬ oI (some i) < 0 from nI_pos (by have := hlB i hq; omega)), Option.bind_some]; rfl
  have s3 : ∀ X Y : Int32, b_MO_open_58 (nI t) (nI S.length) X Y τ = b_MO_open_84 (nI t) (nI S.length) X Y (nI (ndT (tT κ (Bf κ n) A D n) ((tT κ (Bf κ n) A D n) t).1)) τ := by
    intro X Y
    unfold b_MO_open_58
    rw [p_ld (by omega) (by decide), Option.bind_some, (hR t ht).1]
    cases hq : ((tT κ (Bf κ n) A D n) t).1 with
    | none => rw [if_pos (show oI none < 0 by decide)]; rfl
    | some i =>
      rw [if_neg (show ¬ oI (some i) < 0 from nI_pos (by have := hlA i hq; omega)), Option.bind_some, show oI (some i) = nI i from rfl, p_ld (by have := hlA i hq; omega) (by decide), Option.bind_some, (hR i (hlA i hq)).2.2.1]; rfl
  have s4 : ∀ (X Y Z : Int32), b_MO_open_84 (nI t) (nI S.length) X Y Z τ = b_MO_open_110 (nI t) (nI S.length) X Y Z (nI (ndT (tT κ (Bf κ n) A D n) ((tT κ (Bf κ n) A D n) t).2.1)) τ := by
    intro X Y Z
    unfold b_MO_open_84
    rw [p_ld (by omega) (by decide), Option.bind_some, (hR t ht).2.1]
    cases hq : ((tT κ (Bf κ n) A D n) t).2.1 with
    | none => rw [if_pos (show oI none < 0 by decide)]; rfl
    | some i =>
      rw [if_neg (show ¬ oI (some i) < 0 from nI_pos (by have := hlB i hq; omega)), Option.bind_some, show oI (some i) = nI i from rfl, p_ld (by have := hlB i hq; omega) (by decide), Option.bind_some, (hR i (hlB i hq)).2.2.1]; rfl
  have h1 := ndT_le hnb ((tT κ (Bf κ n) A D n) t).1
  have h2 := ndT_le hnb ((tT κ (Bf κ n) A D n) t).2.1
  have s5 : ∀ (X Y : Int32), b_MO_open_110 (nI t) (nI S.length) X Y (nI (ndT (tT κ (Bf κ n) A D n) ((tT κ (Bf κ n) A D n) t).1)) (nI (ndT (tT κ (Bf κ n) A D n) ((tT κ (Bf κ n) A D n) t).2.1)) τ = b_MO_open_132 (nI t) (nI S.length) X Y (b2 (tb1 κ (tT κ (Bf κ n) A D n) t)) τ := by
    intro X Y
    unfold b_MO_open_110 tb1
    rw [m_rB (by omega) (hc.1.2 t ht), Option.bind_some]
    simp only [b2_z]
    rw [hl.1.rBq]
    cases hb : rB κ t with
    | false => rw [if_pos rfl]; rfl
    | true =>
      rw [if_neg (by simp), Bool.true_and]
      by_cases hlt : ndT (tT κ (Bf κ n) A D n) ((tT κ (Bf κ n) A D n) t).1 < ndT (tT κ (Bf κ n) A D n) ((tT κ (Bf κ n) A D n) t).2.1
      · rw [if_neg (nI_ge hlt (by omega)), decide_eq_true hlt]; rfl
      · rw [if_pos (nI_le (by omega) (by omega)), decide_eq_false hlt]; rfl
  rw [s1, s2, s3, s4, s5]
  -- the four pushes
  have q1 : ∀ (k : Nat) (τ0 : SS) (S0 : List Nat), Fr [15] τ τ0 → Td τ0 S0 → S0.length + (if rA κ t then 1 else 0) ≤ 200 → ∃ τ' : SS, b_MO_open_228 (nI t) (nI S0.length) (nI (thi (aN κ t) ((tT κ (Bf κ n) A D n) t).1)) (nI (thi (bN κ t) ((tT κ (Bf κ n) A D n) t).2.1)) (b2 (tb1 κ (tT κ (Bf κ n) A D n) t)) τ0 = some (nI ((if rA κ t then [if tb1 κ (tT κ (Bf κ n) A D n) t then thi (bN κ t) ((tT κ (Bf κ n) A D n) t).2.1 else thi (aN κ t) ((tT κ (Bf κ n) A D n) t).1] else []) ++ S0).length, τ') ∧ Fr [15] τ0 τ' ∧ Td τ' ((if rA κ t then [if tb1 κ (tT κ (Bf κ n) A D n) t then thi (bN κ t) ((tT κ (Bf κ n) A D n) t).2.1 else thi (aN κ t) ((tT κ (Bf κ n) A D n) t).1] else []) ++ S0) := by
    intro _ τ0 S0 hf0 hT0 hl0
    have he0 : Eqc τ0 τ := hf0.eqc (fun k hk => by simp; omega)
    unfold b_MO_open_228
    rw [m_rA (by omega) (he0.rt (hc.1.2 t ht)), Option.bind_some]
    simp only [b2_z]
    rw [he0.rAq, hl.1.rAq]
    cases hra : rA κ t with
    | false => rw [if_pos rfl]; exact ⟨τ0, rfl, Fr.rf, hT0⟩
    | true =>
      rw [hra] at hl0
      have hl0 : S0.length + 1 ≤ 200 := hl0
      rw [if_neg (by simp), nI_1]
      cases tb1 κ (tT κ (Bf κ n) A D n) t with
      | false =>
        rw [if_pos rfl]
        obtain ⟨τ', a1, a2, a3⟩ := m_push (x := thi (aN κ t) ((tT κ (Bf κ n) A D n) t).1) hT0 (by omega) rfl
        rw [a1]
        exact ⟨τ', rfl, a2, a3⟩
      | true =>
        rw [if_neg (by simp)]
        obtain ⟨τ', a1, a2, a3⟩ := m_push (x := thi (bN κ t) ((tT κ (Bf κ n) A D n) t).2.1) hT0 (by omega) rfl
        rw [a1]
        exact ⟨τ', rfl, a2, a3⟩
  have q2 : ∀ (τ0 : SS) (S0 : List Nat), Fr [15] τ τ0 → Td τ0 S0 → S0.length + (if rA κ t then 1 else 0) + (if rB κ t then 1 else 0) ≤ 200 → ∃ τ' : SS, b_MO_open_198 (nI t) (nI S0.length) (nI (thi (aN κ t) ((tT κ (Bf κ n) A D n) t).1)) (nI (thi (bN κ t) ((tT κ (Bf κ n) A D n) t).2.1)) (b2 (tb1 κ (tT κ (Bf κ n) A D n) t)) τ0 = some (nI ((if rA κ t then [if tb1 κ (tT κ (Bf κ n) A D n) t then thi (bN κ t) ((tT κ (Bf κ n) A D n) t).2.1 else thi (aN κ t) ((tT κ (Bf κ n) A D n) t).1] else []) ++ ((if rB κ t then [if tb1 κ (tT κ (Bf κ n) A D n) t then thi (aN κ t) ((tT κ (Bf κ n) A D n) t).1 else thi (bN κ t) ((tT κ (Bf κ n) A D n) t).2.1] else []) ++ S0)).length, τ') ∧ Fr [15] τ0 τ' ∧ Td τ' ((if rA κ t then [if tb1 κ (tT κ (Bf κ n) A D n) t then thi (bN κ t) ((tT κ (Bf κ n) A D n) t).2.1 else thi (aN κ t) ((tT κ (Bf κ n) A D n) t).1] else []) ++ ((if rB κ t then [if tb1 κ (tT κ (Bf κ n) A D n) t then thi (aN κ t) ((tT κ (Bf κ n) A D n) t).1 else thi (bN κ t) ((tT κ (Bf κ n) A D n) t).2.1] else []) ++ S0)) := by
    intro τ0 S0 hf0 hT0 hl0
    have he0 : Eqc τ0 τ := hf0.eqc (fun k hk => by simp; omega)
    unfold b_MO_open_198
    rw [m_rB (by omega) (he0.rt (hc.1.2 t ht)), Option.bind_some]
    simp only [b2_z]
    rw [he0.rBq, hl.1.rBq]
    cases hrb : rB κ t with
    | false =>
      rw [hrb] at hl0
      rw [if_pos rfl]
      exact q1 0 τ0 S0 hf0 hT0 hl0
    | true =>
      rw [hrb] at hl0
      have hl0 : S0.length + (if rA κ t then 1 else 0) + 1 ≤ 200 := hl0
      rw [if_neg (by simp), nI_1]
      have hq1 := q1
      cases htb : tb1 κ (tT κ (Bf κ n) A D n) t with
      | false =>
        rw [if_pos rfl]
        obtain ⟨τ', a1, a2, a3⟩ := m_push (x := thi (bN κ t) ((tT κ (Bf κ n) A D n) t).2.1) hT0 (by omega) rfl
        rw [a1, Option.bind_some]
        obtain ⟨τ2, d1, d2, d3⟩ := q1 0 τ' _ (hf0.tr a2) a3 (by show S0.length + 1 + _ ≤ 200; omega)
        rw [htb] at d1 d3
        exact ⟨τ2, d1, a2.tr d2, d3⟩
      | true =>
        rw [if_neg (by simp)]
        obtain ⟨τ', a1, a2, a3⟩ := m_push (x := thi (aN κ t) ((tT κ (Bf κ n) A D n) t).1) hT0 (by omega) rfl
        rw [a1, Option.bind_some]
        obtain ⟨τ2, d1, d2, d3⟩ := q1 0 τ' _ (hf0.tr a2) a3 (by show S0.length + 1 + _ ≤ 200; omega)
        rw [htb] at d1 d3
        exact ⟨τ2, d1, a2.tr d2, d3⟩
  have hlen : (opn κ (tT κ (Bf κ n) A D n) t).length = (if rA κ t then 1 else 0) + ((if rB κ t then 1 else 0) + ((if nsw κ (tT κ (Bf κ n) A D n) t then 1 else 0) + 1)) := by
    unfold opn
    cases rA κ t <;> cases rB κ t <;> cases nsw κ (tT κ (Bf κ n) A D n) t <;> rfl
  rw [hlen] at hS4
  unfold b_MO_open_132
  obtain ⟨τ1, a1, a2, a3⟩ := m_push (x := 300 + t) (X := 300 + nI t) hS (by omega) (nI_add 300 t)
  rw [a1, Option.bind_some, nI_1]
  have he1 : Eqc τ1 κ := fun k hk => (a2.eqc (fun k hk => by simp; omega) k hk).trans (hl.1 k hk)
  have o1 : τ1 0 t = nI (oN κ t) := by rw [a2 0 (by simp), r1, hl.1.o]
  have h11 : oN κ t ≤ 11 := by rw [← hl.1.o]; exact r2
  have fin : ∀ (τ0 : SS) (S0 : List Nat), Fr [15] τ τ0 → Td τ0 S0 → opn κ (tT κ (Bf κ n) A D n) t ++ S = (if rA κ t then [if tb1 κ (tT κ (Bf κ n) A D n) t then thi (bN κ t) ((tT κ (Bf κ n) A D n) t).2.1 else thi (aN κ t) ((tT κ (Bf κ n) A D n) t).1] else []) ++ ((if rB κ t then [if tb1 κ (tT κ (Bf κ n) A D n) t then thi (aN κ t) ((tT κ (Bf κ n) A D n) t).1 else thi (bN κ t) ((tT κ (Bf κ n) A D n) t).2.1] else []) ++ S0) → S0.length + (if rA κ t then 1 else 0) + (if rB κ t then 1 else 0) ≤ 200 → ∃ τ' : SS, b_MO_open_198 (nI t) (nI S0.length) (nI (thi (aN κ t) ((tT κ (Bf κ n) A D n) t).1)) (nI (thi (bN κ t) ((tT κ (Bf κ n) A D n) t).2.1)) (b2 (tb1 κ (tT κ (Bf κ n) A D n) t)) τ0 = some (nI (opn κ (tT κ (Bf κ n) A D n) t ++ S).length, τ') ∧ Fr [15] τ τ' ∧ Td τ' (opn κ (tT κ (Bf κ n) A D n) t ++ S) := by
    intro τ0 S0 f1 f2 f3 f4
    rw [f3]
    obtain ⟨τ', d1, d2, d3⟩ := q2 τ0 S0 f1 f2 f4
    exact ⟨τ', d1, f1.tr d2, d3⟩
  have hns : nsw κ (tT κ (Bf κ n) A D n) t = false → ∃ τ' : SS, b_MO_open_198 (nI t) (nI (S.length + 1)) (nI (thi (aN κ t) ((tT κ (Bf κ n) A D n) t).1)) (nI (thi (bN κ t) ((tT κ (Bf κ n) A D n) t).2.1)) (b2 (tb1 κ (tT κ (Bf κ n) A D n) t)) τ1 = some (nI (opn κ (tT κ (Bf κ n) A D n) t ++ S).length, τ') ∧ Fr [15] τ τ' ∧ Td τ' (opn κ (tT κ (Bf κ n) A D n) t ++ S) := by
    intro hh
    rw [hh] at hS4
    have hS4 : S.length + ((if rA κ t then 1 else 0) + ((if rB κ t then 1 else 0) + (0 + 1))) ≤ 200 := hS4
    exact fin τ1 ((300 + t) :: S) a2 a3 (by unfold opn; rw [hh]; simp) (by show S.length + 1 + _ + _ ≤ 200; omega)
  have hsw : nsw κ (tT κ (Bf κ n) A D n) t = true → ∃ τ' : SS, b_MO_open_185 (nI t) (nI (S.length + 1)) (nI (thi (aN κ t) ((tT κ (Bf κ n) A D n) t).1)) (nI (thi (bN κ t) ((tT κ (Bf κ n) A D n) t).2.1)) (b2 (tb1 κ (tT κ (Bf κ n) A D n) t)) τ1 = some (nI (opn κ (tT κ (Bf κ n) A D n) t ++ S).length, τ') ∧ Fr [15] τ τ' ∧ Td τ' (opn κ (tT κ (Bf κ n) A D n) t ++ S) := by
    intro hh
    rw [hh] at hS4
    have hS4 : S.length + ((if rA κ t then 1 else 0) + ((if rB κ t then 1 else 0) + (1 + 1))) ≤ 200 := hS4
    unfold b_MO_open_185
    obtain ⟨τ2, b1, b2', b3⟩ := m_push (x := 200) (X := 200) a3 (by show S.length + 1 < 200; omega) rfl
    have b1 : sto τ1 15 200 (nI (S.length + 1)) 200 = some τ2 := b1
    rw [b1, Option.bind_some, nI_1]
    exact fin τ2 (200 :: (300 + t) :: S) (a2.tr b2') b3 (by unfold opn; rw [hh]; simp) (by show S.length + 1 + 1 + _ + _ ≤ 200; omega)
  have hnq : nsw κ (tT κ (Bf κ n) A D n) t = (tb1 κ (tT κ (Bf κ n) A D n) t && (oN κ t == 3 || oN κ t == 5 || oN κ t == 7)) := rfl
  simp only [b2_z]
  cases htb : tb1 κ (tT κ (Bf κ n) A D n) t with
  | false =>
    rw [htb] at hns hnq
    rw [if_pos rfl]
    exact hns (by rw [hnq]; rfl)
  | true =>
    rw [htb] at hns hsw hnq
    rw [Bool.true_and] at hnq
    rw [if_neg (by simp), p_ld (by omega) (by decide), Option.bind_some, o1]
    by_cases h3 : oN κ t = 3
    · rw [if_pos (show nI (oN κ t) = 3 by rw [h3]; rfl)]
      exact hsw (by rw [hnq, h3]; rfl)
    · rw [if_neg (show ¬ nI (oN κ t) = 3 from nI_neq (b := 3) (by omega) (by omega) h3), Option.bind_some]
      by_cases h5 : oN κ t = 5
      · rw [if_pos (show nI (oN κ t) = 5 by rw [h5]; rfl)]
        exact hsw (by rw [hnq, h5]; rfl)
      · rw [if_neg (show ¬ nI (oN κ t) = 5 from nI_neq (b := 5) (by omega) (by omega) h5), Option.bind_some]
        by_cases h7 : oN κ t = 7
        · rw [if_pos (show nI (oN κ t) = 7 by rw [h7]; rfl)]
          exact hsw (by rw [hnq, h7]; rfl)
        · rw [if_neg (show ¬ nI (oN κ t) = 7 from nI_neq (b := 7) (by omega) (by omega) h7)]
          exact hns (by rw [hnq, bnq h3, bnq h5, bnq h7]; rfl)
