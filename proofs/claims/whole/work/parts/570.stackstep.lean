-- ===== the height of the stack =====
def st (o h : Nat) : Option Nat := if o ≤ 1 then (if h < 8 then some (h + 1) else none) else if o = 2 ∨ o = 3 ∨ o = 11 then (if 1 ≤ h then some (h - 1) else none) else if o = 4 then (if 2 ≤ h then some h else none) else if o ≤ 8 then (if 2 ≤ h then some (h - 1) else none) else if o = 9 then (if 1 ≤ h then some h else none) else if o = 10 then (if 2 ≤ h then some (h - 2) else none) else if o = 12 then (if h = 0 then some 0 else none) else if o = 13 then (if h = 1 then some 0 else none) else some h
/-- the stacks hold the same, h high -/
def SK (σ τ : SS) (h : Nat) : Prop := σ 29 0 = nI h ∧ h ≤ 8 ∧ ∀ i, i < h → τ 19 i = σ 23 i
theorem SK.fr {σ σ' τ τ' : SS} {h : Nat} {S S' : List Nat} (hk : SK σ τ h) (h1 : Fr S σ σ') (h2 : Fr S' τ τ') (hS : ∀ k, k = 23 ∨ k = 29 → k ∉ S) (hS' : 19 ∉ S') : SK σ' τ' h := by
  unfold SK
  rw [h1 23 (hS 23 (by omega)), h1 29 (hS 29 (by omega)), h2 19 hS']
  exact hk
def psh (σ : SS) (h : Nat) (v : Int32) : SS := su (su σ 23 h v) 29 0 (nI (h + 1))
theorem psh_fr {σ : SS} {h : Nat} {v : Int32} : Fr [23, 29] σ (psh σ h v) := (Fr.su (by simp)).tr (Fr.su (by simp))
theorem SK_push {σ τ : SS} {h : Nat} {v : Int32} (hk : SK σ τ h) (hh : h < 8) : f_MA_push v σ = some (psh σ h v) ∧ SK (psh σ h v) (su τ 19 h v) (h + 1) := by
  obtain ⟨h1, h2, h3⟩ := hk
  constructor
  · unfold f_MA_push psh
    rw [h1, if_neg (nI_pos (by omega)), if_neg (show ¬ (8 : Int32) ≤ nI h from nI_ge (b := 8) hh (by omega)), p_sto hh (by decide), Option.bind_some, p_sf, Option.bind_some, p_suk (show (29 : Nat) ≠ 23 by omega), h1, nI_1]
  · refine ⟨p_sus _ _ _ _, by omega, fun i hi => ?_⟩
    unfold psh
    rw [p_suk (show (23 : Nat) ≠ 29 by omega)]
    by_cases e : i = h
    · rw [e, p_sus, p_sus]
    · rw [p_sun e, p_sun e]; exact h3 i (by omega)
def pp (σ : SS) (g : Nat) : SS := su σ 29 0 (nI g)
theorem pp_fr {σ : SS} {g : Nat} : Fr [29] σ (pp σ g) := Fr.su (by simp)
theorem SK_pop {σ τ : SS} {g : Nat} (hk : SK σ τ (g + 1)) : f_MA_pop σ = some (τ 19 g, pp σ g) ∧ SK (pp σ g) τ g := by
  obtain ⟨h1, h2, h3⟩ := hk
  constructor
  · unfold f_MA_pop pp
    rw [h1, if_neg (show ¬ nI (g + 1) ≤ 0 from nI_ge (a := 0) (by omega) (by omega)), if_pos (show nI (g + 1) ≤ 8 from nI_le (b := 8) (by omega) (by omega)), p_sf, Option.bind_some, p_sus, p_suK (show (23 : Nat) ≠ 29 by omega), show nI (g + 1) - 1 = nI g from pk_sub (b := 1) (by omega), p_ld (by omega) (by decide), Option.bind_some, h3 g (by omega)]
  · refine ⟨p_sus _ _ _ _, by omega, fun i hi => ?_⟩
    unfold pp
    rw [p_suk (show (23 : Nat) ≠ 29 by omega)]
    exact h3 i (by omega)
theorem su_comm {τ : SS} {k i j : Nat} {x y : Int32} (h : i ≠ j) : su (su τ k i x) k j y = su (su τ k j y) k i x := by
  apply p_ext
  intro k' i'
  by_cases hk : k' = k
  · subst hk
    by_cases h1 : i' = j
    · subst h1; rw [p_sus, p_sun (fun e => h e.symm), p_sus]
    · rw [p_sun h1]
      by_cases h2 : i' = i
      · subst h2; rw [p_sus, p_sus]
      · rw [p_sun h2, p_sun h2, p_sun h1]
  · rw [p_suk hk, p_suk hk, p_suk hk, p_suk hk]
/-- one operation of stack code -/
theorem s_step {σ τ : SS} {P h h' o p k N : Nat} {num : Int32} (hs : MS σ τ P) (hk : SK σ τ h) (hP : P < 2 ^ 30) (ho : o ≤ 14) (hr : o = 1 ∨ o = 2 → ∃ r, r < 10 ∧ num = nI r) (hst : st o h = some h') (h12 : τ 12 p = nI o) (h13 : τ 13 p = num) (h23 : τ 23 0 = nI N) (h25 : τ 25 0 = nI k) (hp : p < N) (hN : N ≤ 201) (hk2 : k < 2000) : ∃ (σ' τ' : SS) (x y : Int32) (P' : Nat), f_MA_followOperation (nI o) num (nI (p + 1)) σ = some (x, σ') ∧ (∀ m, b_MO_runStack_4 (m + 1) (nI p) (nI h) τ = b_MO_runStack_4 m y (nI h') τ') ∧ Fr [20, 21, 22, 23, 29, 30] σ σ' ∧ Fr [16, 17, 18, 19, 24, 25] τ τ' ∧ MS σ' τ' P' ∧ P' ≤ P + 1 ∧ SK σ' τ' h' ∧ τ' 25 0 = nI (k + 1) ∧ ((x = nI (p + 1) ∧ y = nI (p + 1)) ∨ ((o = 12 ∨ o = 13) ∧ x = num ∧ y = num) ∨ (o = 14 ∧ x = -1 ∧ y = nI N)) := by
  obtain ⟨ρ, hρ⟩ : ∃ ρ : SS, ρ = su τ 25 0 (nI (k + 1)) := ⟨_, rfl⟩
  have fρ : Fr [25] τ ρ := by rw [hρ]; exact Fr.su (by simp)
  have e25 : ρ 25 0 = nI (k + 1) := by rw [hρ, p_sus]
  have e23 : ρ 23 0 = nI N := by rw [fρ 23 (by simp)]; exact h23
  have hs : MS σ ρ P := hs.fr (S := []) Fr.rf fρ (fun k hk => by simp) (fun k hk => by simp; omega)
  have hk : SK σ ρ h := hk.fr (S := []) Fr.rf fρ (fun k hk => by simp) (by simp)
  have reg := hs.1
  have mem := hs.2.1
  have h8 := hk.2.1
  have fin : ∀ (σ' ρ' : SS) (x y : Int32) (P' : Nat) (S' : List Nat), f_MA_followOperation (nI o) num (nI (p + 1)) σ = some (x, σ') → (∀ m, b_MO_runStack_4 (m + 1) (nI p) (nI h) τ = b_MO_runStack_4 m y (nI h') ρ') → Fr [20, 21, 22, 23, 29, 30] σ σ' → Fr S' ρ ρ' → (∀ q ∈ S', q ∈ [16, 17, 18, 19, 24]) → MS σ' ρ' P' → P' ≤ P + 1 → SK σ' ρ' h' → ((x = nI (p + 1) ∧ y = nI (p + 1)) ∨ ((o = 12 ∨ o = 13) ∧ x = num ∧ y = num) ∨ (o = 14 ∧ x = -1 ∧ y = nI N)) → ∃ (σ' τ' : SS) (x y : Int32) (P' : Nat), f_MA_followOperation (nI o) num (nI (p + 1)) σ = some (x, σ') ∧ (∀ m, b_MO_runStack_4 (m + 1) (nI p) (nI h) τ = b_MO_runStack_4 m y (nI h') τ') ∧ Fr [20, 21, 22, 23, 29, 30] σ σ' ∧ Fr [16, 17, 18, 19, 24, 25] τ τ' ∧ MS σ' τ' P' ∧ P' ≤ P + 1 ∧ SK σ' τ' h' ∧ τ' 25 0 = nI (k + 1) ∧ ((x = nI (p + 1) ∧ y = nI (p + 1)) ∨ ((o = 12 ∨ o = 13) ∧ x = num ∧ y = num) ∨ (o = 14 ∧ x = -1 ∧ y = nI N)) := by
    intro σ' ρ' x y P' S' h1 h2 h3 h4 h5 h6 h7 h8 h9
    refine ⟨σ', ρ', x, y, P', h1, h2, h3, (fρ.mono (by simp)).tr (h4.mono (fun q hq => ?_)), h6, h7, h8, ?_, h9⟩
    · have := h5 q hq; simp at this ⊢; omega
    · rw [h4 25 (fun hh => by have := h5 25 hh; simp at this)]; exact e25
  have R0 : ∀ m, b_MO_runStack_4 (m + 1) (nI p) (nI h) τ = (if nI o = 0 then b_MO_runStack_61 (b_MO_runStack_4 m) (nI h) (nI o) num (nI (p + 1)) ρ else (if nI o = (1 : Int32) then b_MO_runStack_61 (b_MO_runStack_4 m) (nI h) (nI o) num (nI (p + 1)) ρ else (if nI o = (4 : Int32) then (ld (ρ 19) 200 (nI h - (1 : Int32))).bind fun v42 => (ld (ρ 19) 200 (nI h - (2 : Int32))).bind fun v44 => (sto ρ 19 200 (nI h - (1 : Int32)) v44).bind fun σ46 => (sto σ46 19 200 (nI h - (2 : Int32)) v42).bind fun σ48 => b_MO_runStack_350 (b_MO_runStack_4 m) (nI h) (nI (p + 1)) σ48 else (f_MO_in (nI o) (5 : Int32) (8 : Int32) ρ).bind fun q12 => (if q12.1 = 0 then (if nI o = (9 : Int32) then (ld (q12.2 19) 200 (nI h - (1 : Int32))).bind fun v28 => (ld (q12.2 17) 16 (v28 &&& (15 : Int32))).bind fun v30 => (sto q12.2 19 200 (nI h - (1 : Int32)) v30).bind fun σ32 => b_MO_runStack_350 (b_MO_runStack_4 m) (nI h) (nI (p + 1)) σ32 else (if nI o = (10 : Int32) then (ld (q12.2 19) 200 (nI h - (2 : Int32))).bind fun v22 => (ld (q12.2 19) 200 (nI h - (1 : Int32))).bind fun v24 => (sto q12.2 17 16 (v22 &&& (15 : Int32)) v24).bind fun σ26 => b_MO_runStack_350 (b_MO_runStack_4 m) (nI h - (2 : Int32)) (nI (p + 1)) σ26 else (if nI o = (2 : Int32) then b_MO_runStack_273 (b_MO_runStack_4 m) (nI h) (nI o) num (nI (p + 1)) q12.2 else (if nI o = (3 : Int32) then b_MO_runStack_273 (b_MO_runStack_4 m) (nI h) (nI o) num (nI (p + 1)) q12.2 else (if nI o = (11 : Int32) then b_MO_runStack_273 (b_MO_runStack_4 m) (nI h) (nI o) num (nI (p + 1)) q12.2 else (if nI o = (13 : Int32) then b_MO_runStack_273 (b_MO_runStack_4 m) (nI h) (nI o) num (nI (p + 1)) q12.2 else (if nI o = (14 : Int32) then b_MO_runStack_350 (b_MO_runStack_4 m) (nI h) (q12.2 23 0) q12.2 else b_MO_runStack_350 (b_MO_runStack_4 m) (nI h) num q12.2))))))) else (ld (q12.2 19) 200 (nI h - (2 : Int32))).bind fun v34 => (ld (q12.2 19) 200 (nI h - (1 : Int32))).bind fun v36 => (f_MO_combine (nI o - (3 : Int32)) v34 v36 q12.2).bind fun q38 => (sto q38.2 19 200 (nI h - (2 : Int32)) q38.1).bind fun σ40 => b_MO_runStack_350 (b_MO_runStack_4 m) (nI h - (1 : Int32)) (nI (p + 1)) σ40)))) := by
    intro m
    rw [b_MO_runStack_4, h23, if_neg (nI_ge hp (by omega)), h25, if_neg (show ¬ (2000 : Int32) ≤ nI k from nI_ge (b := 2000) hk2 (by omega)), p_ld (by omega) (by decide), Option.bind_some, p_ld (by omega) (by decide), Option.bind_some, p_sf, Option.bind_some, h12, h13, nI_1, nI_1, ← hρ]
  have in58 : ∀ b : Bool, decide (5 ≤ o ∧ o ≤ 8) = b → f_MO_in (nI o) 5 8 ρ = some (b2 b, ρ) := by
    intro b hb
    rw [← hb, show (5 : Int32) = nI 5 from rfl, show (8 : Int32) = nI 8 from rfl]
    exact m_in rfl (by omega) (by omega) (by omega)
  clear hρ
  unfold f_MA_followOperation at *
  rcases (show o = 0 ∨ o = 1 ∨ o = 2 ∨ o = 3 ∨ o = 4 ∨ o = 5 ∨ o = 6 ∨ o = 7 ∨ o = 8 ∨ o = 9 ∨ o = 10 ∨ o = 11 ∨ o = 12 ∨ o = 13 ∨ o = 14 by omega) with rfl | rfl | rfl | rfl | rfl | rfl | rfl | rfl | rfl | rfl | rfl | rfl | rfl | rfl | rfl
  · simp [st] at hst
    obtain ⟨z1, rfl⟩ := hst
    obtain ⟨p1, p2⟩ := SK_push (v := num) hk z1
    refine fin (psh σ h num) (su ρ 19 h num) (nI (p + 1)) (nI (p + 1)) P [19] ?_ (fun m => ?_) (psh_fr.mono (by simp)) (Fr.su (by simp)) (by simp) (hs.fr psh_fr (S' := [19]) (Fr.su (by simp)) (fun k hk => by simp; omega) (fun k hk => by simp; omega)) (by omega) p2 (Or.inl ⟨rfl, rfl⟩)
    · rw [if_pos (show nI 0 = 0 by decide), p1, Option.bind_some]
    · rw [R0, if_pos (show nI 0 = 0 by decide)]
      unfold b_MO_runStack_61 b_MO_runStack_350
      rw [if_pos (show nI 0 = 0 by decide), p_sto (by omega) (by decide), Option.bind_some, nI_1]
  · simp [st] at hst
    obtain ⟨z1, rfl⟩ := hst
    obtain ⟨r, r1, rfl⟩ := hr (by omega)
    obtain ⟨p1, p2⟩ := SK_push (v := σ 20 r) hk z1
    refine fin (psh σ h (σ 20 r)) (su ρ 19 h (σ 20 r)) (nI (p + 1)) (nI (p + 1)) P [19] ?_ (fun m => ?_) (psh_fr.mono (by simp)) (Fr.su (by simp)) (by simp) (hs.fr psh_fr (S' := [19]) (Fr.su (by simp)) (fun k hk => by simp; omega) (fun k hk => by simp; omega)) (by omega) p2 (Or.inl ⟨rfl, rfl⟩)
    · rw [if_neg (show ¬ nI 1 = 0 by decide), if_pos (show nI 1 = 1 by decide), p_ld r1 (by decide), Option.bind_some, p1, Option.bind_some]
    · rw [R0, if_neg (show ¬ nI 1 = 0 by decide), if_pos (show nI 1 = 1 by decide)]
      unfold b_MO_runStack_61 b_MO_runStack_350
      rw [if_neg (show ¬ nI 1 = 0 by decide), p_ld r1 (by decide), Option.bind_some, reg r r1, p_sto (by omega) (by decide), Option.bind_some, nI_1]
  · simp [st] at hst
    obtain ⟨z1, z2⟩ := hst
    obtain ⟨g, rfl⟩ : ∃ g, h = g + 1 := ⟨h - 1, by omega⟩
    have z3 : g = h' := by omega
    subst z3
    have s1 : nI (g + 1) - 1 = nI g := pk_sub (b := 1) (by omega)
    obtain ⟨p1, p2⟩ := SK_pop hk
    obtain ⟨r, r1, rfl⟩ := hr (by omega)
    refine fin (su (pp σ g) 20 r (ρ 19 g)) (su ρ 18 r (ρ 19 g)) (nI (p + 1)) (nI (p + 1)) P [18] ?_ (fun m => ?_) ((pp_fr.mono (by simp)).tr (Fr.su (by simp))) (Fr.su (by simp)) (by simp) (MS_reg (hs.fr pp_fr (S' := []) Fr.rf (fun k hk => by simp; omega) (fun k hk => by simp))) (by omega) (p2.fr (S := [20]) (S' := [18]) (Fr.su (by simp)) (Fr.su (by simp)) (fun k hk => by simp; omega) (by simp)) (Or.inl ⟨rfl, rfl⟩)
    · rw [if_neg (show ¬ nI 2 = 0 by decide), if_neg (show ¬ nI 2 = 1 by decide), if_pos (show nI 2 = 2 by decide), p1, Option.bind_some, p_sto r1 (by decide), Option.bind_some]
    · rw [R0, if_neg (show ¬ nI 2 = 0 by decide), if_neg (show ¬ nI 2 = 1 by decide), if_neg (show ¬ nI 2 = 4 by decide), in58 false (by decide), Option.bind_some, if_pos (show b2 false = 0 by decide), if_neg (show ¬ nI 2 = 9 by decide), if_neg (show ¬ nI 2 = 10 by decide), if_pos (show nI 2 = 2 by decide)]
      unfold b_MO_runStack_273 b_MO_runStack_295 b_MO_runStack_350
      rw [if_pos (show nI 2 = 2 by decide), s1, p_ld (by omega) (by decide), Option.bind_some, p_sto r1 (by decide), Option.bind_some, if_neg (show ¬ nI 2 = 11 by decide), if_neg (show ¬ nI 2 = 13 by decide)]
  · simp [st] at hst
    obtain ⟨z1, z2⟩ := hst
    obtain ⟨g, rfl⟩ : ∃ g, h = g + 1 := ⟨h - 1, by omega⟩
    have z3 : g = h' := by omega
    subst z3
    have s1 : nI (g + 1) - 1 = nI g := pk_sub (b := 1) (by omega)
    obtain ⟨p1, p2⟩ := SK_pop hk
    refine fin (pp σ g) ρ (nI (p + 1)) (nI (p + 1)) P [] ?_ (fun m => ?_) (pp_fr.mono (by simp)) Fr.rf (by simp) (hs.fr pp_fr (S' := []) Fr.rf (fun k hk => by simp; omega) (fun k hk => by simp)) (by omega) p2 (Or.inl ⟨rfl, rfl⟩)
    · rw [if_neg (show ¬ nI 3 = 0 by decide), if_neg (show ¬ nI 3 = 1 by decide), if_neg (show ¬ nI 3 = 2 by decide), if_pos (show nI 3 = 3 by decide), p1, Option.bind_some]
    · rw [R0, if_neg (show ¬ nI 3 = 0 by decide), if_neg (show ¬ nI 3 = 1 by decide), if_neg (show ¬ nI 3 = 4 by decide), in58 false (by decide), Option.bind_some, if_pos (show b2 false = 0 by decide), if_neg (show ¬ nI 3 = 9 by decide), if_neg (show ¬ nI 3 = 10 by decide), if_neg (show ¬ nI 3 = 2 by decide), if_pos (show nI 3 = 3 by decide)]
      unfold b_MO_runStack_273 b_MO_runStack_295 b_MO_runStack_350
      rw [if_neg (show ¬ nI 3 = 2 by decide), s1, if_neg (show ¬ nI 3 = 11 by decide), if_neg (show ¬ nI 3 = 13 by decide)]
  · simp [st] at hst
    obtain ⟨z1, z2⟩ := hst
    obtain ⟨g, rfl⟩ : ∃ g, h = g + 2 := ⟨h - 2, by omega⟩
    have z3 : g + 2 = h' := by omega
    subst z3
    have s1 : nI (g + 2) - 1 = nI (g + 1) := pk_sub (b := 1) (by omega)
    have s2 : nI (g + 2) - 2 = nI g := pk_sub (b := 2) (by omega)
    obtain ⟨p1, p2⟩ := SK_pop (g := g + 1) hk
    obtain ⟨p3, p4⟩ := SK_pop (g := g) p2
    obtain ⟨p5, p6⟩ := SK_push (v := ρ 19 (g + 1)) p4 (by omega)
    obtain ⟨p7, p8⟩ := SK_push (v := ρ 19 g) p6 (by omega)
    refine fin (psh (psh (pp (pp σ (g + 1)) g) g (ρ 19 (g + 1))) (g + 1) (ρ 19 g)) (su (su ρ 19 g (ρ 19 (g + 1))) 19 (g + 1) (ρ 19 g)) (nI (p + 1)) (nI (p + 1)) P [19] ?_ (fun m => ?_) ((((pp_fr.mono (by simp)).tr (pp_fr.mono (by simp))).tr (psh_fr.mono (by simp))).tr (psh_fr.mono (by simp))) ((Fr.su (by simp)).tr (Fr.su (by simp))) (by simp) (hs.fr (S := [23, 29]) (S' := [19]) ((((pp_fr.mono (by simp)).tr (pp_fr.mono (by simp))).tr (psh_fr.mono (by simp))).tr (psh_fr.mono (by simp))) ((Fr.su (by simp)).tr (Fr.su (by simp))) (fun k hk => by simp; omega) (fun k hk => by simp; omega)) (by omega) p8 (Or.inl ⟨rfl, rfl⟩)
    · rw [if_neg (show ¬ nI 4 = 0 by decide), if_neg (show ¬ nI 4 = 1 by decide), if_neg (show ¬ nI 4 = 2 by decide), if_neg (show ¬ nI 4 = 3 by decide), if_neg (show ¬ nI 4 = 9 by decide), if_neg (show ¬ nI 4 = 11 by decide), if_neg (show ¬ nI 4 = 12 by decide), if_neg (show ¬ nI 4 = 13 by decide), if_neg (show ¬ nI 4 = 14 by decide)]
      unfold f_MA_joinTopTwo
      rw [p1, Option.bind_some, p3, Option.bind_some, if_pos (show nI 4 = 4 by decide), p5, Option.bind_some, p7, Option.bind_some, Option.bind_some]
    · rw [R0, if_neg (show ¬ nI 4 = 0 by decide), if_neg (show ¬ nI 4 = 1 by decide), if_pos (show nI 4 = 4 by decide)]
      unfold b_MO_runStack_350
      rw [s1, s2, p_ld (by omega) (by decide), Option.bind_some, p_ld (by omega) (by decide), Option.bind_some, p_sto (by omega) (by decide), Option.bind_some, p_sto (by omega) (by decide), Option.bind_some, su_comm (show g + 1 ≠ g by omega)]
  · simp [st] at hst
    obtain ⟨z1, z2⟩ := hst
    obtain ⟨g, rfl⟩ : ∃ g, h = g + 2 := ⟨h - 2, by omega⟩
    have z3 : g + 1 = h' := by omega
    subst z3
    have s1 : nI (g + 2) - 1 = nI (g + 1) := pk_sub (b := 1) (by omega)
    have s2 : nI (g + 2) - 2 = nI g := pk_sub (b := 2) (by omega)
    obtain ⟨p1, p2⟩ := SK_pop (g := g + 1) hk
    obtain ⟨p3, p4⟩ := SK_pop (g := g) p2
    obtain ⟨p5, p6⟩ := SK_push (v := (ρ 19 g + ρ 19 (g + 1))) p4 (by omega)
    refine fin (psh (pp (pp σ (g + 1)) g) g (ρ 19 g + ρ 19 (g + 1))) (su ρ 19 g (ρ 19 g + ρ 19 (g + 1))) (nI (p + 1)) (nI (p + 1)) P [19] ?_ (fun m => ?_) (((pp_fr.mono (by simp)).tr (pp_fr.mono (by simp))).tr (psh_fr.mono (by simp))) (Fr.su (by simp)) (by simp) (hs.fr (S := [23, 29]) (S' := [19]) (((pp_fr.mono (by simp)).tr (pp_fr.mono (by simp))).tr (psh_fr.mono (by simp))) (Fr.su (by simp)) (fun k hk => by simp; omega) (fun k hk => by simp; omega)) (by omega) p6 (Or.inl ⟨rfl, rfl⟩)
    · rw [if_neg (show ¬ nI 5 = 0 by decide), if_neg (show ¬ nI 5 = 1 by decide), if_neg (show ¬ nI 5 = 2 by decide), if_neg (show ¬ nI 5 = 3 by decide), if_neg (show ¬ nI 5 = 9 by decide), if_neg (show ¬ nI 5 = 11 by decide), if_neg (show ¬ nI 5 = 12 by decide), if_neg (show ¬ nI 5 = 13 by decide), if_neg (show ¬ nI 5 = 14 by decide)]
      unfold f_MA_joinTopTwo
      rw [p1, Option.bind_some, p3, Option.bind_some, if_neg (show ¬ nI 5 = 4 by decide), if_pos (show nI 5 = 5 by decide)]
      rw [p5, Option.bind_some, Option.bind_some]
    · rw [R0, if_neg (show ¬ nI 5 = 0 by decide), if_neg (show ¬ nI 5 = 1 by decide), if_neg (show ¬ nI 5 = 4 by decide), in58 true (by decide), Option.bind_some, if_neg (show ¬ b2 true = 0 by decide)]
      unfold b_MO_runStack_350 f_MO_combine
      rw [s1, s2, p_ld (by omega) (by decide), Option.bind_some, p_ld (by omega) (by decide), Option.bind_some, show nI 5 - 3 = nI 2 from pk_sub (b := 3) (by omega)]
      rw [if_pos (show nI 2 = 2 by decide)]
      rw [Option.bind_some, p_sto (by omega) (by decide), Option.bind_some]
  · simp [st] at hst
    obtain ⟨z1, z2⟩ := hst
    obtain ⟨g, rfl⟩ : ∃ g, h = g + 2 := ⟨h - 2, by omega⟩
    have z3 : g + 1 = h' := by omega
    subst z3
    have s1 : nI (g + 2) - 1 = nI (g + 1) := pk_sub (b := 1) (by omega)
    have s2 : nI (g + 2) - 2 = nI g := pk_sub (b := 2) (by omega)
    obtain ⟨p1, p2⟩ := SK_pop (g := g + 1) hk
    obtain ⟨p3, p4⟩ := SK_pop (g := g) p2
    obtain ⟨p5, p6⟩ := SK_push (v := (ρ 19 g - ρ 19 (g + 1))) p4 (by omega)
    refine fin (psh (pp (pp σ (g + 1)) g) g (ρ 19 g - ρ 19 (g + 1))) (su ρ 19 g (ρ 19 g - ρ 19 (g + 1))) (nI (p + 1)) (nI (p + 1)) P [19] ?_ (fun m => ?_) (((pp_fr.mono (by simp)).tr (pp_fr.mono (by simp))).tr (psh_fr.mono (by simp))) (Fr.su (by simp)) (by simp) (hs.fr (S := [23, 29]) (S' := [19]) (((pp_fr.mono (by simp)).tr (pp_fr.mono (by simp))).tr (psh_fr.mono (by simp))) (Fr.su (by simp)) (fun k hk => by simp; omega) (fun k hk => by simp; omega)) (by omega) p6 (Or.inl ⟨rfl, rfl⟩)
    · rw [if_neg (show ¬ nI 6 = 0 by decide), if_neg (show ¬ nI 6 = 1 by decide), if_neg (show ¬ nI 6 = 2 by decide), if_neg (show ¬ nI 6 = 3 by decide), if_neg (show ¬ nI 6 = 9 by decide), if_neg (show ¬ nI 6 = 11 by decide), if_neg (show ¬ nI 6 = 12 by decide), if_neg (show ¬ nI 6 = 13 by decide), if_neg (show ¬ nI 6 = 14 by decide)]
      unfold f_MA_joinTopTwo
      rw [p1, Option.bind_some, p3, Option.bind_some, if_neg (show ¬ nI 6 = 4 by decide), if_neg (show ¬ nI 6 = 5 by decide), if_pos (show nI 6 = 6 by decide)]
      rw [p5, Option.bind_some, Option.bind_some]
    · rw [R0, if_neg (show ¬ nI 6 = 0 by decide), if_neg (show ¬ nI 6 = 1 by decide), if_neg (show ¬ nI 6 = 4 by decide), in58 true (by decide), Option.bind_some, if_neg (show ¬ b2 true = 0 by decide)]
      unfold b_MO_runStack_350 f_MO_combine
      rw [s1, s2, p_ld (by omega) (by decide), Option.bind_some, p_ld (by omega) (by decide), Option.bind_some, show nI 6 - 3 = nI 3 from pk_sub (b := 3) (by omega)]
      rw [if_neg (show ¬ nI 3 = 2 by decide), if_pos (show nI 3 = 3 by decide)]
      rw [Option.bind_some, p_sto (by omega) (by decide), Option.bind_some]
  · simp [st] at hst
    obtain ⟨z1, z2⟩ := hst
    obtain ⟨g, rfl⟩ : ∃ g, h = g + 2 := ⟨h - 2, by omega⟩
    have z3 : g + 1 = h' := by omega
    subst z3
    have s1 : nI (g + 2) - 1 = nI (g + 1) := pk_sub (b := 1) (by omega)
    have s2 : nI (g + 2) - 2 = nI g := pk_sub (b := 2) (by omega)
    obtain ⟨p1, p2⟩ := SK_pop (g := g + 1) hk
    obtain ⟨p3, p4⟩ := SK_pop (g := g) p2
    obtain ⟨p5, p6⟩ := SK_push (v := (ρ 19 g * ρ 19 (g + 1))) p4 (by omega)
    refine fin (psh (pp (pp σ (g + 1)) g) g (ρ 19 g * ρ 19 (g + 1))) (su ρ 19 g (ρ 19 g * ρ 19 (g + 1))) (nI (p + 1)) (nI (p + 1)) P [19] ?_ (fun m => ?_) (((pp_fr.mono (by simp)).tr (pp_fr.mono (by simp))).tr (psh_fr.mono (by simp))) (Fr.su (by simp)) (by simp) (hs.fr (S := [23, 29]) (S' := [19]) (((pp_fr.mono (by simp)).tr (pp_fr.mono (by simp))).tr (psh_fr.mono (by simp))) (Fr.su (by simp)) (fun k hk => by simp; omega) (fun k hk => by simp; omega)) (by omega) p6 (Or.inl ⟨rfl, rfl⟩)
    · rw [if_neg (show ¬ nI 7 = 0 by decide), if_neg (show ¬ nI 7 = 1 by decide), if_neg (show ¬ nI 7 = 2 by decide), if_neg (show ¬ nI 7 = 3 by decide), if_neg (show ¬ nI 7 = 9 by decide), if_neg (show ¬ nI 7 = 11 by decide), if_neg (show ¬ nI 7 = 12 by decide), if_neg (show ¬ nI 7 = 13 by decide), if_neg (show ¬ nI 7 = 14 by decide)]
      unfold f_MA_joinTopTwo
      rw [p1, Option.bind_some, p3, Option.bind_some, if_neg (show ¬ nI 7 = 4 by decide), if_neg (show ¬ nI 7 = 5 by decide), if_neg (show ¬ nI 7 = 6 by decide), if_pos (show nI 7 = 7 by decide)]
      rw [p5, Option.bind_some, Option.bind_some]
    · rw [R0, if_neg (show ¬ nI 7 = 0 by decide), if_neg (show ¬ nI 7 = 1 by decide), if_neg (show ¬ nI 7 = 4 by decide), in58 true (by decide), Option.bind_some, if_neg (show ¬ b2 true = 0 by decide)]
      unfold b_MO_runStack_350 f_MO_combine
      rw [s1, s2, p_ld (by omega) (by decide), Option.bind_some, p_ld (by omega) (by decide), Option.bind_some, show nI 7 - 3 = nI 4 from pk_sub (b := 3) (by omega)]
      rw [if_neg (show ¬ nI 4 = 2 by decide), if_neg (show ¬ nI 4 = 3 by decide), if_pos (show nI 4 = 4 by decide)]
      rw [Option.bind_some, p_sto (by omega) (by decide), Option.bind_some]
  · simp [st] at hst
    obtain ⟨z1, z2⟩ := hst
    obtain ⟨g, rfl⟩ : ∃ g, h = g + 2 := ⟨h - 2, by omega⟩
    have z3 : g + 1 = h' := by omega
    subst z3
    have s1 : nI (g + 2) - 1 = nI (g + 1) := pk_sub (b := 1) (by omega)
    have s2 : nI (g + 2) - 2 = nI g := pk_sub (b := 2) (by omega)
    obtain ⟨p1, p2⟩ := SK_pop (g := g + 1) hk
    obtain ⟨p3, p4⟩ := SK_pop (g := g) p2
    obtain ⟨v, hv⟩ : ∃ v : Int32, v = (if ρ 19 (g + 1) ≤ ρ 19 g then 0 else 1) := ⟨_, rfl⟩
    obtain ⟨p5, p6⟩ := SK_push (v := v) p4 (by omega)
    refine fin (psh (pp (pp σ (g + 1)) g) g v) (su ρ 19 g v) (nI (p + 1)) (nI (p + 1)) P [19] ?_ (fun m => ?_) (((pp_fr.mono (by simp)).tr (pp_fr.mono (by simp))).tr (psh_fr.mono (by simp))) (Fr.su (by simp)) (by simp) (hs.fr (S := [23, 29]) (S' := [19]) (((pp_fr.mono (by simp)).tr (pp_fr.mono (by simp))).tr (psh_fr.mono (by simp))) (Fr.su (by simp)) (fun k hk => by simp; omega) (fun k hk => by simp; omega)) (by omega) p6 (Or.inl ⟨rfl, rfl⟩)
    · rw [if_neg (show ¬ nI 8 = 0 by decide), if_neg (show ¬ nI 8 = 1 by decide), if_neg (show ¬ nI 8 = 2 by decide), if_neg (show ¬ nI 8 = 3 by decide), if_neg (show ¬ nI 8 = 9 by decide), if_neg (show ¬ nI 8 = 11 by decide), if_neg (show ¬ nI 8 = 12 by decide), if_neg (show ¬ nI 8 = 13 by decide), if_neg (show ¬ nI 8 = 14 by decide)]
      unfold f_MA_joinTopTwo
      rw [p1, Option.bind_some, p3, Option.bind_some, if_neg (show ¬ nI 8 = 4 by decide), if_neg (show ¬ nI 8 = 5 by decide), if_neg (show ¬ nI 8 = 6 by decide), if_neg (show ¬ nI 8 = 7 by decide), if_pos (show nI 8 = 8 by decide)]
      by_cases hle : ρ 19 (g + 1) ≤ ρ 19 g
      · rw [if_pos hle] at hv ⊢; rw [← hv, p5, Option.bind_some, Option.bind_some]
      · rw [if_neg hle] at hv ⊢; rw [← hv, p5, Option.bind_some, Option.bind_some]
    · rw [R0, if_neg (show ¬ nI 8 = 0 by decide), if_neg (show ¬ nI 8 = 1 by decide), if_neg (show ¬ nI 8 = 4 by decide), in58 true (by decide), Option.bind_some, if_neg (show ¬ b2 true = 0 by decide)]
      unfold b_MO_runStack_350 f_MO_combine
      rw [s1, s2, p_ld (by omega) (by decide), Option.bind_some, p_ld (by omega) (by decide), Option.bind_some, show nI 8 - 3 = nI 5 from pk_sub (b := 3) (by omega)]
      rw [if_neg (show ¬ nI 5 = 2 by decide), if_neg (show ¬ nI 5 = 3 by decide), if_neg (show ¬ nI 5 = 4 by decide)]
      by_cases hle : ρ 19 (g + 1) ≤ ρ 19 g
      · rw [if_pos hle] at hv ⊢; rw [Option.bind_some, p_sto (by omega) (by decide), Option.bind_some, ← hv]
      · rw [if_neg hle] at hv ⊢; rw [Option.bind_some, p_sto (by omega) (by decide), Option.bind_some, ← hv]
  · simp [st] at hst
    obtain ⟨z1, z2⟩ := hst
    obtain ⟨g, rfl⟩ : ∃ g, h = g + 1 := ⟨h - 1, by omega⟩
    have z3 : g + 1 = h' := by omega
    subst z3
    have s1 : nI (g + 1) - 1 = nI g := pk_sub (b := 1) (by omega)
    obtain ⟨p1, p2⟩ := SK_pop hk
    obtain ⟨c, c1, c2⟩ := and15 (ρ 19 g)
    obtain ⟨p5, p6⟩ := SK_push (v := σ 21 c) p2 (by omega)
    refine fin (psh (pp σ g) g (σ 21 c)) (su ρ 19 g (σ 21 c)) (nI (p + 1)) (nI (p + 1)) P [19] ?_ (fun m => ?_) ((pp_fr.mono (by simp)).tr (psh_fr.mono (by simp))) (Fr.su (by simp)) (by simp) ((hs.fr pp_fr (S' := []) Fr.rf (fun k hk => by simp; omega) (fun k hk => by simp)).fr psh_fr (S' := [19]) (Fr.su (by simp)) (fun k hk => by simp; omega) (fun k hk => by simp; omega)) (by omega) p6 (Or.inl ⟨rfl, rfl⟩)
    · rw [if_neg (show ¬ nI 9 = 0 by decide), if_neg (show ¬ nI 9 = 1 by decide), if_neg (show ¬ nI 9 = 2 by decide), if_neg (show ¬ nI 9 = 3 by decide), if_pos (show nI 9 = 9 by decide), p1, Option.bind_some, show f_MA_cellIndex (ρ 19 g) (pp σ g) = some (nI c, pp σ g) from by unfold f_MA_cellIndex; rw [c2], Option.bind_some]
      dsimp only
      rw [pp_fr 21 (by simp), p_ld c1 (by decide), Option.bind_some, p5, Option.bind_some]
    · rw [R0, if_neg (show ¬ nI 9 = 0 by decide), if_neg (show ¬ nI 9 = 1 by decide), if_neg (show ¬ nI 9 = 4 by decide), in58 false (by decide), Option.bind_some, if_pos (show b2 false = 0 by decide), if_pos (show nI 9 = 9 by decide)]
      unfold b_MO_runStack_350
      dsimp only
      rw [s1, p_ld (by omega) (by decide), Option.bind_some, c2, p_ld c1 (by decide), Option.bind_some, mem c c1, p_sto (by omega) (by decide), Option.bind_some]
  · simp [st] at hst
    obtain ⟨z1, z2⟩ := hst
    obtain ⟨g, rfl⟩ : ∃ g, h = g + 2 := ⟨h - 2, by omega⟩
    have z3 : g = h' := by omega
    subst z3
    have s1 : nI (g + 2) - 1 = nI (g + 1) := pk_sub (b := 1) (by omega)
    have s2 : nI (g + 2) - 2 = nI g := pk_sub (b := 2) (by omega)
    obtain ⟨p1, p2⟩ := SK_pop (g := g + 1) hk
    obtain ⟨p3, p4⟩ := SK_pop (g := g) p2
    obtain ⟨c, c1, c2⟩ := and15 (ρ 19 g)
    have hs2 : MS (pp (pp σ (g + 1)) g) ρ P := hs.fr (S := [29]) (S' := []) (pp_fr.tr pp_fr) Fr.rf (fun k hk => by simp; omega) (fun k hk => by simp)
    refine fin (su (pp (pp σ (g + 1)) g) 21 c (ρ 19 (g + 1))) (su ρ 17 c (ρ 19 (g + 1))) (nI (p + 1)) (nI (p + 1)) P [17] ?_ (fun m => ?_) (((pp_fr.mono (by simp)).tr (pp_fr.mono (by simp))).tr (Fr.su (by simp))) (Fr.su (by simp)) (by simp) (MS_cell hs2) (by omega) (p4.fr (S := [21]) (S' := [17]) (Fr.su (by simp)) (Fr.su (by simp)) (fun k hk => by simp; omega) (by simp)) (Or.inl ⟨rfl, rfl⟩)
    · rw [if_neg (show ¬ nI 10 = 0 by decide), if_neg (show ¬ nI 10 = 1 by decide), if_neg (show ¬ nI 10 = 2 by decide), if_neg (show ¬ nI 10 = 3 by decide), if_neg (show ¬ nI 10 = 9 by decide), if_neg (show ¬ nI 10 = 11 by decide), if_neg (show ¬ nI 10 = 12 by decide), if_neg (show ¬ nI 10 = 13 by decide), if_neg (show ¬ nI 10 = 14 by decide)]
      unfold f_MA_joinTopTwo
      rw [p1, Option.bind_some, p3, Option.bind_some, if_neg (show ¬ nI 10 = 4 by decide), if_neg (show ¬ nI 10 = 5 by decide), if_neg (show ¬ nI 10 = 6 by decide), if_neg (show ¬ nI 10 = 7 by decide), if_neg (show ¬ nI 10 = 8 by decide), if_pos (show nI 10 = 10 by decide), show f_MA_cellIndex (ρ 19 g) (pp (pp σ (g + 1)) g) = some (nI c, pp (pp σ (g + 1)) g) from by unfold f_MA_cellIndex; rw [c2], Option.bind_some, p_sto c1 (by decide), Option.bind_some, Option.bind_some]
    · rw [R0, if_neg (show ¬ nI 10 = 0 by decide), if_neg (show ¬ nI 10 = 1 by decide), if_neg (show ¬ nI 10 = 4 by decide), in58 false (by decide), Option.bind_some, if_pos (show b2 false = 0 by decide), if_neg (show ¬ nI 10 = 9 by decide), if_pos (show nI 10 = 10 by decide)]
      unfold b_MO_runStack_350
      rw [s1, s2, p_ld (by omega) (by decide), Option.bind_some, p_ld (by omega) (by decide), Option.bind_some, c2, p_sto c1 (by decide), Option.bind_some]
  · simp [st] at hst
    obtain ⟨z1, z2⟩ := hst
    obtain ⟨g, rfl⟩ : ∃ g, h = g + 1 := ⟨h - 1, by omega⟩
    have z3 : g = h' := by omega
    subst z3
    have s1 : nI (g + 1) - 1 = nI g := pk_sub (b := 1) (by omega)
    obtain ⟨p1, p2⟩ := SK_pop hk
    have hs2 : MS (pp σ g) ρ P := hs.fr pp_fr (S' := []) Fr.rf (fun k hk => by simp; omega) (fun k hk => by simp)
    obtain ⟨σ2, ρ2, d1, d2, d3, d4, d5⟩ := p_print (v := ρ 19 g) hs2 hP
    refine fin σ2 ρ2 (nI (p + 1)) (nI (p + 1)) (P + 1) [16, 24] ?_ (fun m => ?_) ((pp_fr.mono (by simp)).tr (d3.mono (by simp))) d4 (by simp) d5 (by omega) (p2.fr d3 d4 (fun k hk => by simp; omega) (by simp)) (Or.inl ⟨rfl, rfl⟩)
    · rw [if_neg (show ¬ nI 11 = 0 by decide), if_neg (show ¬ nI 11 = 1 by decide), if_neg (show ¬ nI 11 = 2 by decide), if_neg (show ¬ nI 11 = 3 by decide), if_neg (show ¬ nI 11 = 9 by decide), if_pos (show nI 11 = 11 by decide), p1, Option.bind_some, d1, Option.bind_some]
    · rw [R0, if_neg (show ¬ nI 11 = 0 by decide), if_neg (show ¬ nI 11 = 1 by decide), if_neg (show ¬ nI 11 = 4 by decide), in58 false (by decide), Option.bind_some, if_pos (show b2 false = 0 by decide), if_neg (show ¬ nI 11 = 9 by decide), if_neg (show ¬ nI 11 = 10 by decide), if_neg (show ¬ nI 11 = 2 by decide), if_neg (show ¬ nI 11 = 3 by decide), if_pos (show nI 11 = 11 by decide)]
      unfold b_MO_runStack_273 b_MO_runStack_295 b_MO_runStack_350
      rw [if_neg (show ¬ nI 11 = 2 by decide), s1, if_pos (show nI 11 = 11 by decide), p_ld (by omega) (by decide), Option.bind_some, d2, Option.bind_some, if_neg (show ¬ nI 11 = 13 by decide)]
  · simp [st] at hst
    obtain ⟨rfl, rfl⟩ := hst
    refine fin σ ρ num num P [] ?_ (fun m => ?_) Fr.rf Fr.rf (by simp) hs (by omega) hk (Or.inr (Or.inl ⟨Or.inl rfl, rfl, rfl⟩))
    · rw [if_neg (show ¬ nI 12 = 0 by decide), if_neg (show ¬ nI 12 = 1 by decide), if_neg (show ¬ nI 12 = 2 by decide), if_neg (show ¬ nI 12 = 3 by decide), if_neg (show ¬ nI 12 = 9 by decide), if_neg (show ¬ nI 12 = 11 by decide), if_pos (show nI 12 = 12 by decide)]
    · rw [R0, if_neg (show ¬ nI 12 = 0 by decide), if_neg (show ¬ nI 12 = 1 by decide), if_neg (show ¬ nI 12 = 4 by decide), in58 false (by decide), Option.bind_some, if_pos (show b2 false = 0 by decide), if_neg (show ¬ nI 12 = 9 by decide), if_neg (show ¬ nI 12 = 10 by decide), if_neg (show ¬ nI 12 = 2 by decide), if_neg (show ¬ nI 12 = 3 by decide), if_neg (show ¬ nI 12 = 11 by decide), if_neg (show ¬ nI 12 = 13 by decide), if_neg (show ¬ nI 12 = 14 by decide)]
      unfold b_MO_runStack_350
      rfl
  · simp [st] at hst
    obtain ⟨rfl, rfl⟩ := hst
    have s1 : nI 1 - 1 = nI 0 := pk_sub (b := 1) (by omega)
    obtain ⟨p1, p2⟩ := SK_pop (g := 0) hk
    have hs2 : MS (pp σ 0) ρ P := hs.fr pp_fr (S' := []) Fr.rf (fun k hk => by simp; omega) (fun k hk => by simp)
    by_cases hz : ρ 19 0 = 0
    · refine fin (pp σ 0) ρ num num P [] ?_ (fun m => ?_) (pp_fr.mono (by simp)) Fr.rf (by simp) hs2 (by omega) p2 (Or.inr (Or.inl ⟨Or.inr rfl, rfl, rfl⟩))
      · rw [if_neg (show ¬ nI 13 = 0 by decide), if_neg (show ¬ nI 13 = 1 by decide), if_neg (show ¬ nI 13 = 2 by decide), if_neg (show ¬ nI 13 = 3 by decide), if_neg (show ¬ nI 13 = 9 by decide), if_neg (show ¬ nI 13 = 11 by decide), if_neg (show ¬ nI 13 = 12 by decide), if_pos (show nI 13 = 13 by decide), p1, Option.bind_some, if_pos hz]
      · rw [R0, if_neg (show ¬ nI 13 = 0 by decide), if_neg (show ¬ nI 13 = 1 by decide), if_neg (show ¬ nI 13 = 4 by decide), in58 false (by decide), Option.bind_some, if_pos (show b2 false = 0 by decide), if_neg (show ¬ nI 13 = 9 by decide), if_neg (show ¬ nI 13 = 10 by decide), if_neg (show ¬ nI 13 = 2 by decide), if_neg (show ¬ nI 13 = 3 by decide), if_neg (show ¬ nI 13 = 11 by decide), if_pos (show nI 13 = 13 by decide)]
        unfold b_MO_runStack_273 b_MO_runStack_295 b_MO_runStack_350
        rw [if_neg (show ¬ nI 13 = 2 by decide), s1, if_neg (show ¬ nI 13 = 11 by decide), if_pos (show nI 13 = 13 by decide), p_ld (by omega) (by decide), Option.bind_some, if_pos hz]
    · refine fin (pp σ 0) ρ (nI (p + 1)) (nI (p + 1)) P [] ?_ (fun m => ?_) (pp_fr.mono (by simp)) Fr.rf (by simp) hs2 (by omega) p2 (Or.inl ⟨rfl, rfl⟩)
      · rw [if_neg (show ¬ nI 13 = 0 by decide), if_neg (show ¬ nI 13 = 1 by decide), if_neg (show ¬ nI 13 = 2 by decide), if_neg (show ¬ nI 13 = 3 by decide), if_neg (show ¬ nI 13 = 9 by decide), if_neg (show ¬ nI 13 = 11 by decide), if_neg (show ¬ nI 13 = 12 by decide), if_pos (show nI 13 = 13 by decide), p1, Option.bind_some, if_neg hz]
      · rw [R0, if_neg (show ¬ nI 13 = 0 by decide), if_neg (show ¬ nI 13 = 1 by decide), if_neg (show ¬ nI 13 = 4 by decide), in58 false (by decide), Option.bind_some, if_pos (show b2 false = 0 by decide), if_neg (show ¬ nI 13 = 9 by decide), if_neg (show ¬ nI 13 = 10 by decide), if_neg (show ¬ nI 13 = 2 by decide), if_neg (show ¬ nI 13 = 3 by decide), if_neg (show ¬ nI 13 = 11 by decide), if_pos (show nI 13 = 13 by decide)]
        unfold b_MO_runStack_273 b_MO_runStack_295 b_MO_runStack_350
        rw [if_neg (show ¬ nI 13 = 2 by decide), s1, if_neg (show ¬ nI 13 = 11 by decide), if_pos (show nI 13 = 13 by decide), p_ld (by omega) (by decide), Option.bind_some, if_neg hz]
  · simp [st] at hst
    subst hst
    refine fin σ ρ (-1) (nI N) P [] ?_ (fun m => ?_) Fr.rf Fr.rf (by simp) hs (by omega) hk (Or.inr (Or.inr ⟨rfl, rfl, rfl⟩))
    · rw [if_neg (show ¬ nI 14 = 0 by decide), if_neg (show ¬ nI 14 = 1 by decide), if_neg (show ¬ nI 14 = 2 by decide), if_neg (show ¬ nI 14 = 3 by decide), if_neg (show ¬ nI 14 = 9 by decide), if_neg (show ¬ nI 14 = 11 by decide), if_neg (show ¬ nI 14 = 12 by decide), if_neg (show ¬ nI 14 = 13 by decide), if_pos (show nI 14 = 14 by decide)]
    · rw [R0, if_neg (show ¬ nI 14 = 0 by decide), if_neg (show ¬ nI 14 = 1 by decide), if_neg (show ¬ nI 14 = 4 by decide), in58 false (by decide), Option.bind_some, if_pos (show b2 false = 0 by decide), if_neg (show ¬ nI 14 = 9 by decide), if_neg (show ¬ nI 14 = 10 by decide), if_neg (show ¬ nI 14 = 2 by decide), if_neg (show ¬ nI 14 = 3 by decide), if_neg (show ¬ nI 14 = 11 by decide), if_neg (show ¬ nI 14 = 13 by decide), if_pos (show nI 14 = 14 by decide)]
      unfold b_MO_runStack_350
      dsimp only
      rw [e23]
