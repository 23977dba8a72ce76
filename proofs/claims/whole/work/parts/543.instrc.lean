-- ===== the class writes an instruction =====
theorem c_things {κ σ : SS} {C : List Op} {n D j s : Nat} {A : Nat → Int32} (hl : LY κ σ n A D) (hj : j < n) (h18 : ∀ i, i < n → σ 18 i = nI (blk κ nI (tT κ (Bf κ n) A D n) A n i).length) (hseg : SegAt C s (if tb1 κ (tT κ (Bf κ n) A D n) j then thg (tr κ (PL κ (tT κ (Bf κ n) A D n) A n) (tT κ (Bf κ n) A D n)) (rB κ j) (bN κ j) ((tT κ (Bf κ n) A D n) j).2.1 ++ thg (tr κ (PL κ (tT κ (Bf κ n) A D n) A n) (tT κ (Bf κ n) A D n)) (rA κ j) (aN κ j) ((tT κ (Bf κ n) A D n) j).1 else thg (tr κ (PL κ (tT κ (Bf κ n) A D n) A n) (tT κ (Bf κ n) A D n)) (rA κ j) (aN κ j) ((tT κ (Bf κ n) A D n) j).1 ++ thg (tr κ (PL κ (tT κ (Bf κ n) A D n) A n) (tT κ (Bf κ n) A D n)) (rB κ j) (bN κ j) ((tT κ (Bf κ n) A D n) j).2.1)) (hp : s + ((thg (tr κ (PL κ (tT κ (Bf κ n) A D n) A n) (tT κ (Bf κ n) A D n)) (rA κ j) (aN κ j) ((tT κ (Bf κ n) A D n) j).1).length + (thg (tr κ (PL κ (tT κ (Bf κ n) A D n) A n) (tT κ (Bf κ n) A D n)) (rB κ j) (bN κ j) ((tT κ (Bf κ n) A D n) j).2.1).length) ≤ 200) : ∃ σ' : SS, f_ST_writeThings (nI s) (nI j) σ = some (nI (s + ((thg (tr κ (PL κ (tT κ (Bf κ n) A D n) A n) (tT κ (Bf κ n) A D n)) (rA κ j) (aN κ j) ((tT κ (Bf κ n) A D n) j).1).length + (thg (tr κ (PL κ (tT κ (Bf κ n) A D n) A n) (tT κ (Bf κ n) A D n)) (rB κ j) (bN κ j) ((tT κ (Bf κ n) A D n) j).2.1).length)), σ') ∧ Fr [16, 17, 19] σ σ' ∧ (∀ q, Gd C σ q → Gd C σ' q) ∧ (∀ q, s ≤ q → q < s + ((thg (tr κ (PL κ (tT κ (Bf κ n) A D n) A n) (tT κ (Bf κ n) A D n)) (rA κ j) (aN κ j) ((tT κ (Bf κ n) A D n) j).1).length + (thg (tr κ (PL κ (tT κ (Bf κ n) A D n) A n) (tT κ (Bf κ n) A D n)) (rB κ j) (bN κ j) ((tT κ (Bf κ n) A D n) j).2.1).length) → Gd C σ' q ∨ ∃ i, Kid (tT κ (Bf κ n) A D n) j i ∧ ∃ si, σ' 19 i = nI si ∧ si ≤ q ∧ q < si + ((tr κ (PL κ (tT κ (Bf κ n) A D n) A n) (tT κ (Bf κ n) A D n)) i).length) ∧ (∀ i, Kid (tT κ (Bf κ n) A D n) j i → ∃ si, σ' 19 i = nI si ∧ SegAt C si ((tr κ (PL κ (tT κ (Bf κ n) A D n) A n) (tT κ (Bf κ n) A D n)) i) ∧ si + ((tr κ (PL κ (tT κ (Bf κ n) A D n) A n) (tT κ (Bf κ n) A D n)) i).length ≤ 200) ∧ ∀ i, ¬ Kid (tT κ (Bf κ n) A D n) j i → σ' 19 i = σ 19 i := by
  have hn4 := hl.2.1.1.1.1.1
  have hc := hl.2.1.1.1
  have hR := hl.2.1.2.2.1
  have hrt := hc.1.2 j hj
  have hDn : Dn (tT κ (Bf κ n) A D n) n := tT_Dn
  have hA : ∀ i, ((tT κ (Bf κ n) A D n) j).1 = some i → i < n ∧ rA κ j = true ∧ σ 18 i = nI ((tr κ (PL κ (tT κ (Bf κ n) A D n) A n) (tT κ (Bf κ n) A D n)) i).length := by
    intro i hi
    have := (hDn j hj).1 i hi
    exact ⟨by omega, fa_rA hj hi, by rw [h18 i (by omega), kid_blk hj (Or.inl hi), tr_l (pl' := (PL κ (tT κ (Bf κ n) A D n) A n)) hDn i (by omega)]⟩
  have hB : ∀ i, ((tT κ (Bf κ n) A D n) j).2.1 = some i → i < n ∧ rB κ j = true ∧ σ 18 i = nI ((tr κ (PL κ (tT κ (Bf κ n) A D n) A n) (tT κ (Bf κ n) A D n)) i).length := by
    intro i hi
    have := (hDn j hj).2 i hi
    exact ⟨by omega, fb_rB hj hi, by rw [h18 i (by omega), kid_blk hj (Or.inr hi), tr_l (pl' := (PL κ (tT κ (Bf κ n) A D n) A n)) hDn i (by omega)]⟩
  have xa : σ 5 j = if rA κ j then nI (aN κ j) else -1 := by rw [c_rowA hc hj, hl.1.rAq, hl.1.a]
  have xb : σ 6 j = if rB κ j then nI (bN κ j) else -1 := by rw [c_rowB hc hj, hl.1.rBq, hl.1.b]
  have ra : rA κ j = true → aN κ j < 10 := fun h => by rw [← hl.1.a]; exact (rA_lt hrt (by rw [hl.1.rAq]; exact h)).2
  have rb : rB κ j = true → bN κ j < 10 := fun h => by rw [← hl.1.b]; exact (rB_lt hrt (by rw [hl.1.rBq]; exact h)).2
  unfold f_ST_writeThings f_CA_inForA f_CA_inForB
  rw [g_ra (by omega), Option.bind_some]
  dsimp only
  rw [g_rb (by omega), Option.bind_some]
  dsimp only
  rw [p_ld (by omega) (by decide), Option.bind_some, Option.bind_some]
  dsimp only
  rw [p_ld (by omega) (by decide), Option.bind_some, Option.bind_some]
  dsimp only
  rw [c_takesB hl hj, Option.bind_some]
  simp only [b2_z]
  rw [(hR j hj).1, (hR j hj).2.1]
  cases htb : tb1 κ (tT κ (Bf κ n) A D n) j with
  | false =>
    rw [if_pos rfl]
    rw [htb, if_neg (by simp)] at hseg
    obtain ⟨y, σ1, σ', e1, e2, e3, e4, e5, e6, e7⟩ := c_two (σ := σ) (C := C) (f := (tr κ (PL κ (tT κ (Bf κ n) A D n) A n) (tT κ (Bf κ n) A D n))) (n := n) (rA κ j) (rB κ j) xa ra xb rb hn4 ((tT κ (Bf κ n) A D n) j).1 ((tT κ (Bf κ n) A D n) j).2.1 (fun i h h' => kid_ab hj h h') hseg hp hA hB
    rw [e1, Option.bind_some]
    dsimp only
    rw [e2, Option.bind_some]
    exact ⟨σ', rfl, e3, e4, e5, e6, e7⟩
  | true =>
    rw [if_neg (by simp)]
    rw [htb, if_pos rfl] at hseg
    rw [Nat.add_comm (thg (tr κ (PL κ (tT κ (Bf κ n) A D n) A n) (tT κ (Bf κ n) A D n)) (rA κ j) (aN κ j) ((tT κ (Bf κ n) A D n) j).1).length] at hp ⊢
    obtain ⟨y, σ1, σ', e1, e2, e3, e4, e5, e6, e7⟩ := c_two (σ := σ) (C := C) (f := (tr κ (PL κ (tT κ (Bf κ n) A D n) A n) (tT κ (Bf κ n) A D n))) (n := n) (rB κ j) (rA κ j) xb rb xa ra hn4 ((tT κ (Bf κ n) A D n) j).2.1 ((tT κ (Bf κ n) A D n) j).1 (fun i h h' => kid_ab hj h' h) hseg hp hB hA
    rw [e1, Option.bind_some]
    dsimp only
    rw [e2, Option.bind_some]
    refine ⟨σ', rfl, e3, e4, fun q h1 h2 => ?_, fun i hi => e6 i (Or.comm.mp hi), fun i hi => e7 i (fun h => hi (Or.comm.mp h))⟩
    rcases e5 q h1 h2 with h | ⟨i, hi, h⟩
    · exact Or.inl h
    · exact Or.inr ⟨i, Or.comm.mp hi, h⟩
/-- the own operation and the end -/
theorem c_28 {κ σ : SS} {C : List Op} {n D j p : Nat} {A : Nat → Int32} (hl : LY κ σ n A D) (hj : j < n) (h27 : σ 27 0 = nI (cum κ (tT κ (Bf κ n) A D n) A n n)) (h19 : ∀ k, k < n → car (tT κ (Bf κ n) A D n) n k = false → σ 19 k = nI (cum κ (tT κ (Bf κ n) A D n) A n k)) (hseg : SegAt C p (own κ (PL κ (tT κ (Bf κ n) A D n) A n) j ++ (if wR κ j && !car (tT κ (Bf κ n) A D n) n j then endl κ A j else []))) (hp : p + ((own κ (PL κ (tT κ (Bf κ n) A D n) A n) j).length + (if wR κ j && !car (tT κ (Bf κ n) A D n) n j then endl κ A j else []).length) ≤ 200) : ∃ σ' : SS, b_ST_writeInstruction_28 (nI j) (nI p) σ = some σ' ∧ Fr [16, 17, 28] σ σ' ∧ (∀ q, Gd C σ q → Gd C σ' q) ∧ (∀ q, p ≤ q → q < p + ((own κ (PL κ (tT κ (Bf κ n) A D n) A n) j).length + (if wR κ j && !car (tT κ (Bf κ n) A D n) n j then endl κ A j else []).length) → Gd C σ' q) ∧ σ' 28 0 = σ 28 0 + b2 (wnt κ (tT κ (Bf κ n) A D n) A n j) := by
  have hn4 := hl.2.1.1.1.1.1
  have hrt := hl.2.1.1.1.1.2 j hj
  unfold b_ST_writeInstruction_28
  rw [g_op (by omega), Option.bind_some]
  dsimp only
  rw [hrt.1, tb_own hrt.2.1, Option.bind_some, hl.1.o]
  by_cases h1 : oN κ j = 1
  · rw [if_pos h1, if_pos rfl]
    have ho : own κ (PL κ (tT κ (Bf κ n) A D n) A n) j = [] := by unfold own; rw [if_pos h1]
    rw [ho] at hseg hp ⊢
    have e0 : ∀ x : Nat, ([] : List Op).length + x = x := fun x => Nat.zero_add x
    rw [e0] at hp ⊢
    exact c_end hl hj (by omega) hseg
  · have ho : own κ (PL κ (tT κ (Bf κ n) A D n) A n) j = [(nI (if oN κ j = 0 then 0 else oN κ j + 3), onm κ (PL κ (tT κ (Bf κ n) A D n) A n) j)] := by unfold own; rw [if_neg h1]
    rw [ho] at hseg hp ⊢
    have e1 : ∀ (y : Op) (x : Nat), ([y] : List Op).length + x = 1 + x := fun y x => rfl
    rw [e1] at hp ⊢
    have h11 : oN κ j ≤ 11 := by rw [← hl.1.o]; exact hrt.2.1
    rw [if_neg h1, if_neg (p_nm1 (by split <;> omega)), c_ownN hl hj h27 h19, Option.bind_some]
    dsimp only
    rw [c_write (by omega), Option.bind_some]
    dsimp only
    have hs : C[p]? = some (nI (if oN κ j = 0 then 0 else oN κ j + 3), onm κ (PL κ (tT κ (Bf κ n) A D n) A n) j) := hseg 0 (by rw [List.length_append]; exact (show 0 < 1 + _ by omega))
    obtain ⟨g1, g2⟩ := wt_gd (σ := σ) hs
    obtain ⟨σ', d1, d2, d3, d4, d5⟩ := c_end (σ := wt σ p (nI (if oN κ j = 0 then 0 else oN κ j + 3)) (onm κ (PL κ (tT κ (Bf κ n) A D n) A n) j)) (C := C) (p := p + 1) (hl.fr wt_fr (fun k hk => by simp; omega)) hj (by omega) (Seg_r hseg)
    refine ⟨σ', d1, (wt_fr.mono (by simp)).tr d2, fun q hq => d3 q (g2 q hq), fun q h1 h2 => ?_, by rw [d5, wt_fr 28 (by simp)]⟩
    by_cases e : q = p
    · rw [e]; exact d3 p g1
    · exact d4 q (by omega) (by omega)
theorem c_instr {κ σ : SS} {C : List Op} {n D j s : Nat} {A : Nat → Int32} (hl : LY κ σ n A D) (hj : j < n) (h18 : ∀ i, i < n → σ 18 i = nI (blk κ nI (tT κ (Bf κ n) A D n) A n i).length) (h27 : σ 27 0 = nI (cum κ (tT κ (Bf κ n) A D n) A n n)) (h19 : ∀ k, k < n → car (tT κ (Bf κ n) A D n) n k = false → σ 19 k = nI (cum κ (tT κ (Bf κ n) A D n) A n k)) (hs : σ 19 j = nI s) (hseg : SegAt C s (blk κ (PL κ (tT κ (Bf κ n) A D n) A n) (tT κ (Bf κ n) A D n) A n j)) (hp : s + (blk κ (PL κ (tT κ (Bf κ n) A D n) A n) (tT κ (Bf κ n) A D n) A n j).length ≤ 200) : ∃ σ' : SS, f_ST_writeInstruction (nI j) σ = some σ' ∧ Fr [16, 17, 19, 28] σ σ' ∧ (∀ q, Gd C σ q → Gd C σ' q) ∧ (∀ q, s ≤ q → q < s + (blk κ (PL κ (tT κ (Bf κ n) A D n) A n) (tT κ (Bf κ n) A D n) A n j).length → Gd C σ' q ∨ ∃ i, Kid (tT κ (Bf κ n) A D n) j i ∧ ∃ si, σ' 19 i = nI si ∧ si ≤ q ∧ q < si + ((tr κ (PL κ (tT κ (Bf κ n) A D n) A n) (tT κ (Bf κ n) A D n)) i).length) ∧ (∀ i, Kid (tT κ (Bf κ n) A D n) j i → ∃ si, σ' 19 i = nI si ∧ SegAt C si ((tr κ (PL κ (tT κ (Bf κ n) A D n) A n) (tT κ (Bf κ n) A D n)) i) ∧ si + ((tr κ (PL κ (tT κ (Bf κ n) A D n) A n) (tT κ (Bf κ n) A D n)) i).length ≤ 200) ∧ (∀ i, ¬ Kid (tT κ (Bf κ n) A D n) j i → σ' 19 i = σ 19 i) ∧ σ' 28 0 = σ 28 0 + b2 (wnt κ (tT κ (Bf κ n) A D n) A n j) := by
  have hn4 := hl.2.1.1.1.1.1
  have hDn : Dn (tT κ (Bf κ n) A D n) n := tT_Dn
  unfold blk at hseg hp ⊢
  rw [tr_eq hDn hj] at hseg hp ⊢
  unfold tbd at hseg hp ⊢
  have lAB : ∀ (a b : List Op) (x : Bool), (if x then b ++ a else a ++ b).length = a.length + b.length := by
    intro a b x; cases x
    · exact List.length_append
    · rw [if_pos rfl, List.length_append]; omega
  obtain ⟨σ1, e1, e2, e3, e4, e5, e6⟩ := c_things (C := C) (s := s) hl hj h18 (Seg_l (Seg_l hseg)) (by simp only [List.length_append, lAB] at hp; omega)
  have hseg2 := Seg_r (Seg_l hseg)
  have hseg3 := Seg_r hseg
  rw [lAB] at hseg2
  simp only [List.length_append, lAB] at hseg3
  have hl1 : LY κ σ1 n A D := hl.fr e2 (fun k hk => by simp; omega)
  have g19 : ∀ k, k < n → car (tT κ (Bf κ n) A D n) n k = false → σ1 19 k = nI (cum κ (tT κ (Bf κ n) A D n) A n k) := by
    intro k hk hcar
    rw [e6 k (fun h => by rw [kid_car hj h] at hcar; cases hcar)]
    exact h19 k hk hcar
  have g27 : σ1 27 0 = nI (cum κ (tT κ (Bf κ n) A D n) A n n) := by rw [e2 27 (by simp)]; exact h27
  simp only [List.length_append, lAB] at hp ⊢
  unfold f_ST_writeInstruction
  rw [p_ld (by omega) (by decide), Option.bind_some, hs, e1, Option.bind_some]
  dsimp only
  rw [c_swap hl1 hj, Option.bind_some]
  simp only [b2_z]
  cases hsw : nsw κ (tT κ (Bf κ n) A D n) j with
  | false =>
    rw [hsw] at hseg2 hseg3 hp
    rw [if_pos rfl]
    simp only [Bool.false_eq_true, if_false, List.nil_append, List.length_nil, Nat.zero_add] at hseg2 hseg3 hp ⊢
    obtain ⟨σ', d1, d2, d3, d4, d5⟩ := c_28 (C := C) (p := s + ((thg (tr κ (PL κ (tT κ (Bf κ n) A D n) A n) (tT κ (Bf κ n) A D n)) (rA κ j) (aN κ j) ((tT κ (Bf κ n) A D n) j).1).length + (thg (tr κ (PL κ (tT κ (Bf κ n) A D n) A n) (tT κ (Bf κ n) A D n)) (rB κ j) (bN κ j) ((tT κ (Bf κ n) A D n) j).2.1).length)) hl1 hj g27 g19 (fun k hk => by
      rw [List.length_append] at hk
      by_cases hk1 : k < (own κ (PL κ (tT κ (Bf κ n) A D n) A n) j).length
      · rw [List.getElem?_append_left hk1]; exact hseg2 k hk1
      · have := hseg3 (k - (own κ (PL κ (tT κ (Bf κ n) A D n) A n) j).length) (by omega)
        rw [List.getElem?_append_right (by omega), ← this]
        congr 1
        omega) (by omega)
    refine ⟨σ', d1, (e2.mono (by simp)).tr (d2.mono (by simp)), fun q hq => d3 q (e3 q hq), fun q h1 h2 => ?_, fun i hi => ?_, fun i hi => ?_, by rw [d5, e2 28 (by simp)]⟩
    · by_cases hq : q < s + ((thg (tr κ (PL κ (tT κ (Bf κ n) A D n) A n) (tT κ (Bf κ n) A D n)) (rA κ j) (aN κ j) ((tT κ (Bf κ n) A D n) j).1).length + (thg (tr κ (PL κ (tT κ (Bf κ n) A D n) A n) (tT κ (Bf κ n) A D n)) (rB κ j) (bN κ j) ((tT κ (Bf κ n) A D n) j).2.1).length)
      · rcases e4 q h1 hq with h | ⟨i, hi, si, a1, a2⟩
        · exact Or.inl (d3 q h)
        · exact Or.inr ⟨i, hi, si, by rw [d2 19 (by simp)]; exact a1, a2⟩
      · exact Or.inl (d4 q (by omega) (by omega))
    · rw [d2 19 (by simp)]; exact e5 i hi
    · rw [d2 19 (by simp)]; exact e6 i hi
  | true =>
    rw [hsw] at hseg2 hseg3 hp
    rw [if_neg (by simp), c_write (by omega), Option.bind_some]
    simp only [if_true, List.length_cons, List.length_nil, Nat.zero_add] at hseg2 hseg3 hp ⊢
    have hz := hseg2 0 (by rw [List.length_append]; exact (show 0 < 1 + _ by omega))
    have hseg4 := Seg_r hseg2
    have hz : C[s + ((thg (tr κ (PL κ (tT κ (Bf κ n) A D n) A n) (tT κ (Bf κ n) A D n)) (rA κ j) (aN κ j) ((tT κ (Bf κ n) A D n) j).1).length + (thg (tr κ (PL κ (tT κ (Bf κ n) A D n) A n) (tT κ (Bf κ n) A D n)) (rB κ j) (bN κ j) ((tT κ (Bf κ n) A D n) j).2.1).length)]? = some (4, 0) := hz
    obtain ⟨g1, g2⟩ := wt_gd (σ := σ1) hz
    have hl2 : LY κ (wt σ1 (s + ((thg (tr κ (PL κ (tT κ (Bf κ n) A D n) A n) (tT κ (Bf κ n) A D n)) (rA κ j) (aN κ j) ((tT κ (Bf κ n) A D n) j).1).length + (thg (tr κ (PL κ (tT κ (Bf κ n) A D n) A n) (tT κ (Bf κ n) A D n)) (rB κ j) (bN κ j) ((tT κ (Bf κ n) A D n) j).2.1).length)) 4 0) n A D := hl1.fr wt_fr (fun k hk => by simp; omega)
    obtain ⟨σ', d1, d2, d3, d4, d5⟩ := c_28 (C := C) (p := s + ((thg (tr κ (PL κ (tT κ (Bf κ n) A D n) A n) (tT κ (Bf κ n) A D n)) (rA κ j) (aN κ j) ((tT κ (Bf κ n) A D n) j).1).length + (thg (tr κ (PL κ (tT κ (Bf κ n) A D n) A n) (tT κ (Bf κ n) A D n)) (rB κ j) (bN κ j) ((tT κ (Bf κ n) A D n) j).2.1).length) + 1) hl2 hj (by rw [wt_fr 27 (by simp)]; exact g27) (fun k hk hcar => by rw [wt_fr 19 (by simp)]; exact g19 k hk hcar) (fun k hk => by
      rw [List.length_append] at hk
      by_cases hk1 : k < (own κ (PL κ (tT κ (Bf κ n) A D n) A n) j).length
      · rw [List.getElem?_append_left hk1]; exact hseg4 k hk1
      · have := hseg3 (k - (own κ (PL κ (tT κ (Bf κ n) A D n) A n) j).length) (by omega)
        rw [List.getElem?_append_right (by omega), ← this]
        congr 1
        omega) (by omega)
    refine ⟨σ', d1, (e2.mono (by simp)).tr ((wt_fr.mono (by simp)).tr (d2.mono (by simp))), fun q hq => d3 q (g2 q (e3 q hq)), fun q h1 h2 => ?_, fun i hi => ?_, fun i hi => ?_, by rw [d5, wt_fr 28 (by simp), e2 28 (by simp)]⟩
    · by_cases hq : q < s + ((thg (tr κ (PL κ (tT κ (Bf κ n) A D n) A n) (tT κ (Bf κ n) A D n)) (rA κ j) (aN κ j) ((tT κ (Bf κ n) A D n) j).1).length + (thg (tr κ (PL κ (tT κ (Bf κ n) A D n) A n) (tT κ (Bf κ n) A D n)) (rB κ j) (bN κ j) ((tT κ (Bf κ n) A D n) j).2.1).length)
      · rcases e4 q h1 hq with h | ⟨i, hi, si, a1, a2⟩
        · exact Or.inl (d3 q (g2 q h))
        · exact Or.inr ⟨i, hi, si, by rw [d2 19 (by simp), wt_fr 19 (by simp)]; exact a1, a2⟩
      · by_cases he : q = s + ((thg (tr κ (PL κ (tT κ (Bf κ n) A D n) A n) (tT κ (Bf κ n) A D n)) (rA κ j) (aN κ j) ((tT κ (Bf κ n) A D n) j).1).length + (thg (tr κ (PL κ (tT κ (Bf κ n) A D n) A n) (tT κ (Bf κ n) A D n)) (rB κ j) (bN κ j) ((tT κ (Bf κ n) A D n) j).2.1).length)
        · rw [he]; exact Or.inl (d3 _ g1)
        · exact Or.inl (d4 q (by omega) (by omega))
    · rw [d2 19 (by simp), wt_fr 19 (by simp)]; exact e5 i hi
    · rw [d2 19 (by simp), wt_fr 19 (by simp)]; exact e6 i hi
