-- ===== lengths =====
theorem own_le {κ : SS} {pl : Nat → Int32} {j : Nat} : (own κ pl j).length ≤ 1 := by unfold own; split <;> simp
theorem tr_w {κ : SS} {B : Nat → Bool} {A : Nat → Int32} {D n : Nat} (j : Nat) (hj : j < n) : ∃ x y o, o ≤ 4 ∧ (tr κ nI (tT κ B A D n) j).length = x + y + o ∧ ((tT κ B A D n j).1 = none ∧ x ≤ 0 ∨ ∃ i, (tT κ B A D n j).1 = some i ∧ x = (tr κ nI (tT κ B A D n) i).length) ∧ ((tT κ B A D n j).2.1 = none ∧ y ≤ 0 ∨ ∃ i, (tT κ B A D n j).2.1 = some i ∧ y = (tr κ nI (tT κ B A D n) i).length) := by
  have hD : Dn (tT κ B A D n) n := tT_Dn
  rw [tr_eq hD hj]
  generalize hT : tT κ B A D n = T
  have ho := own_le (κ := κ) (pl := nI) (j := j)
  have hsw : (if nsw κ T j then [((4 : Int32), (0 : Int32))] else []).length ≤ 1 := by split <;> simp
  have hth : ∀ (b : Bool) (r : Nat) (q : Option Nat), ∃ x z, z ≤ 1 ∧ (thg (tr κ nI T) b r q).length = x + z ∧ (q = none ∧ x ≤ 0 ∨ ∃ i, q = some i ∧ x = (tr κ nI T i).length) := by
    intro b r q
    cases q with
    | none => exact ⟨0, (thg (tr κ nI T) b r none).length, by show (if b then [_] else []).length ≤ 1; split <;> simp, by omega, Or.inl ⟨rfl, by omega⟩⟩
    | some i => exact ⟨_, 0, by omega, rfl, Or.inr ⟨i, rfl, rfl⟩⟩
  obtain ⟨x, z1, a1, a2, a3⟩ := hth (rA κ j) (aN κ j) (T j).1
  obtain ⟨y, z2, b1, b2, b3⟩ := hth (rB κ j) (bN κ j) (T j).2.1
  refine ⟨x, y, z1 + z2 + (if nsw κ T j then [((4 : Int32), (0 : Int32))] else []).length + (own κ nI j).length, by omega, ?_, a3, b3⟩
  unfold tbd
  split <;> simp only [List.length_append, a2, b2] <;> omega
theorem cum_sm {κ : SS} {T : Nat → En} {A : Nat → Int32} {n : Nat} : ∀ j, cum κ T A n j = sm (fun i => if car T n i then 0 else (blk κ nI T A n i).length) j := by
  intro j
  induction j with
  | zero => rfl
  | succ j ih => rw [cum_s, ih]; rfl
theorem sm_k {f : Nat → Nat} : ∀ m, sm (fun i => f i + 1) m = sm f m + m := by
  intro m
  induction m with
  | zero => rfl
  | succ m ih => show sm _ m + (f m + 1) = sm f m + f m + (m + 1); rw [ih]; omega
theorem cum_le {κ : SS} {B : Nat → Bool} {A : Nat → Int32} {D n : Nat} (hn : n ≤ 40) {j : Nat} (hj : j ≤ n) : cum κ (tT κ B A D n) A n j ≤ 200 := by
  have h1 := sm_root hn (fun j => (tr κ nI (tT κ B A D n) j).length) tr_w n (Nat.le_refl _)
  have h2 : cum κ (tT κ B A D n) A n n ≤ sm (fun i => (if (gl (tT κ B A D n) n i).isSome then 0 else (tr κ nI (tT κ B A D n) i).length) + 1) n := by
    rw [cum_sm]
    apply sm_le
    intro i hi
    show (if (gl (tT κ B A D n) n i).isSome then 0 else _) ≤ _
    split
    · omega
    · unfold blk
      rw [List.length_append]
      have : (if wR κ i && !car (tT κ B A D n) n i then endl κ A i else []).length ≤ 1 := by
        split
        · unfold endl; split <;> simp
        · simp
      omega
  rw [sm_k] at h2
  have h3 := cum_m (κ := κ) (T := tT κ B A D n) (A := A) (n := n) (i := j) n hj
  omega
theorem tr_le {κ : SS} {B : Nat → Bool} {A : Nat → Int32} {D n : Nat} (hn : n ≤ 40) {j : Nat} (hj : j < n) : (tr κ nI (tT κ B A D n) j).length ≤ 160 := by
  have := w_le hn (fun j => (tr κ nI (tT κ B A D n) j).length) tr_w hj
  omega
-- ===== the class's words on a tree =====
/-- the class with carrying settled; κ has the code -/
def LY (κ σ : SS) (n : Nat) (A : Nat → Int32) (D : Nat) : Prop := Eqc σ κ ∧ SgC κ σ n A D n ∧ D ≤ 8
theorem LY.fr {κ σ σ' : SS} {n D : Nat} {A : Nat → Int32} {S : List Nat} (h : Fr S σ σ') (hs : ∀ k, k < 16 ∨ k = 25 ∨ k = 26 → k ∉ S) (hl : LY κ σ n A D) : LY κ σ' n A D := by
  obtain ⟨he, ⟨h1, h2, h3, h4, h5⟩, hD⟩ := hl
  refine ⟨fun k hk => (h k (hs k (by omega))).trans (he k hk), ⟨h1.fr h (fun k hk => hs k (by omega)), by rw [h 26 (hs 26 (by omega))]; exact h2, fun i hi => ?_, fun i hi => ?_, fun i a b => by omega⟩, hD⟩
  · rw [h 11 (hs 11 (by omega)), h 12 (hs 12 (by omega)), h 13 (hs 13 (by omega)), h 14 (hs 14 (by omega)), h 15 (hs 15 (by omega))]; exact h3 i hi
  · rw [h 10 (hs 10 (by omega))]; exact h4 i hi
theorem c_isCar {κ σ : SS} {n D j : Nat} {A : Nat → Int32} (hl : LY κ σ n A D) (hj : j < n) : f_CA_isCarried (nI j) σ = some (b2 (car (tT κ (Bf κ n) A D n) n j), σ) := by
  have hn4 := hl.2.1.1.1.1.1
  unfold f_CA_isCarried car
  rw [p_ld (by omega) (by decide), Option.bind_some, hl.2.1.2.2.2.1 j hj]
  cases hg : gl (tT κ (Bf κ n) A D n) n j with
  | none => rw [if_pos (show oI none = -1 from rfl)]; rfl
  | some k => rw [show oI (some k) = nI k from rfl, if_neg (p_nm1 (by have := gl_lt n k hg; omega))]; rfl
theorem c_takesB {κ σ : SS} {n D j : Nat} {A : Nat → Int32} (hl : LY κ σ n A D) (hj : j < n) : f_CA_takesBFirst (nI j) σ = some (b2 (tb1 κ (tT κ (Bf κ n) A D n) j), σ) := by
  have hn4 := hl.2.1.1.1.1.1
  have hc := hl.2.1.1.1
  have hR := hl.2.1.2.2.1
  have hDn : Dn (tT κ (Bf κ n) A D n) n := tT_Dn
  have hrt := hc.1.2 j hj
  unfold f_CA_takesBFirst tb1
  rw [g_rb (by omega), Option.bind_some]
  dsimp only
  rw [c_rowB hc hj, hl.1.rBq]
  cases hb : rB κ j with
  | false => simp only [Bool.false_eq_true, if_false, if_true, eq_self, Bool.false_and]; rfl
  | true =>
    have hbl := (rB_lt hrt (by rw [hl.1.rBq]; exact hb)).2
    simp only [if_true, Bool.true_and]
    rw [if_neg (p_nm1 (by omega)), p_ld (by omega) (by decide), Option.bind_some, (hR j hj).2.1, c_thing hn4 hR _ (fun i hi => by have := (hDn j hj).2 i hi; omega), Option.bind_some]
    dsimp only
    rw [p_ld (by omega) (by decide), Option.bind_some, (hR j hj).1, c_thing hn4 hR _ (fun i hi => by have := (hDn j hj).1 i hi; omega), Option.bind_some]
    dsimp only
    have hnb := nb (κ := κ) (B := Bf κ n) (A := A) hl.2.2 n
    have h1 := ndT_le hnb (tT κ (Bf κ n) A D n j).1
    have h2 := ndT_le hnb (tT κ (Bf κ n) A D n j).2.1
    by_cases hlt : ndT (tT κ (Bf κ n) A D n) (tT κ (Bf κ n) A D n j).1 < ndT (tT κ (Bf κ n) A D n) (tT κ (Bf κ n) A D n j).2.1
    · rw [if_neg (nI_ge hlt (by omega)), decide_eq_true hlt]; rfl
    · rw [if_pos (nI_le (by omega) (by omega)), decide_eq_false hlt]; rfl
theorem c_swap {κ σ : SS} {n D j : Nat} {A : Nat → Int32} (hl : LY κ σ n A D) (hj : j < n) : f_ST_needsSwap (nI j) σ = some (b2 (nsw κ (tT κ (Bf κ n) A D n) j), σ) := by
  have hn4 := hl.2.1.1.1.1.1
  have hrt := hl.2.1.1.1.1.2 j hj
  have h11 := hrt.2.1
  unfold f_ST_needsSwap nsw
  rw [g_op (by omega), Option.bind_some]
  dsimp only
  rw [c_takesB hl hj, Option.bind_some, hrt.1]
  simp only [b2_z]
  rw [← hl.1.o]
  cases tb1 κ (tT κ (Bf κ n) A D n) j with
  | false => rw [if_pos rfl]; rfl
  | true =>
    rw [if_neg (by simp), Bool.true_and]
    by_cases h3 : oN σ j = 3
    · rw [h3, if_pos (by decide)]; rfl
    · rw [if_neg (show ¬ nI (oN σ j) = 3 from nI_neq (b := 3) (by omega) (by omega) h3)]
      by_cases h5 : oN σ j = 5
      · rw [h5, if_pos (by decide)]; rfl
      · rw [if_neg (show ¬ nI (oN σ j) = 5 from nI_neq (b := 5) (by omega) (by omega) h5)]
        by_cases h7 : oN σ j = 7
        · rw [h7, if_pos (by decide)]; rfl
        · rw [if_neg (show ¬ nI (oN σ j) = 7 from nI_neq (b := 7) (by omega) (by omega) h7), bnq h3, bnq h5, bnq h7]; rfl
theorem c_leaves {κ σ : SS} {n D j : Nat} {A : Nat → Int32} (hl : LY κ σ n A D) (hj : j < n) : f_ST_leavesValue (nI j) σ = some (b2 (wR κ j && !car (tT κ (Bf κ n) A D n) n j), σ) := by
  have hn4 := hl.2.1.1.1.1.1
  have hc := hl.2.1.1.1
  unfold f_ST_leavesValue
  rw [g_w (by omega), Option.bind_some]
  dsimp only
  rw [c_rowW hc hj, hl.1.wRq]
  cases hw : wR κ j with
  | false => simp only [Bool.false_eq_true, if_false, if_true, eq_self, Bool.false_and]; rfl
  | true =>
    simp only [if_true, Bool.true_and]
    rw [if_neg (p_nm1 (by have := (hc.1.2 j hj).2.2.2.1; omega)), c_isCar hl hj, Option.bind_some]
    simp only [b2_z]
    cases car (tT κ (Bf κ n) A D n) n j <;> rfl
/-- the operation's own number in the stack code -/
theorem tb_own {o : Nat} (ho : o ≤ 11) : ld tbC3 12 (nI o) = some (if o = 1 then -1 else nI (if o = 0 then 0 else o + 3)) := by
  rw [p_ld (by omega) (by decide)]
  rcases (show o = 0 ∨ o = 1 ∨ o = 2 ∨ o = 3 ∨ o = 4 ∨ o = 5 ∨ o = 6 ∨ o = 7 ∨ o = 8 ∨ o = 9 ∨ o = 10 ∨ o = 11 by omega) with rfl | rfl | rfl | rfl | rfl | rfl | rfl | rfl | rfl | rfl | rfl | rfl <;> rfl
theorem fa_rA {κ : SS} {B : Nat → Bool} {A : Nat → Int32} {D n j i : Nat} (hj : j < n) (h : (tT κ B A D n j).1 = some i) : rA κ j = true := by
  rw [tT_st n hj] at h
  exact (fa_s h).1
theorem fb_rB {κ : SS} {B : Nat → Bool} {A : Nat → Int32} {D n j i : Nat} (hj : j < n) (h : (tT κ B A D n j).2.1 = some i) : rB κ j = true := by
  rw [tT_st n hj] at h
  exact (fb_s h).1
theorem kid_car {κ : SS} {B : Nat → Bool} {A : Nat → Int32} {D n j i : Nat} (hj : j < n) (h : Kid (tT κ B A D n) j i) : car (tT κ B A D n) n i = true := gl_some n hj h
theorem kid_blk {κ : SS} {pl : Nat → Int32} {B : Nat → Bool} {A : Nat → Int32} {D n j i : Nat} (hj : j < n) (h : Kid (tT κ B A D n) j i) : blk κ pl (tT κ B A D n) A n i = tr κ pl (tT κ B A D n) i := by
  unfold blk
  rw [kid_car hj h]
  simp
theorem c_thW {σ : SS} {f : Nat → List Op} {n r : Nat} (b : Bool) {x : Int32} (hx : x = if b then nI r else -1) (hr : b = true → r < 10) (hn4 : n ≤ 40) (o : Option Nat) (ho : ∀ i, o = some i → i < n ∧ b = true ∧ σ 18 i = nI (f i).length) : f_ST_thingWidth x (oI o) σ = some (nI (thg f b r o).length, σ) := by
  unfold f_ST_thingWidth
  cases b with
  | false =>
    have hx : x = -1 := by simpa using hx
    rw [if_pos hx]
    cases o with
    | none => rfl
    | some i => have := (ho i rfl).2.1; cases this
  | true =>
    have hx : x = nI r := by simpa using hx
    rw [if_neg (by rw [hx]; exact p_nm1 (by have := hr rfl; omega))]
    cases o with
    | none => rw [if_pos (show oI none = -1 from rfl)]; rfl
    | some i =>
      obtain ⟨h1, -, h2⟩ := ho i rfl
      rw [show oI (some i) = nI i from rfl, if_neg (p_nm1 (by omega)), p_ld (by omega) (by decide), Option.bind_some, h2]
      rfl
theorem c_width {κ σ : SS} {n D j : Nat} {A : Nat → Int32} (hl : LY κ σ n A D) (hj : j < n) (h18 : ∀ i, i < j → σ 18 i = nI (blk κ nI (tT κ (Bf κ n) A D n) A n i).length) : f_ST_widthOf (nI j) σ = some (nI (blk κ nI (tT κ (Bf κ n) A D n) A n j).length, σ) := by
  have hn4 := hl.2.1.1.1.1.1
  have hc := hl.2.1.1.1
  have hR := hl.2.1.2.2.1
  have hrt := hc.1.2 j hj
  have hDn : Dn (tT κ (Bf κ n) A D n) n := tT_Dn
  unfold f_ST_widthOf
  rw [g_ra (by omega), Option.bind_some]
  dsimp only
  unfold f_CA_inForA f_CA_inForB
  rw [p_ld (by omega) (by decide), Option.bind_some, Option.bind_some]
  dsimp only
  rw [(hR j hj).1, c_thW (f := tr κ nI (tT κ (Bf κ n) A D n)) (rA σ j) (c_rowA hc hj) (fun h => (rA_lt hrt h).2) hn4 _ (fun i hi => ⟨by have := (hDn j hj).1 i hi; omega, by rw [hl.1.rAq]; exact fa_rA hj hi, by rw [h18 i ((hDn j hj).1 i hi), kid_blk hj (Or.inl hi)]⟩), Option.bind_some]
  dsimp only
  rw [g_rb (by omega), Option.bind_some]
  dsimp only
  rw [p_ld (by omega) (by decide), Option.bind_some, Option.bind_some]
  dsimp only
  rw [(hR j hj).2.1, c_thW (f := tr κ nI (tT κ (Bf κ n) A D n)) (rB σ j) (c_rowB hc hj) (fun h => (rB_lt hrt h).2) hn4 _ (fun i hi => ⟨by have := (hDn j hj).2 i hi; omega, by rw [hl.1.rBq]; exact fb_rB hj hi, by rw [h18 i ((hDn j hj).2 i hi), kid_blk hj (Or.inr hi)]⟩), Option.bind_some]
  dsimp only
  rw [c_swap hl hj, Option.bind_some]
  simp only [b2_z]
  rw [hl.1.rAq, hl.1.rBq, hl.1.a, hl.1.b, nI_add]
  have t72 : ∀ k : Nat, b_ST_widthOf_72 (nI j) (nI k) σ = some (nI (k + (if wR κ j && !car (tT κ (Bf κ n) A D n) n j then endl κ A j else []).length), σ) := by
    intro k
    unfold b_ST_widthOf_72
    rw [c_leaves hl hj, Option.bind_some]
    simp only [b2_z]
    cases wR κ j && !car (tT κ (Bf κ n) A D n) n j with
    | false => rw [if_pos rfl]; rfl
    | true =>
      rw [if_neg (by simp), nI_1, if_pos rfl]
      have : (endl κ A j).length = 1 := by unfold endl; split <;> rfl
      rw [this]
  have hlen : (blk κ nI (tT κ (Bf κ n) A D n) A n j).length = (thg (tr κ nI (tT κ (Bf κ n) A D n)) (rA κ j) (aN κ j) (tT κ (Bf κ n) A D n j).1).length + (thg (tr κ nI (tT κ (Bf κ n) A D n)) (rB κ j) (bN κ j) (tT κ (Bf κ n) A D n j).2.1).length + (if nsw κ (tT κ (Bf κ n) A D n) j then 1 else 0) + (own κ nI j).length + (if wR κ j && !car (tT κ (Bf κ n) A D n) n j then endl κ A j else []).length := by
    unfold blk
    rw [tr_eq hDn hj]
    unfold tbd
    have hs : (if nsw κ (tT κ (Bf κ n) A D n) j then [((4 : Int32), (0 : Int32))] else []).length = if nsw κ (tT κ (Bf κ n) A D n) j then 1 else 0 := by split <;> rfl
    simp only [List.length_append, hs]
    split <;> simp only [List.length_append] <;> omega
  have hown : (own κ nI j).length = if oN κ j = 1 then 0 else 1 := by unfold own; split <;> rfl
  rw [hlen, hown]
  have h11 := hrt.2.1
  have hop : ∀ k : Nat, (f_RC_operationOf (nI j) σ).bind (fun q16 => (ld tbC3 12 q16.1).bind fun v18 => if v18 = -1 then b_ST_widthOf_72 (nI j) (nI k) q16.2 else b_ST_widthOf_72 (nI j) (nI k + 1) q16.2) = some (nI (k + (if oN κ j = 1 then 0 else 1) + (if wR κ j && !car (tT κ (Bf κ n) A D n) n j then endl κ A j else []).length), σ) := by
    intro k
    rw [g_op (by omega), Option.bind_some]
    dsimp only
    rw [hrt.1, tb_own h11, Option.bind_some, hl.1.o]
    by_cases h1 : oN κ j = 1
    · rw [if_pos h1, if_pos rfl, if_pos h1]; exact t72 k
    · rw [if_neg h1, if_neg h1, if_neg (p_nm1 (by rw [← hl.1.o]; split <;> omega)), nI_1]; exact t72 (k + 1)
  cases nsw κ (tT κ (Bf κ n) A D n) j with
  | false => rw [if_pos rfl]; exact hop _
  | true =>
    rw [if_neg (by simp)]
    have := hop ((thg (tr κ nI (tT κ (Bf κ n) A D n)) (rA κ j) (aN κ j) (tT κ (Bf κ n) A D n j).1).length + (thg (tr κ nI (tT κ (Bf κ n) A D n)) (rB κ j) (bN κ j) (tT κ (Bf κ n) A D n j).2.1).length + 1)
    rw [← nI_1] at this
    exact this
