-- ===== the reference settles =====
def RM (τ : SS) (T : Nat → En) (j : Nat) : Prop := ∀ i, i < j → τ 7 i = oI (T i).1 ∧ τ 8 i = oI (T i).2.1 ∧ τ 9 i = nI (T i).2.2.1 ∧ τ 10 i = (T i).2.2.2.1 ∧ τ 11 i = b2 (T i).2.2.2.2
theorem oI_neg {o : Option Nat} (ho : ∀ i, o = some i → i < 40) : (oI o < 0) ↔ o = none := by
  cases o with
  | none => exact ⟨fun _ => rfl, fun _ => by decide⟩
  | some i => exact ⟨fun h => absurd h (nI_pos (by have := ho i rfl; omega)), fun h => by cases h⟩
theorem m_need {τ : SS} {T : Nat → En} {n j : Nat} (hc : CM τ n) (hj : j < n) (hT : ∀ i, i < j → τ 9 i = nI (T i).2.2.1) (hb : ∀ i, (T i).2.2.1 ≤ 8) (x y : Option Nat) (hx : ∀ i, x = some i → i < j) (hy : ∀ i, y = some i → i < j) : f_MO_needOf (nI j) (oI x) (oI y) τ = some (nI (ndW τ T j x y), τ) := by
  have hn4 := hc.1.1
  have hrt := hc.1.2 j hj
  have h11 := hrt.2.1
  have h1 := ndT_le hb x
  have h2 := ndT_le hb y
  have t62 : ∀ a b : Nat, a ≤ 8 → b ≤ 8 → b_MO_needOf_62 (nI a) (nI b) τ = some (nI (if a = b then a + 1 else max a b), τ) := by
    intro a b ha hb
    unfold b_MO_needOf_62
    by_cases e : a = b
    · rw [if_pos (by rw [e]), if_pos e, nI_1]
    · rw [if_neg (nI_neq (by omega) (by omega) e), if_neg e]
      by_cases l : a ≤ b
      · rw [if_pos (nI_le l (by omega)), Nat.max_eq_right l]
      · rw [if_neg (nI_ge (by omega) (by omega)), Nat.max_eq_left (by omega)]
  have t35 : ∀ a : Nat, a ≤ 8 → b_MO_needOf_35 (nI j) (oI y) (nI a) τ = some (nI (if rB τ j = false then a else if a = ndT T y then a + 1 else max a (ndT T y)), τ) := by
    intro a ha
    unfold b_MO_needOf_35
    rw [m_rB (by omega) hrt, Option.bind_some]
    simp only [b2_z]
    by_cases hbb : rB τ j = false
    · rw [if_pos hbb, if_pos hbb]
    · rw [if_neg hbb, if_neg hbb]
      cases y with
      | none => rw [if_pos (show oI none < 0 by decide)]; exact t62 a 1 ha (by omega)
      | some k =>
        have hk := hy k rfl
        rw [if_neg (show ¬ oI (some k) < 0 from nI_pos (by omega)), show oI (some k) = nI k from rfl, p_ld (by omega) (by decide), Option.bind_some, hT k hk]
        exact t62 a _ ha (hb k)
  unfold f_MO_needOf ndW
  rw [p_ld (by omega) (by decide), Option.bind_some, hrt.1]
  by_cases h0 : oN τ j = 0
  · have : rA τ j = false := by unfold rA; rw [h0]; rfl
    rw [if_pos (show nI (oN τ j) = 0 by rw [h0]; rfl), this, if_pos rfl, if_pos h0]
    rfl
  · rw [if_neg (show ¬ nI (oN τ j) = 0 from nI_neq (b := 0) (by omega) (by omega) h0), m_rA (by omega) hrt, Option.bind_some]
    simp only [b2_z]
    by_cases haa : rA τ j = false
    · rw [if_pos haa, if_pos haa, if_neg h0]; rfl
    · rw [if_neg haa, if_neg haa]
      cases x with
      | none => rw [if_pos (show oI none < 0 by decide)]; exact t35 1 (by omega)
      | some k =>
        have hk := hx k rfl
        rw [if_neg (show ¬ oI (some k) < 0 from nI_pos (by omega)), show oI (some k) = nI k from rfl, p_ld (by omega) (by decide), Option.bind_some, hT k hk]
        exact t35 _ (hb k)
/-- the end: need, reads, loads -/
theorem m_156 {τ : SS} {n j : Nat} {T : Nat → En} {fa fb : Option Nat} (hc : CM τ n) (hj : j < n) (hT : ∀ i, i < j → τ 9 i = nI (T i).2.2.1 ∧ τ 10 i = (T i).2.2.2.1 ∧ τ 11 i = b2 (T i).2.2.2.2) (hb : ∀ i, (T i).2.2.1 ≤ 8) (h7 : τ 7 j = oI fa) (h8 : τ 8 j = oI fb) (ha : ∀ i, fa = some i → i < j) (hbb : ∀ i, fb = some i → i < j) (hra : rA τ j = false → fa = none) (hrb : rB τ j = false → fb = none) : b_MO_settle_156 (nI j) τ = some (su (su (su τ 9 j (nI (ndW τ T j fa fb))) 10 j (rdT T (rA τ j) (aN τ j) fa ||| rdT T (rB τ j) (bN τ j) fb)) 11 j (b2 (oN τ j == 6 || ldT T fa || ldT T fb))) := by
  have hn4 := hc.1.1
  have hrt := hc.1.2 j hj
  have h11 := hrt.2.1
  unfold b_MO_settle_156
  rw [p_ld (by omega) (by decide), Option.bind_some, p_ld (by omega) (by decide), Option.bind_some, h7, h8, m_need hc hj (fun i hi => (hT i hi).1) hb fa fb ha hbb, Option.bind_some]
  dsimp only
  rw [p_sto (by omega) (by decide), Option.bind_some]
  obtain ⟨τ1, hτ1⟩ : ∃ τ1, τ1 = su τ 9 j (nI (ndW τ T j fa fb)) := ⟨_, rfl⟩
  rw [← hτ1]
  have f1 : Fr [9] τ τ1 := by rw [hτ1]; exact Fr.su (by simp)
  have he1 : Eqc τ1 τ := f1.eqc (fun k hk => by simp; omega)
  have hrt1 : Rt τ1 j := he1.rt hrt
  -- reads and loads behind it
  have fin : ∀ x : Int32, ∀ y : Int32, b_MO_settle_267 (nI j) x y τ1 = some (su (su τ1 10 j (x ||| y)) 11 j (b2 (oN τ j == 6 || ldT T fa || ldT T fb))) := by
    intro x y
    unfold b_MO_settle_267
    rw [p_sto (by omega) (by decide), Option.bind_some]
    obtain ⟨τ2, hτ2⟩ : ∃ τ2, τ2 = su τ1 10 j (x ||| y) := ⟨_, rfl⟩
    rw [← hτ2]
    have f2 : Fr [9, 10] τ τ2 := by rw [hτ2]; exact (f1.mono (by simp)).tr (Fr.su (by simp))
    rw [p_ld (by omega) (by decide), Option.bind_some, f2 0 (by simp), hrt.1]
    have t319 : b_MO_settle_319 (nI j) (nI j) τ2 = some (su τ2 11 j (b2 (ldT T fb))) := by
      unfold b_MO_settle_319
      rw [p_ld (by omega) (by decide), Option.bind_some, f2 8 (by simp), h8]
      cases hfb : fb with
      | none =>
        rw [if_pos (show oI none < 0 by decide), p_nz0, p_sto (by omega) (by decide), Option.bind_some]
        rfl
      | some k =>
        have hk := hbb k hfb
        rw [if_neg (show ¬ oI (some k) < 0 from nI_pos (by omega)), Option.bind_some, show oI (some k) = nI k from rfl, p_ld (by omega) (by decide), Option.bind_some, f2 11 (by simp), (hT k hk).2.2]
        simp only [b2_z]
        show _ = some (su τ2 11 j (b2 (T k).2.2.2.2))
        cases (T k).2.2.2.2 with
        | false => rw [if_pos rfl, p_nz0, p_sto (by omega) (by decide), Option.bind_some]; rfl
        | true => rw [if_neg (by simp), p_nz1, p_sto (by omega) (by decide), Option.bind_some]; rfl
    by_cases o6 : oN τ j = 6
    · rw [if_pos (show nI (oN τ j) = 6 by rw [o6]; rfl), p_nz1, p_sto (by omega) (by decide), Option.bind_some, o6]
      rfl
    · rw [if_neg (show ¬ nI (oN τ j) = 6 from nI_neq (b := 6) (by omega) (by omega) o6), bnq o6, Bool.false_or, p_ld (by omega) (by decide), Option.bind_some, f2 7 (by simp), h7]
      cases hfa : fa with
      | none => rw [if_pos (show oI none < 0 by decide), t319]; rfl
      | some k =>
        have hk := ha k hfa
        rw [if_neg (show ¬ oI (some k) < 0 from nI_pos (by omega)), Option.bind_some, show oI (some k) = nI k from rfl, p_ld (by omega) (by decide), Option.bind_some, f2 11 (by simp), (hT k hk).2.2]
        simp only [b2_z]
        show _ = some (su τ2 11 j (b2 ((T k).2.2.2.2 || ldT T fb)))
        cases (T k).2.2.2.2 with
        | false => rw [if_pos rfl, t319, Bool.false_or]
        | true => rw [if_neg (by simp), p_nz1, p_sto (by omega) (by decide), Option.bind_some]; rfl
  have t222 : ∀ x : Int32, b_MO_settle_222 (nI j) x τ1 = some (su (su τ1 10 j (x ||| rdT T (rB τ j) (bN τ j) fb)) 11 j (b2 (oN τ j == 6 || ldT T fa || ldT T fb))) := by
    intro x
    unfold b_MO_settle_222
    rw [m_rB (by omega) hrt1, Option.bind_some, he1.rBq]
    simp only [b2_z]
    cases hrb' : rB τ j with
    | false => rw [if_pos rfl, fin x 0, hrb hrb']; rfl
    | true =>
      rw [if_neg (by simp), p_ld (by omega) (by decide), Option.bind_some, f1 8 (by simp), h8]
      cases hfb : fb with
      | none =>
        rw [if_pos (show oI none < 0 by decide), p_ld (by omega) (by decide), Option.bind_some, f1 3 (by simp), (rB_lt hrt hrb').1]
        have := fin x ((1 : Int32) <<< (nI (bN τ j) &&& 31))
        rw [hfb] at this
        exact this
      | some k =>
        have hk := hbb k hfb
        rw [if_neg (show ¬ oI (some k) < 0 from nI_pos (by omega)), Option.bind_some, show oI (some k) = nI k from rfl, p_ld (by omega) (by decide), Option.bind_some, f1 10 (by simp), (hT k hk).2.1]
        have := fin x (T k).2.2.2.1
        rw [hfb] at this
        exact this
  rw [m_rA (by omega) hrt1, Option.bind_some, he1.rAq]
  simp only [b2_z]
  cases hra' : rA τ j with
  | false => rw [if_pos rfl, t222 0, hra hra']; rfl
  | true =>
    rw [if_neg (by simp), p_ld (by omega) (by decide), Option.bind_some, f1 7 (by simp), h7]
    cases hfa : fa with
    | none =>
      rw [if_pos (show oI none < 0 by decide), p_ld (by omega) (by decide), Option.bind_some, f1 2 (by simp), (rA_lt hrt hra').1]
      have := t222 ((1 : Int32) <<< (nI (aN τ j) &&& 31))
      rw [hfa] at this
      exact this
    | some k =>
      have hk := ha k hfa
      rw [if_neg (show ¬ oI (some k) < 0 from nI_pos (by omega)), Option.bind_some, show oI (some k) = nI k from rfl, p_ld (by omega) (by decide), Option.bind_some, f1 10 (by simp), (hT k hk).2.1]
      have := t222 (T k).2.2.2.1
      rw [hfa] at this
      exact this
/-- the contents with what is carried for a and b at j -/
def mp (τ : SS) (j : Nat) (fa fb : Option Nat) : SS := fun k i => if k = 7 ∧ i = j then oI fa else if k = 8 ∧ i = j then oI fb else if k = 6 ∧ (fa = some i ∨ fb = some i) then nI j else τ k i
theorem m_109 {τ : SS} {n j D : Nat} {A : Nat → Int32} {T : Nat → En} {fa : Option Nat} (hc : KM τ n A) (hj : j < n) (hT : ∀ i, i < j → τ 9 i = nI (T i).2.2.1 ∧ τ 10 i = (T i).2.2.2.1 ∧ τ 11 i = b2 (T i).2.2.2.2) (hb : ∀ i, (T i).2.2.1 ≤ 8) (hD : D ≤ 8) (h20 : τ 20 0 = nI D) (h7 : τ 7 j = oI fa) (ha : ∀ i, fa = some i → i < j) (h8 : τ 8 j = -1) : ∃ fb, fb = (if rB τ j then pick τ (Bf τ n) A T j (bN τ j) (fun x => ndW τ T j fa x) D else none) ∧ b_MO_settle_86 (nI j) τ = b_MO_settle_156 (nI j) (match fb with | none => τ | some i => su (su τ 8 j (nI i)) 6 i (nI j)) := by
  have hn4 := hc.1.1.1
  have hrt := hc.1.1.2 j hj
  refine ⟨_, rfl, ?_⟩
  unfold b_MO_settle_86
  rw [m_rB (by omega) hrt, Option.bind_some]
  simp only [b2_z]
  cases hrb : rB τ j with
  | false =>
    rw [if_pos rfl]
    unfold b_MO_settle_109
    rw [if_pos (by decide)]
    rfl
  | true =>
    have hbl := rB_lt hrt hrb
    rw [if_neg (by simp), p_ld (by omega) (by decide), Option.bind_some, hbl.1]
    have hwb : f_MO_writerBefore (nI j) (nI (bN τ j)) τ = some (oI (lwo τ (Bf τ n) (bN τ j) j), τ) := by
      unfold f_MO_writerBefore
      exact m_wb hc hbl.2 FU j hj (by unfold FU; omega)
    rw [hwb, Option.bind_some]
    dsimp only
    unfold b_MO_settle_109 pick crr
    cases hl : lwo τ (Bf τ n) (bN τ j) j with
    | none => rw [if_pos (show oI none < 0 by decide)]; rfl
    | some i =>
      obtain ⟨l1, l2, l3, l4⟩ := lwo_s j hl
      rw [if_neg (show ¬ oI (some i) < 0 from nI_pos (by omega)), show oI (some i) = nI i from rfl, m_can hc hj (hT i l1).2.1 (hT i l1).2.2 hl, Option.bind_some]
      simp only [b2_z, if_true]
      by_cases hg : (ro τ j (bN τ j) && nrb τ (Bf τ n) A (bN τ j) j 41 (i + 1) i && cwt τ (T i).2.2.2.1 (T i).2.2.2.2 j 41 (i + 1)) = true
      · rw [if_neg (by simp [hg]), p_ld (by omega) (by decide), Option.bind_some, h7, show nI i = oI (some i) from rfl, m_need hc.1 hj (fun k hk => (hT k hk).1) hb fa (some i) ha (fun k hk => by cases hk; exact l1), Option.bind_some, if_pos hg]
        dsimp only
        simp only [h20]
        have hle := ndW_le (κ := τ) (j := j) hb fa (some i)
        by_cases hD2 : ndW τ T j fa (some i) ≤ D
        · rw [if_neg (nI_nlt hD2 (by omega)), if_pos hD2, show oI (some i) = nI i from rfl, p_sto (by omega) (by decide), Option.bind_some, p_sto (by omega) (by decide), Option.bind_some]
        · rw [if_pos (nI_lt (by omega) (by omega)), if_neg hD2]
      · rw [if_pos (by simpa using hg), if_neg hg]
theorem m_settle {κ τ : SS} {n j D : Nat} {A : Nat → Int32} {T : Nat → En} (hc : KM τ n A) (hj : j < n) (hT : ∀ i, i < j → τ 9 i = nI (T i).2.2.1 ∧ τ 10 i = (T i).2.2.2.1 ∧ τ 11 i = b2 (T i).2.2.2.2) (hb : ∀ i, (T i).2.2.1 ≤ 8) (hD : D ≤ 8) (h20 : τ 20 0 = nI D) : ∃ τ' : SS, f_MO_settle (nI j) τ = some τ' ∧ Fr [6, 7, 8, 9, 10, 11] τ τ' ∧ τ' 7 j = oI (tFa τ (Bf τ n) A D T j) ∧ τ' 8 j = oI (tFb τ (Bf τ n) A D T j) ∧ τ' 9 j = nI (ndW τ T j (tFa τ (Bf τ n) A D T j) (tFb τ (Bf τ n) A D T j)) ∧ τ' 10 j = (rdT T (rA τ j) (aN τ j) (tFa τ (Bf τ n) A D T j) ||| rdT T (rB τ j) (bN τ j) (tFb τ (Bf τ n) A D T j)) ∧ τ' 11 j = b2 (oN τ j == 6 || ldT T (tFa τ (Bf τ n) A D T j) || ldT T (tFb τ (Bf τ n) A D T j)) ∧ (∀ i, i ≠ j → τ' 7 i = τ 7 i ∧ τ' 8 i = τ 8 i ∧ τ' 9 i = τ 9 i ∧ τ' 10 i = τ 10 i ∧ τ' 11 i = τ 11 i) ∧ ∀ i, τ' 6 i = if tFa τ (Bf τ n) A D T j = some i ∨ tFb τ (Bf τ n) A D T j = some i then nI j else if i = j then -1 else τ 6 i := by
  have hn4 := hc.1.1.1
  have hrt := hc.1.1.2 j hj
  unfold f_MO_settle
  rw [p_sto (by omega) (by decide), Option.bind_some, p_sto (by omega) (by decide), Option.bind_some, p_sto (by omega) (by decide), Option.bind_some]
  obtain ⟨τ0, hτ0⟩ : ∃ τ0, τ0 = su (su (su τ 7 j (-1)) 8 j (-1)) 6 j (-1) := ⟨_, rfl⟩
  rw [← hτ0]
  have f0 : Fr [6, 7, 8] τ τ0 := by rw [hτ0]; exact Fr.tr (Fr.tr (Fr.su (by simp)) (Fr.su (by simp))) (Fr.su (by simp))
  have he0 : Eqc τ0 τ := f0.eqc (fun k hk => by simp; omega)
  have hc0 : KM τ0 n A := hc.fr f0 (fun k hk => by simp; omega)
  have h7i : ∀ i, τ0 7 i = if i = j then -1 else τ 7 i := fun i => by rw [hτ0, p_suk (by omega), p_suk (by omega), p_su, if_pos rfl]
  have h8i : ∀ i, τ0 8 i = if i = j then -1 else τ 8 i := fun i => by
    rw [hτ0, p_suk (by omega), p_su, if_pos rfl]
    by_cases e : i = j
    · rw [if_pos e, if_pos e]
    · rw [if_neg e, if_neg e, p_suk (by omega)]
  have h6i : ∀ i, τ0 6 i = if i = j then -1 else τ 6 i := fun i => by
    rw [hτ0, p_su, if_pos rfl]
    by_cases e : i = j
    · rw [if_pos e, if_pos e]
    · rw [if_neg e, if_neg e, p_suk (by omega), p_suk (by omega)]
  -- behind a: fa
  have main : ∀ (fa : Option Nat) (τ1 : SS), fa = tFa τ (Bf τ n) A D T j → τ1 = (match fa with | none => τ0 | some i => su (su τ0 7 j (nI i)) 6 i (nI j)) → ∃ τ' : SS, b_MO_settle_86 (nI j) τ1 = some τ' ∧ Fr [6, 7, 8, 9, 10, 11] τ τ' ∧ τ' 7 j = oI (tFa τ (Bf τ n) A D T j) ∧ τ' 8 j = oI (tFb τ (Bf τ n) A D T j) ∧ τ' 9 j = nI (ndW τ T j (tFa τ (Bf τ n) A D T j) (tFb τ (Bf τ n) A D T j)) ∧ τ' 10 j = (rdT T (rA τ j) (aN τ j) (tFa τ (Bf τ n) A D T j) ||| rdT T (rB τ j) (bN τ j) (tFb τ (Bf τ n) A D T j)) ∧ τ' 11 j = b2 (oN τ j == 6 || ldT T (tFa τ (Bf τ n) A D T j) || ldT T (tFb τ (Bf τ n) A D T j)) ∧ (∀ i, i ≠ j → τ' 7 i = τ 7 i ∧ τ' 8 i = τ 8 i ∧ τ' 9 i = τ 9 i ∧ τ' 10 i = τ 10 i ∧ τ' 11 i = τ 11 i) ∧ ∀ i, τ' 6 i = if tFa τ (Bf τ n) A D T j = some i ∨ tFb τ (Bf τ n) A D T j = some i then nI j else if i = j then -1 else τ 6 i := by
    intro fa τ1 hfa hτ1
    have hlt : ∀ i, fa = some i → i < j := fun i hi => crr_lt (fa_s (hfa ▸ hi)).2.1
    have f1 : Fr [6, 7, 8] τ τ1 := by
      rw [hτ1]
      cases fa with
      | none => exact f0
      | some i => exact f0.tr (Fr.tr (Fr.su (by simp)) (Fr.su (by simp)))
    have he1 : Eqc τ1 τ := f1.eqc (fun k hk => by simp; omega)
    have hc1 : KM τ1 n A := hc.fr f1 (fun k hk => by simp; omega)
    have g7 : τ1 7 j = oI fa ∧ ∀ i, i ≠ j → τ1 7 i = τ 7 i := by
      rw [hτ1]
      cases fa with
      | none => dsimp only; exact ⟨by rw [h7i, if_pos rfl]; rfl, fun i hi => by rw [h7i, if_neg hi]⟩
      | some k => dsimp only; exact ⟨by rw [p_suk (by omega), p_sus]; rfl, fun i hi => by rw [p_suk (by omega), p_sun hi, h7i, if_neg hi]⟩
    have g8 : ∀ i, τ1 8 i = if i = j then -1 else τ 8 i := by
      intro i
      rw [hτ1]
      cases fa with
      | none => dsimp only; exact h8i i
      | some k => dsimp only; rw [p_suk (by omega), p_suk (by omega)]; exact h8i i
    have g6 : ∀ i, τ1 6 i = if fa = some i then nI j else if i = j then -1 else τ 6 i := by
      intro i
      rw [hτ1]
      cases fa with
      | none => dsimp only; rw [if_neg (by simp)]; exact h6i i
      | some k =>
        dsimp only
        rw [p_su, if_pos rfl]
        by_cases e : i = k
        · rw [if_pos e, if_pos (by rw [e])]
        · rw [if_neg e, if_neg (fun h => e (Option.some.inj h).symm), p_suk (by omega)]; exact h6i i
    obtain ⟨fb, e1, e2⟩ := m_109 (fa := fa) hc1 hj (fun i hi => by rw [f1 9 (by simp), f1 10 (by simp), f1 11 (by simp)]; exact hT i hi) hb hD (by rw [f1 20 (by simp)]; exact h20) g7.1 hlt (by rw [g8, if_pos rfl])
    have hfb : fb = tFb τ (Bf τ n) A D T j := by
      rw [e1, he1.rBq, he1.bfq]
      unfold tFb pick
      rw [he1.crq, he1.ndq, he1.b, hfa]
    have hltb : ∀ i, fb = some i → i < j := fun i hi => crr_lt (fb_s (hfb ▸ hi)).2.1
    obtain ⟨τ2, hτ2⟩ : ∃ τ2, τ2 = (match fb with | none => τ1 | some i => su (su τ1 8 j (nI i)) 6 i (nI j)) := ⟨_, rfl⟩
    rw [e2, ← hτ2]
    have f2 : Fr [6, 7, 8] τ τ2 := by
      rw [hτ2]
      cases fb with
      | none => exact f1
      | some i => exact f1.tr (Fr.tr (Fr.su (by simp)) (Fr.su (by simp)))
    have he2 : Eqc τ2 τ := f2.eqc (fun k hk => by simp; omega)
    have hc2 : KM τ2 n A := hc.fr f2 (fun k hk => by simp; omega)
    have k7 : τ2 7 j = oI fa ∧ ∀ i, i ≠ j → τ2 7 i = τ 7 i := by
      rw [hτ2]
      cases fb with
      | none => dsimp only; exact g7
      | some k => dsimp only; exact ⟨by rw [p_suk (by omega), p_suk (by omega)]; exact g7.1, fun i hi => by rw [p_suk (by omega), p_suk (by omega)]; exact g7.2 i hi⟩
    have k8 : τ2 8 j = oI fb ∧ ∀ i, i ≠ j → τ2 8 i = τ 8 i := by
      rw [hτ2]
      cases fb with
      | none => dsimp only; exact ⟨by rw [g8, if_pos rfl]; rfl, fun i hi => by rw [g8, if_neg hi]⟩
      | some k => dsimp only; exact ⟨by rw [p_suk (by omega), p_sus]; rfl, fun i hi => by rw [p_suk (by omega), p_sun hi, g8, if_neg hi]⟩
    have k6 : ∀ i, τ2 6 i = if fa = some i ∨ fb = some i then nI j else if i = j then -1 else τ 6 i := by
      intro i
      rw [hτ2]
      cases fb with
      | none =>
        simp only [g6 i, reduceCtorEq, or_false]
      | some k =>
        simp only
        rw [p_su, if_pos rfl]
        by_cases e : i = k
        · rw [if_pos e, if_pos (Or.inr (by rw [e]))]
        · rw [if_neg e, p_suk (by omega), g6 i]
          have : ¬ some k = some i := fun h => e (Option.some.inj h).symm
          simp only [this, or_false]
    have hra0 : rA τ2 j = false → fa = none := fun h => by rw [he2.rAq] at h; rw [hfa]; unfold tFa; rw [h]; rfl
    have hrb0 : rB τ2 j = false → fb = none := fun h => by rw [he2.rBq] at h; rw [hfb]; unfold tFb; rw [h]; rfl
    rw [m_156 hc2.1 hj (fun i hi => by rw [f2 9 (by simp), f2 10 (by simp), f2 11 (by simp)]; exact hT i hi) hb k7.1 k8.1 hlt hltb hra0 hrb0, he2.ndq, he2.rAq, he2.rBq, he2.a, he2.b, he2.o, ← hfa, ← hfb]
    refine ⟨_, rfl, (f2.mono (by simp)).tr (Fr.tr (Fr.tr (Fr.su (by simp)) (Fr.su (by simp))) (Fr.su (by simp))), ?_, ?_, ?_, ?_, ?_, fun i hi => ⟨?_, ?_, ?_, ?_, ?_⟩, fun i => ?_⟩
    · rw [p_suk (by omega), p_suk (by omega), p_suk (by omega)]; exact k7.1
    · rw [p_suk (by omega), p_suk (by omega), p_suk (by omega)]; exact k8.1
    · rw [p_suk (by omega), p_suk (by omega), p_sus]
    · rw [p_suk (by omega), p_sus]
    · rw [p_sus]
    · rw [p_suk (by omega), p_suk (by omega), p_suk (by omega)]; exact k7.2 i hi
    · rw [p_suk (by omega), p_suk (by omega), p_suk (by omega)]; exact k8.2 i hi
    · rw [p_suk (by omega), p_suk (by omega), p_sun hi, f2 9 (by simp)]
    · rw [p_suk (by omega), p_sun hi, p_suk (by omega), f2 10 (by simp)]
    · rw [p_sun hi, p_suk (by omega), p_suk (by omega), f2 11 (by simp)]
    · rw [p_suk (by omega), p_suk (by omega), p_suk (by omega)]; exact k6 i
  have hrt0 : Rt τ0 j := he0.rt hrt
  rw [m_rA (by omega) hrt0, Option.bind_some, he0.rAq]
  simp only [b2_z]
  by_cases hra : rA τ j = true
  · have hal := rA_lt hrt hra
    rw [if_neg (by simp [hra]), p_ld (by omega) (by decide), Option.bind_some, f0 2 (by simp), hal.1]
    have hwb : f_MO_writerBefore (nI j) (nI (aN τ j)) τ0 = some (oI (lwo τ (Bf τ n) (aN τ j) j), τ0) := by
      unfold f_MO_writerBefore
      rw [m_wb hc0 hal.2 FU j hj (by unfold FU; omega), he0.bfq, he0.lwq]
    rw [hwb, Option.bind_some]
    dsimp only
    unfold b_MO_settle_44
    cases hl : lwo τ (Bf τ n) (aN τ j) j with
    | none =>
      rw [if_pos (show oI none < 0 by decide)]
      exact main none τ0 (by unfold tFa pick crr; rw [if_pos hra, hl]) rfl
    | some i =>
      obtain ⟨l1, l2, l3, l4⟩ := lwo_s j hl
      have hl0 : lwo τ0 (Bf τ0 n) (aN τ j) j = some i := by rw [he0.bfq, he0.lwq]; exact hl
      rw [if_neg (show ¬ oI (some i) < 0 from nI_pos (by omega)), show oI (some i) = nI i from rfl, m_can (x := (T i).2.2.2.1) (l := (T i).2.2.2.2) hc0 hj (by rw [f0 10 (by simp)]; exact (hT i l1).2.1) (by rw [f0 11 (by simp)]; exact (hT i l1).2.2) hl0, Option.bind_some, he0.roq, he0.bfq, he0.nrq, he0.cwq]
      simp only [b2_z]
      by_cases hg : (ro τ j (aN τ j) && nrb τ (Bf τ n) A (aN τ j) j 41 (i + 1) i && cwt τ (T i).2.2.2.1 (T i).2.2.2.2 j 41 (i + 1)) = true
      · have hcr : crr τ (Bf τ n) A T j (aN τ j) = some i := by unfold crr; rw [hl]; dsimp only; rw [if_pos hg]
        rw [if_neg (by simp [hg]), show nI i = oI (some i) from rfl, show (-1 : Int32) = oI none from rfl, m_need hc0.1 hj (fun k hk => by rw [f0 9 (by simp)]; exact (hT k hk).1) hb (some i) none (fun k hk => by cases hk; exact l1) (fun k hk => by cases hk), Option.bind_some, he0.ndq]
        dsimp only
        have h200 : τ0 20 0 = nI D := by rw [f0 20 (by simp)]; exact h20
        simp only [h200]
        have hle := ndW_le (κ := τ) (j := j) hb (some i) none
        by_cases hD2 : ndW τ T j (some i) none ≤ D
        · rw [if_neg (nI_nlt hD2 (by omega)), show oI (some i) = nI i from rfl, p_sto (by omega) (by decide), Option.bind_some, p_sto (by omega) (by decide), Option.bind_some]
          exact main (some i) _ (by unfold tFa pick; rw [if_pos hra, hcr]; dsimp only; rw [if_pos hD2]) rfl
        · rw [if_pos (nI_lt (by omega) (by omega))]
          exact main none τ0 (by unfold tFa pick; rw [if_pos hra, hcr]; dsimp only; rw [if_neg hD2]) rfl
      · have hcr : crr τ (Bf τ n) A T j (aN τ j) = none := by unfold crr; rw [hl]; dsimp only; rw [if_neg hg]
        rw [if_pos (by simpa using hg)]
        exact main none τ0 (by unfold tFa pick; rw [if_pos hra, hcr]) rfl
  · rw [if_pos (by simpa using hra)]
    unfold b_MO_settle_44
    rw [if_pos (by decide)]
    exact main none τ0 (by unfold tFa; rw [if_neg hra]) rfl
