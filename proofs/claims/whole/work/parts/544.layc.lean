-- ===== the class lays the code out =====
def wc (κ : SS) (T : Nat → En) (A : Nat → Int32) (n j : Nat) : Nat := if wnt κ T A n j then 1 else 0
theorem b2_wc {κ : SS} {T : Nat → En} {A : Nat → Int32} {n j : Nat} : b2 (wnt κ T A n j) = nI (wc κ T A n j) := by unfold wc; cases wnt κ T A n j <;> rfl
def FC (κ : SS) (T : Nat → En) (A : Nat → Int32) (n : Nat) : List Op := cdl κ (PL κ T A n) T A n n ++ [(14, 0)]
def Act (T : Nat → En) (n m i : Nat) : Prop := i < m ∧ (car T n i = false ∨ ∃ g, m ≤ g ∧ g < n ∧ Kid T g i)
theorem cdl_seg {κ : SS} {pl : Nat → Int32} {T : Nat → En} {A : Nat → Int32} {n i : Nat} (hcar : car T n i = false) : ∀ m, i < m → SegAt (cdl κ pl T A n m) (cdl κ pl T A n i).length (blk κ pl T A n i) := by
  intro m
  induction m with
  | zero => intro h; omega
  | succ m ih =>
    intro h k hk
    show (cdl κ pl T A n m ++ (if car T n m then [] else blk κ pl T A n m))[_]? = _
    by_cases e : i = m
    · subst e
      rw [hcar, if_neg (by simp), List.getElem?_append_right (by omega), Nat.add_sub_cancel_left]
    · have h2 := ih (by omega) k hk
      have h3 : (cdl κ pl T A n i).length + k < (cdl κ pl T A n m).length := by
        apply Nat.not_le.mp
        intro hle
        rw [List.getElem?_eq_none hle, List.getElem?_eq_getElem hk] at h2
        cases h2
      rw [List.getElem?_append_left h3]
      exact h2
theorem cum_find {κ : SS} {T : Nat → En} {A : Nat → Int32} {n p : Nat} : ∀ m, p < cum κ T A n m → ∃ i, i < m ∧ car T n i = false ∧ cum κ T A n i ≤ p ∧ p < cum κ T A n i + (blk κ nI T A n i).length := by
  intro m
  induction m with
  | zero => intro h; exact absurd h (Nat.not_lt_zero _)
  | succ m ih =>
    intro h
    by_cases hp : p < cum κ T A n m
    · obtain ⟨i, a, b⟩ := ih hp
      exact ⟨i, by omega, b⟩
    · rw [cum_s] at h
      cases hcar : car T n m with
      | true => rw [hcar] at h; simp at h; omega
      | false => rw [hcar] at h; simp at h; exact ⟨m, by omega, hcar, by omega, h⟩
theorem cumPL {κ : SS} {B : Nat → Bool} {A : Nat → Int32} {D n : Nat} {pl : Nat → Int32} {j : Nat} (hj : j ≤ n) : (cdl κ pl (tT κ B A D n) A n j).length = cum κ (tT κ B A D n) A n j := cdl_l tT_Dn j hj
theorem FC_seg {κ : SS} {B : Nat → Bool} {A : Nat → Int32} {D n i : Nat} (hi : i < n) (hcar : car (tT κ B A D n) n i = false) : SegAt (FC κ (tT κ B A D n) A n) (cum κ (tT κ B A D n) A n i) (blk κ (PL κ (tT κ B A D n) A n) (tT κ B A D n) A n i) := by
  have h := cdl_seg (κ := κ) (pl := PL κ (tT κ B A D n) A n) (A := A) hcar n hi
  rw [cumPL (by omega)] at h
  intro k hk
  have h2 := h k hk
  unfold FC
  rw [List.getElem?_append_left]
  · exact h2
  · apply Nat.not_le.mp
    intro hle
    rw [List.getElem?_eq_none hle, List.getElem?_eq_getElem hk] at h2
    cases h2
theorem FC_end {κ : SS} {B : Nat → Bool} {A : Nat → Int32} {D n : Nat} : (FC κ (tT κ B A D n) A n)[cum κ (tT κ B A D n) A n n]? = some (14, 0) := by
  unfold FC
  rw [← cumPL (pl := PL κ (tT κ B A D n) A n) (Nat.le_refl n), List.getElem?_append_right (Nat.le_refl _), Nat.sub_self]
  rfl
theorem blk_cum {κ : SS} {B : Nat → Bool} {A : Nat → Int32} {D n i : Nat} (hn : n ≤ 40) (hi : i < n) (hcar : car (tT κ B A D n) n i = false) : cum κ (tT κ B A D n) A n i + (blk κ nI (tT κ B A D n) A n i).length ≤ 200 := by
  have h1 := cum_le (κ := κ) (B := B) (A := A) (D := D) hn (show i + 1 ≤ n by omega)
  rw [cum_s, hcar] at h1
  simpa using h1
theorem c_back {κ : SS} {n D : Nat} {A : Nat → Int32} : ∀ (m f : Nat) (σ : SS), m < f → m ≤ n → LY κ σ n A D → (∀ i, i < n → σ 18 i = nI (blk κ nI (tT κ (Bf κ n) A D n) A n i).length) → σ 27 0 = nI (cum κ (tT κ (Bf κ n) A D n) A n n) → (∀ k, k < n → car (tT κ (Bf κ n) A D n) n k = false → σ 19 k = nI (cum κ (tT κ (Bf κ n) A D n) A n k)) → (∀ i, Act (tT κ (Bf κ n) A D n) n m i → ∃ si, σ 19 i = nI si ∧ SegAt (FC κ (tT κ (Bf κ n) A D n) A n) si (blk κ (PL κ (tT κ (Bf κ n) A D n) A n) (tT κ (Bf κ n) A D n) A n i) ∧ si + (blk κ (PL κ (tT κ (Bf κ n) A D n) A n) (tT κ (Bf κ n) A D n) A n i).length ≤ 200) → (∀ p, p < cum κ (tT κ (Bf κ n) A D n) A n n → Gd (FC κ (tT κ (Bf κ n) A D n) A n) σ p ∨ ∃ i, Act (tT κ (Bf κ n) A D n) n m i ∧ ∃ si, σ 19 i = nI si ∧ si ≤ p ∧ p < si + (blk κ (PL κ (tT κ (Bf κ n) A D n) A n) (tT κ (Bf κ n) A D n) A n i).length) → σ 28 0 + nI (sm (wc κ (tT κ (Bf κ n) A D n) A n) m) = nI (sm (wc κ (tT κ (Bf κ n) A D n) A n) n) → ∃ σ' : SS, b_ST_layOut_86 f (cdn m) σ = some σ' ∧ Fr [16, 17, 19, 28] σ σ' ∧ (∀ p, p ≤ cum κ (tT κ (Bf κ n) A D n) A n n → Gd (FC κ (tT κ (Bf κ n) A D n) A n) σ' p) ∧ σ' 28 0 = nI (sm (wc κ (tT κ (Bf κ n) A D n) A n) n) := by
  intro m
  induction m with
  | zero =>
    intro f σ hf hm hl h18 h27 h19 hreg hpl h28
    have hn4 := hl.2.1.1.1.1.1
    obtain ⟨f, rfl⟩ : ∃ g, f = g + 1 := ⟨f - 1, by omega⟩
    have hle := cum_le (κ := κ) (B := Bf κ n) (A := A) (D := D) hn4 (Nat.le_refl n)
    rw [b_ST_layOut_86, if_pos (show cdn 0 < 0 by decide), h27, c_write (by omega), Option.bind_some]
    obtain ⟨g1, g2⟩ := wt_gd (σ := σ) (FC_end (κ := κ) (B := Bf κ n) (A := A) (D := D) (n := n))
    refine ⟨_, rfl, wt_fr.mono (by simp), fun p hp => ?_, ?_⟩
    · by_cases e : p = cum κ (tT κ (Bf κ n) A D n) A n n
      · rw [e]; exact g1
      · rcases hpl p (by omega) with h | ⟨i, hi, -⟩
        · exact g2 p h
        · exact absurd hi.1 (Nat.not_lt_zero _)
    · show wt σ (cum κ (tT κ (Bf κ n) A D n) A n n) 14 0 28 0 = _
      rw [wt_fr 28 (by simp)]
      have h28 : σ 28 0 + 0 = nI (sm (wc κ (tT κ (Bf κ n) A D n) A n) n) := h28
      rw [Int32.add_zero] at h28
      exact h28
  | succ j ih =>
    intro f σ hf hm hl h18 h27 h19 hreg hpl h28
    have hn4 := hl.2.1.1.1.1.1
    have hj : j < n := by omega
    have hDn : Dn (tT κ (Bf κ n) A D n) n := tT_Dn
    obtain ⟨f, rfl⟩ : ∃ g, f = g + 1 := ⟨f - 1, by omega⟩
    have hact : Act (tT κ (Bf κ n) A D n) n (j + 1) j := by
      refine ⟨by omega, ?_⟩
      cases hcar : car (tT κ (Bf κ n) A D n) n j with
      | false => exact Or.inl rfl
      | true =>
        obtain ⟨g, hg⟩ := Option.isSome_iff_exists.mp hcar
        obtain ⟨a1, a2⟩ := gl_kid n hg
        have : j < g := by
          rcases a2 with h | h
          · exact (hDn g a1).1 j h
          · exact (hDn g a1).2 j h
        exact Or.inr ⟨g, by omega, a1, a2⟩
    obtain ⟨s, s1, s2, s3⟩ := hreg j hact
    obtain ⟨σ1, e1, e2, e3, e4, e5, e6, e7⟩ := c_instr (C := FC κ (tT κ (Bf κ n) A D n) A n) hl hj h18 h27 h19 s1 s2 s3
    rw [b_ST_layOut_86, cdn_s, if_neg (nI_pos (by omega)), e1, Option.bind_some, cdn_d (by omega)]
    have hkj : ∀ i, Act (tT κ (Bf κ n) A D n) n (j + 1) i → ¬ Kid (tT κ (Bf κ n) A D n) j i := by
      intro i hi hk
      rcases hi.2 with h | ⟨g, g1, g2, g3⟩
      · rw [kid_car hj hk] at h; cases h
      · have := kid_one hn4 hj g2 hk g3; omega
    obtain ⟨σ', d1, d2, d3, d4⟩ := ih f σ1 (by omega) (by omega) (hl.fr e2 (fun k hk => by simp; omega)) (fun i hi => by rw [e2 18 (by simp)]; exact h18 i hi) (by rw [e2 27 (by simp)]; exact h27) (fun k hk hcar => by
        rw [e6 k (fun h => by rw [kid_car hj h] at hcar; cases hcar)]
        exact h19 k hk hcar) (fun i hi => by
        rcases hi.2 with h | ⟨g, g1, g2, g3⟩
        · have ha : Act (tT κ (Bf κ n) A D n) n (j + 1) i := ⟨by have := hi.1; omega, Or.inl h⟩
          rw [e6 i (hkj i ha)]
          exact hreg i ha
        · by_cases eg : g = j
          · subst eg
            rw [kid_blk hj g3]
            exact e5 i g3
          · have ha : Act (tT κ (Bf κ n) A D n) n (j + 1) i := ⟨by have := hi.1; omega, Or.inr ⟨g, by omega, g2, g3⟩⟩
            rw [e6 i (hkj i ha)]
            exact hreg i ha) (fun p hp => by
        rcases hpl p hp with h | ⟨i, hi, si, i1, i2, i3⟩
        · exact Or.inl (e3 p h)
        · by_cases ei : i = j
          · subst ei
            have hsi : si = s := by
              have hq : nI si = nI s := by rw [← i1, ← s1]
              obtain ⟨si', si1, si2⟩ : ∃ x, x = si ∧ True := ⟨si, rfl, trivial⟩
              exact (nI_eqI (by have := cum_le (κ := κ) (B := Bf κ n) (A := A) (D := D) hn4 (Nat.le_refl n); omega) (by omega)).mp hq
            rw [hsi] at i2 i3
            rcases e4 p i2 i3 with h | ⟨k, k1, sk, k2, k3, k4⟩
            · exact Or.inl h
            · refine Or.inr ⟨k, ⟨?_, Or.inr ⟨i, Nat.le_refl _, hj, k1⟩⟩, sk, k2, k3, by rw [kid_blk hj k1]; exact k4⟩
              rcases k1 with h | h
              · exact (hDn i hj).1 k h
              · exact (hDn i hj).2 k h
          · refine Or.inr ⟨i, ⟨by have := hi.1; omega, ?_⟩, si, by rw [e6 i (hkj i hi)]; exact i1, i2, i3⟩
            rcases hi.2 with h | ⟨g, g1, g2, g3⟩
            · exact Or.inl h
            · exact Or.inr ⟨g, by omega, g2, g3⟩) (by
        rw [e7, b2_wc, Int32.add_assoc, nI_add, Nat.add_comm]
        exact h28)
    exact ⟨σ', d1, (e2.tr d2), d3, d4⟩
theorem c_front {κ : SS} {n D : Nat} {A : Nat → Int32} : ∀ (m j : Nat) (σ : SS), n - j < m → j ≤ n → LY κ σ n A D → (∀ i, i < j → σ 18 i = nI (blk κ nI (tT κ (Bf κ n) A D n) A n i).length) → σ 27 0 = nI (cum κ (tT κ (Bf κ n) A D n) A n j) → (∀ k, k < j → car (tT κ (Bf κ n) A D n) n k = false → σ 19 k = nI (cum κ (tT κ (Bf κ n) A D n) A n k)) → σ 28 0 = 0 → ∃ σ' : SS, b_ST_layOut_12 m (nI j) σ = some σ' ∧ Fr [16, 17, 18, 19, 27, 28] σ σ' ∧ σ' 27 0 = nI (cum κ (tT κ (Bf κ n) A D n) A n n) ∧ (∀ p, p ≤ cum κ (tT κ (Bf κ n) A D n) A n n → Gd (FC κ (tT κ (Bf κ n) A D n) A n) σ' p) ∧ σ' 28 0 = nI (sm (wc κ (tT κ (Bf κ n) A D n) A n) n) := by
  intro m
  induction m with
  | zero => intro j σ h; omega
  | succ m ih =>
    intro j σ hm hj hl h18 h27 h19 h28
    have hn4 := hl.2.1.1.1.1.1
    have hDn : Dn (tT κ (Bf κ n) A D n) n := tT_Dn
    rw [b_ST_layOut_12, g_count, Option.bind_some]
    dsimp only
    rw [hl.2.1.1.1.2.1]
    by_cases hjn : j < n
    · rw [if_neg (nI_ge hjn (by omega)), c_width hl hjn h18, Option.bind_some]
      dsimp only
      rw [p_sto (by omega) (by decide), Option.bind_some]
      have hl1 : LY κ (su σ 18 j (nI (blk κ nI (tT κ (Bf κ n) A D n) A n j).length)) n A D := hl.fr (S := [18]) (Fr.su (by simp)) (fun k hk => by simp; omega)
      rw [c_isCar hl1 hjn, Option.bind_some]
      simp only [b2_z]
      cases hcar : car (tT κ (Bf κ n) A D n) n j with
      | true =>
        rw [if_neg (by simp), nI_1]
        obtain ⟨σ', d1, d2, d3⟩ := ih (j + 1) (su σ 18 j (nI (blk κ nI (tT κ (Bf κ n) A D n) A n j).length)) (by omega) (by omega) hl1 (fun i hi => by
          by_cases e : i = j
          · rw [e, p_sus]
          · rw [p_sun e]; exact h18 i (by omega)) (by rw [p_suk (by omega), h27, cum_s, hcar]; rfl) (fun k hk hc => by
          rw [p_suk (by omega)]
          by_cases e : k = j
          · rw [e, hcar] at hc; cases hc
          · exact h19 k (by omega) hc) (by rw [p_suk (by omega)]; exact h28)
        exact ⟨σ', d1, (Fr.su (by simp)).tr d2, d3⟩
      | false =>
        rw [if_pos rfl, p_sto (by omega) (by decide), Option.bind_some, p_suK (show (18 : Nat) ≠ 19 by omega), p_ld (by omega) (by decide), Option.bind_some, p_sus, p_sf, Option.bind_some, nI_1]
        rw [p_suk (show (27 : Nat) ≠ 19 by omega), p_suk (show (27 : Nat) ≠ 18 by omega), h27, nI_add]
        have hf : Fr [16, 17, 18, 19, 27, 28] σ (su (su (su σ 18 j (nI (blk κ nI (tT κ (Bf κ n) A D n) A n j).length)) 19 j (nI (cum κ (tT κ (Bf κ n) A D n) A n j))) 27 0 (nI (cum κ (tT κ (Bf κ n) A D n) A n j + (blk κ nI (tT κ (Bf κ n) A D n) A n j).length))) := ((Fr.su (by simp)).tr (Fr.su (by simp))).tr (Fr.su (by simp))
        obtain ⟨σ', d1, d2, d3⟩ := ih (j + 1) _ (by omega) (by omega) (hl.fr hf (fun k hk => by simp; omega)) (fun i hi => by
          rw [p_suk (by omega), p_suk (by omega)]
          by_cases e : i = j
          · rw [e, p_sus]
          · rw [p_sun e]; exact h18 i (by omega)) (by rw [p_sus, cum_s, hcar]; rfl) (fun k hk hc => by
          rw [p_suk (by omega)]
          by_cases e : k = j
          · rw [e, p_sus]
          · rw [p_sun e, p_suk (by omega)]; exact h19 k (by omega) hc) (by rw [p_suk (by omega), p_suk (by omega), p_suk (by omega)]; exact h28)
        exact ⟨σ', d1, hf.tr d2, d3⟩
    · have : j = n := by omega
      subst this
      rw [if_pos (nI_le (by omega) (by omega)), g_count, Option.bind_some]
      dsimp only
      rw [hl.2.1.1.1.2.1, cdn_b (by omega)]
      obtain ⟨σ', d1, d2, d3, d4⟩ := c_back (κ := κ) (A := A) (D := D) j FU σ (by unfold FU; omega) (Nat.le_refl _) hl h18 h27 h19 (fun i hi => by
        rcases hi.2 with h | ⟨g, g1, g2, g3⟩
        · refine ⟨_, h19 i hi.1 h, FC_seg hi.1 h, ?_⟩
          rw [blk_l (pl' := nI) hDn hi.1]
          exact blk_cum hn4 hi.1 h
        · omega) (fun p hp => by
        obtain ⟨i, i1, i2, i3, i4⟩ := cum_find _ hp
        exact Or.inr ⟨i, ⟨i1, Or.inl i2⟩, _, h19 i i1 i2, i3, by rw [blk_l (pl' := nI) hDn i1]; exact i4⟩) (by rw [h28]; exact Int32.zero_add _)
      exact ⟨σ', d1, d2.mono (by simp), by rw [d2 27 (by simp)]; exact h27, d3, d4⟩
/-- the class has translated; κ has the code -/
def DnC (κ σ : SS) (n D : Nat) (L : Nat → Int32) : Prop := Fix κ n L ∧ (∀ j, j < n → σ 8 j = L j) ∧ LY κ σ n (aft κ n L) D ∧ σ 27 0 = nI (cum κ (tT κ (Bf κ n) (aft κ n L) D n) (aft κ n L) n n) ∧ (∀ p, p ≤ cum κ (tT κ (Bf κ n) (aft κ n L) D n) (aft κ n L) n n → Gd (FC κ (tT κ (Bf κ n) (aft κ n L) D n) (aft κ n L) n) σ p) ∧ σ 28 0 = nI (sm (wc κ (tT κ (Bf κ n) (aft κ n L) D n) (aft κ n L) n) n)
theorem Eqc.fxq {κ κ' : SS} (h : Eqc κ κ') {n : Nat} {L : Nat → Int32} (hf : Fix κ n L) : Fix κ' n L := by
  unfold Fix Iv at *
  rw [← h.ffq]
  exact hf
theorem c_tl {κ σ : SS} {n D : Nat} (he : Eqc σ κ) (hc : CC σ n) (hD : D ≤ 8) (h26 : σ 26 0 = nI D) (h24 : σ 24 0 ≠ 0) : ∃ (L : Nat → Int32) (σ' : SS), f_SC_translate σ = some σ' ∧ Fr [7, 8, 9, 10, 11, 12, 13, 14, 15, 16, 17, 18, 19, 24, 27, 28] σ σ' ∧ DnC κ σ' n D L ∧ σ' 24 0 = 0 := by
  unfold f_SC_translate
  rw [if_neg h24]
  obtain ⟨σ1, a1, a2, a3, a4, a5⟩ := c_trace hc
  have he0 : Eqc σ1 σ := a2.eqc (fun k hk => by simp; omega)
  have he1 : Eqc σ1 κ := fun k hk => (he0 k hk).trans (he k hk)
  have hc1 : CC σ1 n := hc.fr a2 (fun k hk => by simp; omega)
  have a4 : Fix κ n (σ1 8) := he.fxq a4
  have hK : KC σ1 n (aft κ n (σ1 8)) := ⟨hc1, fun j hj => by rw [a3 j hj, he0.bgq], fun j hj => by rw [a5 j hj, he.aftq]⟩
  obtain ⟨σ2, b1, b2', b3⟩ := c_settle hD hK (by rw [a2 26 (by simp)]; exact h26)
  have he2 : Eqc σ2 κ := fun k hk => (b2'.eqc (fun k hk => by simp; omega) k hk).trans (he1 k hk)
  have b3 : SgC κ σ2 n (aft κ n (σ1 8)) D n := by
    unfold SgC at b3 ⊢
    rw [he1.bfq, he1.ttq] at b3
    exact b3
  have hl : LY κ σ2 n (aft κ n (σ1 8)) D := ⟨he2, b3, hD⟩
  rw [a1, Option.bind_some, b1, Option.bind_some]
  unfold f_ST_layOut
  rw [p_sf, Option.bind_some, p_sf, Option.bind_some]
  have hf : Fr [16, 17, 18, 19, 27, 28] σ2 (su (su σ2 27 0 0) 28 0 0) := (Fr.su (by simp)).tr (Fr.su (by simp))
  obtain ⟨σ3, d1, d2, d3, d4, d5⟩ := c_front (κ := κ) (n := n) (D := D) (A := aft κ n (σ1 8)) FU 0 (su (su σ2 27 0 0) 28 0 0) (by unfold FU; have := hc.1.1; omega) (by omega) (hl.fr hf (fun k hk => by simp; omega)) (fun i hi => by omega) (by rw [p_suk (by omega), p_sus]; rfl) (fun k hk => by omega) (by rw [p_sus])
  have d1 : b_ST_layOut_12 FU 0 (su (su σ2 27 0 0) 28 0 0) = some σ3 := d1
  rw [d1, Option.bind_some, p_sf, Option.bind_some]
  have hff : Fr [7, 8, 9, 10, 11, 12, 13, 14, 15, 16, 17, 18, 19, 24, 27, 28] σ (su σ3 24 0 0) := (((a2.mono (by simp)).tr (b2'.mono (by simp))).tr (hf.mono (by simp))).tr ((d2.mono (by simp)).tr (Fr.su (by simp)))
  have h4 : Fr [24] σ3 (su σ3 24 0 0) := Fr.su (by simp)
  refine ⟨σ1 8, _, rfl, hff, ⟨a4, fun j _ => ?_, (((hl.fr hf (fun k hk => by simp; omega)).fr d2 (fun k hk => by simp; omega)).fr h4 (fun k hk => by simp; omega)), by rw [h4 27 (by simp)]; exact d3, fun p hp => ?_, by rw [h4 28 (by simp)]; exact d5⟩, by rw [p_sus]⟩
  · rw [h4 8 (by simp), d2 8 (by simp), hf 8 (by simp), b2' 8 (by simp)]
  · have := d4 p hp
    unfold Gd at this ⊢
    rw [h4 16 (by simp), h4 17 (by simp)]
    exact this
