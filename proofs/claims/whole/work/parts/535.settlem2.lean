/-- the reference's stage j -/
def SgM (κ τ : SS) (n : Nat) (A : Nat → Int32) (D j : Nat) : Prop := KM τ n A ∧ τ 20 0 = nI D ∧ RM τ (tT κ (Bf κ n) A D j) j ∧ ∀ i, i < j → τ 6 i = oI (gl (tT κ (Bf κ n) A D j) j i)
theorem gl_lt {T : Nat → En} {i : Nat} : ∀ m k, gl T m i = some k → k < m := by
  intro m
  induction m with
  | zero => intro k h; cases h
  | succ m ih =>
    intro k h
    have h : (if (T m).1 = some i ∨ (T m).2.1 = some i then some m else gl T m i) = some k := h
    split at h
    · cases h; omega
    · have := ih k h; omega
/-- nothing is carried into an earlier one -/
theorem gl_none {T : Nat → En} {i : Nat} : ∀ m, (∀ k, k < m → (T k).1 ≠ some i ∧ (T k).2.1 ≠ some i) → gl T m i = none := by
  intro m
  induction m with
  | zero => intro _; rfl
  | succ m ih =>
    intro h
    show (if (T m).1 = some i ∨ (T m).2.1 = some i then some m else gl T m i) = none
    rw [if_neg (fun hh => hh.elim (h m (by omega)).1 (h m (by omega)).2), ih (fun k hk => h k (by omega))]
theorem tT_st {κ : SS} {B : Nat → Bool} {A : Nat → Int32} {D i : Nat} : ∀ m, i < m → tT κ B A D m i = tS κ B A D (tT κ B A D i) i := by
  intro m
  induction m with
  | zero => intro h; omega
  | succ m ih =>
    intro h
    by_cases e : i = m
    · subst e; exact tT_eq
    · rw [tT_ne e]; exact ih (by omega)
theorem tT_fa {κ : SS} {B : Nat → Bool} {A : Nat → Int32} {D m i k : Nat} (hi : i < m) (h : (tT κ B A D m i).1 = some k) : k < i := by
  rw [tT_st m hi] at h
  exact crr_lt (fa_s h).2.1
theorem tT_fb {κ : SS} {B : Nat → Bool} {A : Nat → Int32} {D m i k : Nat} (hi : i < m) (h : (tT κ B A D m i).2.1 = some k) : k < i := by
  rw [tT_st m hi] at h
  exact crr_lt (fb_s h).2.1
theorem m_stage {κ τ : SS} {n j D : Nat} {A : Nat → Int32} (he : Eqc τ κ) (hj : j < n) (hD : D ≤ 8) (hs : SgM κ τ n A D j) : ∃ τ' : SS, f_MO_settle (nI j) τ = some τ' ∧ Fr [6, 7, 8, 9, 10, 11] τ τ' ∧ SgM κ τ' n A D (j + 1) := by
  obtain ⟨hK, h20, hR, hg⟩ := hs
  have hnb : ∀ i, (tT κ (Bf κ n) A D j i).2.2.1 ≤ 8 := nb hD j
  obtain ⟨τ', e1, e2, e3, e4, e5, e6, e7, e8, e9⟩ := m_settle (κ := κ) hK hj (fun i hi => ⟨(hR i hi).2.2.1, (hR i hi).2.2.2.1, (hR i hi).2.2.2.2⟩) hnb hD h20
  rw [he.faq, he.fbq, he.bfq] at *
  rw [he.ndq, he.rAq, he.rBq, he.a, he.b, he.o] at *
  refine ⟨τ', e1, e2, hK.fr e2 (fun k hk => by simp; omega), by rw [e2 20 (by simp)]; exact h20, fun i hi => ?_, fun i hi => ?_⟩
  · by_cases e : i = j
    · subst e
      rw [tT_eq]
      exact ⟨e3, e4, e5, e6, e7⟩
    · rw [tT_ne e]
      obtain ⟨a1, a2, a3, a4, a5⟩ := hR i (by omega)
      obtain ⟨b1, b2, b3, b4, b5⟩ := e8 i e
      rw [b1, b2, b3, b4, b5]
      exact ⟨a1, a2, a3, a4, a5⟩
  · rw [e9 i]
    show _ = oI (if (tT κ (Bf κ n) A D (j + 1) j).1 = some i ∨ (tT κ (Bf κ n) A D (j + 1) j).2.1 = some i then some j else gl (tT κ (Bf κ n) A D (j + 1)) j i)
    rw [tT_eq]
    show _ = oI (if tFa κ (Bf κ n) A D (tT κ (Bf κ n) A D j) j = some i ∨ tFb κ (Bf κ n) A D (tT κ (Bf κ n) A D j) j = some i then some j else gl (tT κ (Bf κ n) A D (j + 1)) j i)
    rw [gl_c j (fun k hk => tT_ne (by omega))]
    by_cases h : tFa κ (Bf κ n) A D (tT κ (Bf κ n) A D j) j = some i ∨ tFb κ (Bf κ n) A D (tT κ (Bf κ n) A D j) j = some i
    · rw [if_pos h, if_pos h]; rfl
    · rw [if_neg h, if_neg h]
      by_cases e : i = j
      · rw [if_pos e, e, gl_none j (fun k hk => ⟨fun hh => by have := tT_fa hk hh; omega, fun hh => by have := tT_fb hk hh; omega⟩)]; rfl
      · rw [if_neg e]; exact hg i (by omega)
