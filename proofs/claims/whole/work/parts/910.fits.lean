-- ===== what fits =====
theorem i_lt {x y : Int32} : x < y ↔ x.toInt < y.toInt := Int32.lt_iff_toInt_lt
theorem i_le {x y : Int32} : x ≤ y ↔ x.toInt ≤ y.toInt := Int32.le_iff_toInt_le
def inR (x lo hi : Int32) : Bool := decide (¬ x < lo ∧ ¬ hi < x)
def kd (k : Nat) (x : Int32) : Bool := if k = 1 then inR x 0 9 else if k = 2 then inR x 0 39 else if k = 3 then inR x (-999) 999 else decide (x = 0)
def kD (o : Nat) : Nat := if o ≤ 6 then 1 else 0
def kA (o : Nat) : Nat := if o = 0 then 3 else if o = 9 then 2 else if o = 11 then 0 else 1
def kB (o : Nat) : Nat := if (2 ≤ o ∧ o ≤ 5) ∨ o = 7 then 1 else if o = 10 then 2 else 0
def fit (o : Nat) (x y z : Int32) : Bool := kd (kD o) x && (kd (kA o) y && kd (kB o) z)
theorem c_kd {σ : SS} {k : Nat} {x : Int32} (hk : k ≤ 3) : f_RC_isOfKind (nI k) x σ = some (b2 (kd k x), σ) := by
  have e10 : ((10 : Int32) ≤ x) ↔ ((9 : Int32) < x) := by rw [i_le, i_lt, show (10 : Int32).toInt = 10 by decide, show (9 : Int32).toInt = 9 by decide]; omega
  have e40 : ((40 : Int32) ≤ x) ↔ ((39 : Int32) < x) := by rw [i_le, i_lt, show (40 : Int32).toInt = 40 by decide, show (39 : Int32).toInt = 39 by decide]; omega
  unfold f_RC_isOfKind
  simp only [e10, e40]
  have pick : ∀ (lo hi : Int32), (if x < lo then some ((0 : Int32), σ) else if hi < x then some ((0 : Int32), σ) else some ((1 : Int32), σ)) = some (b2 (decide (¬ x < lo ∧ ¬ hi < x)), σ) := by
    intro lo hi
    by_cases h1 : x < lo
    · rw [if_pos h1, decide_eq_false (fun h => h.1 h1)]; rfl
    · rw [if_neg h1]
      by_cases h2 : hi < x
      · rw [if_pos h2, decide_eq_false (fun h => h.2 h2)]; rfl
      · rw [if_neg h2, decide_eq_true ⟨h1, h2⟩]; rfl
  rcases (show k = 0 ∨ k = 1 ∨ k = 2 ∨ k = 3 by omega) with rfl | rfl | rfl | rfl
  · rw [if_neg (show ¬ nI 0 = 1 by decide), if_neg (show ¬ nI 0 = 2 by decide), if_neg (show ¬ nI 0 = 3 by decide)]
    show _ = some (b2 (decide (x = 0)), σ)
    by_cases h : x = 0
    · rw [if_pos h, decide_eq_true h]; rfl
    · rw [if_neg h, decide_eq_false h]; rfl
  · rw [if_pos (show nI 1 = 1 by decide)]; exact pick 0 9
  · rw [if_neg (show ¬ nI 2 = 1 by decide), if_pos (show nI 2 = 2 by decide)]; exact pick 0 39
  · rw [if_neg (show ¬ nI 3 = 1 by decide), if_neg (show ¬ nI 3 = 2 by decide), if_pos (show nI 3 = 3 by decide)]; exact pick (-999) 999
theorem tb_k {o : Nat} (ho : o ≤ 11) : ld tbC0 12 (nI o) = some (nI (kD o)) ∧ ld tbC1 12 (nI o) = some (nI (kA o)) ∧ ld tbC2 12 (nI o) = some (nI (kB o)) := by
  rw [p_ld (by omega) (by decide), p_ld (by omega) (by decide), p_ld (by omega) (by decide)]
  rcases (show o = 0 ∨ o = 1 ∨ o = 2 ∨ o = 3 ∨ o = 4 ∨ o = 5 ∨ o = 6 ∨ o = 7 ∨ o = 8 ∨ o = 9 ∨ o = 10 ∨ o = 11 by omega) with rfl | rfl | rfl | rfl | rfl | rfl | rfl | rfl | rfl | rfl | rfl | rfl <;> exact ⟨rfl, rfl, rfl⟩
theorem k_le {o : Nat} : kD o ≤ 3 ∧ kA o ≤ 3 ∧ kB o ≤ 3 := by
  unfold kD kA kB
  refine ⟨?_, ?_, ?_⟩
  · split <;> omega
  · split
    · omega
    · split
      · omega
      · split <;> omega
  · split
    · omega
    · split <;> omega
theorem c_fits {σ : SS} {o : Nat} {x y z : Int32} (ho : o ≤ 11) : f_RC_fits (nI o) x y z σ = some (b2 (fit o x y z), σ) := by
  obtain ⟨t0, t1, t2⟩ := tb_k ho
  obtain ⟨l0, l1, l2⟩ := k_le (o := o)
  unfold f_RC_fits fit
  rw [if_neg (nI_pos (by omega)), if_neg (show ¬ (11 : Int32) < nI o from nI_nlt (a := 11) (by omega) (by omega)), t0, Option.bind_some, c_kd l0, Option.bind_some]
  simp only [b2_z]
  cases kd (kD o) x with
  | false => rw [if_pos rfl]; rfl
  | true =>
    rw [if_neg (by simp), t1, Option.bind_some, c_kd l1, Option.bind_some]
    simp only [b2_z]
    cases kd (kA o) y with
    | false => rw [if_pos rfl]; rfl
    | true =>
      rw [if_neg (by simp), t2, Option.bind_some, c_kd l2, Option.bind_some]
      simp only [b2_z]
      cases kd (kB o) z with
      | false => rw [if_pos rfl]; rfl
      | true => rw [if_neg (by simp)]; rfl
theorem c_fits0 {σ : SS} {w x y z : Int32} (hw : w < 0 ∨ 11 < w) : f_RC_fits w x y z σ = some (0, σ) := by
  unfold f_RC_fits
  by_cases h : w < 0
  · rw [if_pos h]
  · rw [if_neg h, if_pos (hw.resolve_left h)]
theorem m_inR {τ : SS} {x lo hi : Int32} : f_MO_in x lo hi τ = some (b2 (inR x lo hi), τ) := by
  unfold f_MO_in inR
  by_cases h1 : x < lo
  · rw [if_pos h1, decide_eq_false (fun h => h.1 h1)]; rfl
  · rw [if_neg h1]
    by_cases h2 : hi < x
    · rw [if_pos h2, decide_eq_false (fun h => h.2 h2)]; rfl
    · rw [if_neg h2, decide_eq_true ⟨h1, h2⟩]; rfl
theorem m_reg {τ : SS} {x : Int32} : f_MO_isRegister x τ = some (b2 (inR x 0 9), τ) := by
  unfold f_MO_isRegister
  rw [m_inR, Option.bind_some, b2_rz]
theorem m_113 {τ : SS} {w x : Int32} (a b c : Bool) : b_MO_isRight_113 w x (b2 a) (b2 b) (b2 c) τ = some (b2 (inR w 0 11 && (b && (c && (if a then inR x 0 9 else decide (x = 0))))), τ) := by
  unfold b_MO_isRight_113
  rw [m_inR, Option.bind_some, m_reg, Option.bind_some]
  simp only [b2_z]
  cases inR w 0 11 with
  | false => rw [if_pos rfl]; rfl
  | true =>
    rw [if_neg (by simp)]
    cases b with
    | false => rw [if_pos rfl]; rfl
    | true =>
      rw [if_neg (by simp)]
      cases c with
      | false => rw [if_pos rfl]; rfl
      | true =>
        rw [if_neg (by simp)]
        cases a with
        | false =>
          rw [if_pos rfl]
          by_cases hx : x = 0
          · rw [if_pos hx, decide_eq_true hx]; rfl
          · rw [if_neg hx, decide_eq_false hx]; rfl
        | true =>
          rw [if_neg (by simp)]
          cases hr : inR x 0 9 with
          | false => rw [if_pos rfl]; rfl
          | true => rw [if_neg (by simp)]; rfl
def vB (w z : Int32) : Bool := if inR w 2 5 then inR z 0 9 else if w = 7 then inR z 0 9 else if w = 10 then inR z 0 39 else decide (z = 0)
theorem m_64' {τ : SS} {w x z : Int32} (a b : Bool) : b_MO_isRight_64 w x z (b2 a) (b2 b) τ = some (b2 (inR w 0 11 && (b && (vB w z && (if a then inR x 0 9 else decide (x = 0))))), τ) := by
  unfold b_MO_isRight_64 vB
  rw [m_inR, Option.bind_some]
  simp only [b2_z]
  cases h25 : inR w 2 5 with
  | true => rw [if_neg (by simp), m_reg, Option.bind_some, if_pos rfl]; exact m_113 a b _
  | false =>
    rw [if_pos rfl, if_neg (show ¬ false = true by simp)]
    by_cases h7 : w = 7
    · rw [if_pos h7, if_pos h7, m_reg, Option.bind_some]; exact m_113 a b _
    · rw [if_neg h7, if_neg h7]
      by_cases h10 : w = 10
      · rw [if_pos h10, if_pos h10, m_inR, Option.bind_some]; exact m_113 a b _
      · rw [if_neg h10, if_neg h10]
        by_cases hz : z = 0
        · rw [if_pos hz, decide_eq_true hz, show (1 : Int32) = b2 true from rfl]; exact m_113 a b true
        · rw [if_neg hz, decide_eq_false hz, show (0 : Int32) = b2 false from rfl]; exact m_113 a b false
def vA (w y : Int32) : Bool := if w = 0 then inR y (-999) 999 else if w = 9 then inR y 0 39 else if w = 11 then decide (y = 0) else inR y 0 9
theorem m_right {τ : SS} {w x y z : Int32} : f_MO_isRight w x y z τ = some (b2 (inR w 0 11 && (vA w y && (vB w z && (if inR w 0 6 then inR x 0 9 else decide (x = 0))))), τ) := by
  unfold f_MO_isRight vA
  rw [m_inR, Option.bind_some]
  dsimp only
  by_cases h0 : w = 0
  · rw [if_pos h0, if_pos h0, m_inR, Option.bind_some]; exact m_64' _ _
  · rw [if_neg h0, if_neg h0]
    by_cases h9 : w = 9
    · rw [if_pos h9, if_pos h9, m_inR, Option.bind_some]; exact m_64' _ _
    · rw [if_neg h9, if_neg h9]
      by_cases h11 : w = 11
      · rw [if_pos h11, if_pos h11]
        by_cases hy : y = 0
        · rw [if_pos hy, decide_eq_true hy]; exact m_64' _ true
        · rw [if_neg hy, decide_eq_false hy]; exact m_64' _ false
      · rw [if_neg h11, if_neg h11, m_reg, Option.bind_some]; exact m_64' _ _
theorem m_fits {τ : SS} {o : Nat} {x y z : Int32} (ho : o ≤ 11) : f_MO_isRight (nI o) x y z τ = some (b2 (fit o x y z), τ) := by
  rw [m_right]
  congr 2
  congr 1
  unfold fit vA vB
  rcases (show o = 0 ∨ o = 1 ∨ o = 2 ∨ o = 3 ∨ o = 4 ∨ o = 5 ∨ o = 6 ∨ o = 7 ∨ o = 8 ∨ o = 9 ∨ o = 10 ∨ o = 11 by omega) with rfl | rfl | rfl | rfl | rfl | rfl | rfl | rfl | rfl | rfl | rfl | rfl
  · rw [show inR (nI 0) 0 11 = true by decide, show inR (nI 0) 0 6 = true by decide, show inR (nI 0) 2 5 = false by decide]
    have c1 : ∀ a b c : Bool, (true && (a && (b && c))) = (c && (a && b)) := by decide
    rw [c1]
    rfl
  · rw [show inR (nI 1) 0 11 = true by decide, show inR (nI 1) 0 6 = true by decide, show inR (nI 1) 2 5 = false by decide]
    have c1 : ∀ a b c : Bool, (true && (a && (b && c))) = (c && (a && b)) := by decide
    rw [c1]
    rfl
  · rw [show inR (nI 2) 0 11 = true by decide, show inR (nI 2) 0 6 = true by decide, show inR (nI 2) 2 5 = true by decide]
    have c1 : ∀ a b c : Bool, (true && (a && (b && c))) = (c && (a && b)) := by decide
    rw [c1]
    rfl
  · rw [show inR (nI 3) 0 11 = true by decide, show inR (nI 3) 0 6 = true by decide, show inR (nI 3) 2 5 = true by decide]
    have c1 : ∀ a b c : Bool, (true && (a && (b && c))) = (c && (a && b)) := by decide
    rw [c1]
    rfl
  · rw [show inR (nI 4) 0 11 = true by decide, show inR (nI 4) 0 6 = true by decide, show inR (nI 4) 2 5 = true by decide]
    have c1 : ∀ a b c : Bool, (true && (a && (b && c))) = (c && (a && b)) := by decide
    rw [c1]
    rfl
  · rw [show inR (nI 5) 0 11 = true by decide, show inR (nI 5) 0 6 = true by decide, show inR (nI 5) 2 5 = true by decide]
    have c1 : ∀ a b c : Bool, (true && (a && (b && c))) = (c && (a && b)) := by decide
    rw [c1]
    rfl
  · rw [show inR (nI 6) 0 11 = true by decide, show inR (nI 6) 0 6 = true by decide, show inR (nI 6) 2 5 = false by decide]
    have c1 : ∀ a b c : Bool, (true && (a && (b && c))) = (c && (a && b)) := by decide
    rw [c1]
    rfl
  · rw [show inR (nI 7) 0 11 = true by decide, show inR (nI 7) 0 6 = false by decide, show inR (nI 7) 2 5 = false by decide]
    have c1 : ∀ a b c : Bool, (true && (a && (b && c))) = (c && (a && b)) := by decide
    rw [c1]
    rfl
  · rw [show inR (nI 8) 0 11 = true by decide, show inR (nI 8) 0 6 = false by decide, show inR (nI 8) 2 5 = false by decide]
    have c1 : ∀ a b c : Bool, (true && (a && (b && c))) = (c && (a && b)) := by decide
    rw [c1]
    rfl
  · rw [show inR (nI 9) 0 11 = true by decide, show inR (nI 9) 0 6 = false by decide, show inR (nI 9) 2 5 = false by decide]
    have c1 : ∀ a b c : Bool, (true && (a && (b && c))) = (c && (a && b)) := by decide
    rw [c1]
    rfl
  · rw [show inR (nI 10) 0 11 = true by decide, show inR (nI 10) 0 6 = false by decide, show inR (nI 10) 2 5 = false by decide]
    have c1 : ∀ a b c : Bool, (true && (a && (b && c))) = (c && (a && b)) := by decide
    rw [c1]
    rfl
  · rw [show inR (nI 11) 0 11 = true by decide, show inR (nI 11) 0 6 = false by decide, show inR (nI 11) 2 5 = false by decide]
    have c1 : ∀ a b c : Bool, (true && (a && (b && c))) = (c && (a && b)) := by decide
    rw [c1]
    rfl
theorem m_fits0 {τ : SS} {w x y z : Int32} (hw : w < 0 ∨ 11 < w) : f_MO_isRight w x y z τ = some (0, τ) := by
  rw [m_right]
  have : inR w 0 11 = false := by
    unfold inR
    exact decide_eq_false (fun h => hw.elim h.1 h.2)
  rw [this]
  rfl
theorem op_ca (w : Int32) : (w < 0 ∨ 11 < w) ∨ ∃ o, o ≤ 11 ∧ w = nI o := by
  by_cases h0 : w < 0
  · exact Or.inl (Or.inl h0)
  · by_cases h1 : 11 < w
    · exact Or.inl (Or.inr h1)
    · refine Or.inr ?_
      obtain ⟨i, hi, e⟩ := p_nat (x := w) (n := 12) (by omega) h0 (fun h => h1 (by
        have h : (12 : Int32) ≤ w := h
        rw [i_le, show (12 : Int32).toInt = 12 by decide] at h
        rw [i_lt, show (11 : Int32).toInt = 11 by decide]
        omega))
      exact ⟨i, by omega, e⟩
theorem inR_9 {x : Int32} (h : inR x 0 9 = true) : ∃ d, d < 10 ∧ x = nI d := by
  have h := of_decide_eq_true h
  obtain ⟨i, hi, e⟩ := p_nat (x := x) (n := 10) (by omega) h.1 (fun h1 => h.2 (by
    have h1 : (10 : Int32) ≤ x := h1
    rw [i_le, show (10 : Int32).toInt = 10 by decide] at h1
    rw [i_lt, show (9 : Int32).toInt = 9 by decide]
    omega))
  exact ⟨i, hi, e⟩
theorem inR_39 {x : Int32} (h : inR x 0 39 = true) : ∃ d, d < 40 ∧ x = nI d := by
  have h := of_decide_eq_true h
  obtain ⟨i, hi, e⟩ := p_nat (x := x) (n := 40) (by omega) h.1 (fun h1 => h.2 (by
    have h1 : (40 : Int32) ≤ x := h1
    rw [i_le, show (40 : Int32).toInt = 40 by decide] at h1
    rw [i_lt, show (39 : Int32).toInt = 39 by decide]
    omega))
  exact ⟨i, hi, e⟩
theorem fit_rt {o : Nat} {x y z : Int32} (ho : o ≤ 11) (h : fit o x y z = true) : (∃ d, d < 10 ∧ x = nI d) ∧ (o ≠ 0 → ∃ a, a < 40 ∧ y = nI a ∧ (o ≠ 9 → a < 10)) ∧ ∃ b, b < 40 ∧ z = nI b ∧ (o ≠ 10 → b < 10) := by
  unfold fit at h
  simp only [Bool.and_eq_true] at h
  obtain ⟨h1, h2, h3⟩ := h
  refine ⟨?_, fun h0 => ?_, ?_⟩
  · unfold kd kD at h1
    by_cases h6 : o ≤ 6
    · rw [if_pos h6, if_pos rfl] at h1; exact inR_9 h1
    · rw [if_neg h6, if_neg (by omega), if_neg (by omega), if_neg (by omega)] at h1
      exact ⟨0, by omega, of_decide_eq_true h1⟩
  · unfold kd kA at h2
    rw [if_neg h0] at h2
    by_cases h9 : o = 9
    · rw [if_pos h9, if_neg (by omega), if_pos rfl] at h2
      obtain ⟨a, a1, a2⟩ := inR_39 h2
      exact ⟨a, a1, a2, fun h => absurd h9 h⟩
    · rw [if_neg h9] at h2
      by_cases h11 : o = 11
      · rw [if_pos h11, if_neg (by omega), if_neg (by omega), if_neg (by omega)] at h2
        exact ⟨0, by omega, of_decide_eq_true h2, fun _ => by omega⟩
      · rw [if_neg h11, if_pos rfl] at h2
        obtain ⟨a, a1, a2⟩ := inR_9 h2
        exact ⟨a, by omega, a2, fun _ => a1⟩
  · unfold kd kB at h3
    by_cases h2 : (2 ≤ o ∧ o ≤ 5) ∨ o = 7
    · rw [if_pos h2, if_pos rfl] at h3
      obtain ⟨a, a1, a2⟩ := inR_9 h3
      exact ⟨a, by omega, a2, fun _ => a1⟩
    · rw [if_neg h2] at h3
      by_cases h10 : o = 10
      · rw [if_pos h10, if_neg (by omega), if_pos rfl] at h3
        obtain ⟨a, a1, a2⟩ := inR_39 h3
        exact ⟨a, a1, a2, fun h => absurd h10 h⟩
      · rw [if_neg h10, if_neg (by omega), if_neg (by omega), if_neg (by omega)] at h3
        exact ⟨0, by omega, of_decide_eq_true h3, fun _ => by omega⟩
