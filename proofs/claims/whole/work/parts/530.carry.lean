-- ===== carrying: what both work out =====
def Bf (κ : SS) (n j : Nat) : Bool := decide (n ≤ j) || bg κ n j
def wr (κ : SS) (k r : Nat) : Bool := wR κ k && dN κ k == r
def rd1 (κ : SS) (k r : Nat) : Bool := (rA κ k && aN κ k == r) || (rB κ k && bN κ k == r)
def ro (κ : SS) (k r : Nat) : Bool := (rA κ k && aN κ k == r) != (rB κ k && bN κ k == r)
def oI : Option Nat → Int32
  | none => -1
  | some i => nI i
def lwo (κ : SS) (B : Nat → Bool) (r : Nat) : Nat → Option Nat
  | 0 => none
  | k + 1 => if B (k + 1) then none else if wr κ k r then some k else lwo κ B r k
def nrb (κ : SS) (B : Nat → Bool) (A : Nat → Int32) (r j : Nat) : Nat → Nat → Nat → Bool
  | 0, _, last => !(bt (A last) r)
  | m + 1, k, last => if B k then !(bt (A last) r) else if !(k == j) && rd1 κ k r then false else if wr κ k r then true else nrb κ B A r j m (k + 1) k
def cwt (κ : SS) (x : Int32) (l : Bool) (j : Nat) : Nat → Nat → Bool
  | 0, _ => true
  | m + 1, k => if j ≤ k then true else if wR κ k && bt x (dN κ k) then false else if l && oN κ k == 7 then false else cwt κ x l j m (k + 1)
/-- what is noted of an instruction: carried for a, for b, need, reads, loads -/
abbrev En : Type := Option Nat × Option Nat × Nat × Int32 × Bool
def crr (κ : SS) (B : Nat → Bool) (A : Nat → Int32) (T : Nat → En) (j r : Nat) : Option Nat := match lwo κ B r j with
  | none => none
  | some i => if ro κ j r && nrb κ B A r j 41 (i + 1) i && cwt κ (T i).2.2.2.1 (T i).2.2.2.2 j 41 (i + 1) then some i else none
def ndT (T : Nat → En) : Option Nat → Nat
  | none => 1
  | some i => (T i).2.2.1
def ndW (κ : SS) (T : Nat → En) (j : Nat) (x y : Option Nat) : Nat := if rA κ j = false then (if oN κ j = 0 then 1 else 0) else if rB κ j = false then ndT T x else if ndT T x = ndT T y then ndT T x + 1 else max (ndT T x) (ndT T y)
def pick (κ : SS) (B : Nat → Bool) (A : Nat → Int32) (T : Nat → En) (j r : Nat) (f : Option Nat → Nat) (D : Nat) : Option Nat := match crr κ B A T j r with
  | none => none
  | some i => if f (some i) ≤ D then some i else none
def tFa (κ : SS) (B : Nat → Bool) (A : Nat → Int32) (D : Nat) (T : Nat → En) (j : Nat) : Option Nat := if rA κ j then pick κ B A T j (aN κ j) (fun x => ndW κ T j x none) D else none
def tFb (κ : SS) (B : Nat → Bool) (A : Nat → Int32) (D : Nat) (T : Nat → En) (j : Nat) : Option Nat := if rB κ j then pick κ B A T j (bN κ j) (fun x => ndW κ T j (tFa κ B A D T j) x) D else none
def rdT (T : Nat → En) (b : Bool) (r : Nat) : Option Nat → Int32
  | none => if b then sb r else 0
  | some i => (T i).2.2.2.1
def ldT (T : Nat → En) : Option Nat → Bool
  | none => false
  | some i => (T i).2.2.2.2
def tS (κ : SS) (B : Nat → Bool) (A : Nat → Int32) (D : Nat) (T : Nat → En) (j : Nat) : En :=
  (tFa κ B A D T j, tFb κ B A D T j, ndW κ T j (tFa κ B A D T j) (tFb κ B A D T j), rdT T (rA κ j) (aN κ j) (tFa κ B A D T j) ||| rdT T (rB κ j) (bN κ j) (tFb κ B A D T j), oN κ j == 6 || ldT T (tFa κ B A D T j) || ldT T (tFb κ B A D T j))
def tT (κ : SS) (B : Nat → Bool) (A : Nat → Int32) (D : Nat) : Nat → Nat → En
  | 0, _ => (none, none, 0, 0, false)
  | m + 1, i => if i = m then tS κ B A D (tT κ B A D m) m else tT κ B A D m i
/-- the goal of i -/
def gl (T : Nat → En) : Nat → Nat → Option Nat
  | 0, _ => none
  | m + 1, i => if (T m).1 = some i ∨ (T m).2.1 = some i then some m else gl T m i
theorem tT_ne {κ : SS} {B : Nat → Bool} {A : Nat → Int32} {D m i : Nat} (h : i ≠ m) : tT κ B A D (m + 1) i = tT κ B A D m i := by show (if i = m then _ else _) = _; rw [if_neg h]
theorem tT_eq {κ : SS} {B : Nat → Bool} {A : Nat → Int32} {D m : Nat} : tT κ B A D (m + 1) m = tS κ B A D (tT κ B A D m) m := by show (if m = m then _ else _) = _; rw [if_pos rfl]
theorem gl_c {T T' : Nat → En} : ∀ m, (∀ i, i < m → T i = T' i) → ∀ i, gl T m i = gl T' m i := by
  intro m
  induction m with
  | zero => intro _ _; rfl
  | succ m ih => intro h i; show (if _ then _ else _) = (if _ then _ else _); rw [h m (by omega), ih (fun k hk => h k (by omega))]
theorem lwo_s {κ : SS} {B : Nat → Bool} {r i : Nat} : ∀ j, lwo κ B r j = some i → i < j ∧ wr κ i r = true ∧ (∀ k, i < k → k ≤ j → B k = false) ∧ ∀ k, i < k → k < j → wr κ k r = false := by
  intro j
  induction j with
  | zero => intro h; cases h
  | succ j ih =>
    intro h
    have h : (if B (j + 1) then none else if wr κ j r then some j else lwo κ B r j) = some i := h
    by_cases h1 : B (j + 1) = true
    · rw [if_pos h1] at h; cases h
    · rw [if_neg h1] at h
      simp at h1
      by_cases h2 : wr κ j r = true
      · rw [if_pos h2] at h
        cases h
        exact ⟨by omega, h2, fun k a b => by rw [show k = i + 1 by omega]; exact h1, fun k a b => by omega⟩
      · rw [if_neg h2] at h
        simp at h2
        obtain ⟨a1, a2, a3, a4⟩ := ih h
        refine ⟨by omega, a2, fun k a b => ?_, fun k a b => ?_⟩
        · by_cases e : k = j + 1
          · rw [e]; exact h1
          · exact a3 k a (by omega)
        · by_cases e : k = j
          · rw [e]; exact h2
          · exact a4 k a (by omega)
-- ===== the class =====
theorem eqr {b : Bool} {a r : Nat} (ha : b = true → a < 2 ^ 31) (hr : r < 2 ^ 31) : ((if b then nI a else -1) = nI r) ↔ (b && a == r) = true := by
  cases b with
  | false =>
    rw [if_neg (by simp)]
    constructor
    · intro h; exact absurd h.symm (p_nm1 hr)
    · intro h; simp at h
  | true =>
    rw [if_pos rfl, nI_eq (ha rfl) hr]
    simp
/-- what the class has when carrying is settled -/
def KC (σ : SS) (n : Nat) (A : Nat → Int32) : Prop := CC σ n ∧ (∀ j, j < n → σ 7 j = b2 (bg σ n j)) ∧ ∀ j, j < n → σ 9 j = A j
theorem KC.fr {S : List Nat} {σ σ' : SS} {n : Nat} {A : Nat → Int32} (h : Fr S σ σ') (hs : ∀ k, k < 7 ∨ k = 25 ∨ k = 7 ∨ k = 9 → k ∉ S) (hc : KC σ n A) : KC σ' n A := by
  have he : Eqc σ' σ := h.eqc (fun k hk => hs k (Or.inl (by omega)))
  refine ⟨hc.1.fr h (fun k hk => hs k (by omega)), fun j hj => ?_, fun j hj => ?_⟩
  · rw [he.bgq, h 7 (hs 7 (by omega))]; exact hc.2.1 j hj
  · rw [h 9 (hs 9 (by omega))]; exact hc.2.2 j hj
theorem c_begins {σ : SS} {n j : Nat} {A : Nat → Int32} (hc : KC σ n A) (hj : j < n) : f_FL_beginsBlock (nI j) σ = some (b2 (Bf σ n j), σ) := by
  have hn4 := hc.1.1.1
  unfold f_FL_beginsBlock Bf
  rw [p_ld (by omega) (by decide), Option.bind_some, hc.2.1 j hj, b2_rz]
  have : decide (n ≤ j) = false := by simp; omega
  rw [this]; rfl
theorem c_wb {σ : SS} {n k r : Nat} (hc : CC σ n) (hk : k < n) (hr : r < 10) : (σ 4 k = nI r) ↔ wr σ k r = true := by
  rw [c_rowW hc hk]
  exact eqr (fun _ => by have := (hc.1.2 k hk).2.2.2.1; omega) (by omega)
theorem c_lw {σ : SS} {n r : Nat} {A : Nat → Int32} (hc : KC σ n A) (hr : r < 10) : ∀ (m k : Nat), k < n → k < m → b_CA_lastWriter_9 m (nI r) (nI k) σ = some (oI (lwo σ (Bf σ n) r k), σ) := by
  have hn4 := hc.1.1.1
  intro m
  induction m with
  | zero => intro k _ h; omega
  | succ m ih =>
    intro k hk hm
    rw [b_CA_lastWriter_9]
    cases k with
    | zero => rw [if_pos (by decide)]; rfl
    | succ k =>
      rw [if_neg (show ¬ nI (k + 1) ≤ 0 from nI_nle (by omega) (by omega)), c_begins hc hk, Option.bind_some]
      show _ = some (oI (if Bf σ n (k + 1) then none else if wr σ k r then some k else lwo σ (Bf σ n) r k), σ)
      simp only [b2_z]
      by_cases h1 : Bf σ n (k + 1) = true
      · rw [if_neg (by simp [h1]), if_pos h1]; rfl
      · rw [if_pos (by simpa using h1), if_neg h1]
        have e1 : nI (k + 1) - 1 = nI k := pk_sub (a := k + 1) (b := 1) (by omega)
        have e2 : nI (k + 1) + (-1) = nI k := pk_m1 k
        rw [e1, e2, g_w (by omega), Option.bind_some]
        by_cases h2 : wr σ k r = true
        · rw [if_pos ((c_wb hc.1 (by omega) hr).mpr h2), if_pos h2]; rfl
        · rw [if_neg (fun h => h2 ((c_wb hc.1 (by omega) hr).mp h)), if_neg h2]
          exact ih k (by omega) (by omega)
theorem c_reads {σ : SS} {n k r : Nat} (hc : CC σ n) (hk : k < n) (hr : r < 10) : f_RC_reads (nI k) (nI r) σ = some (b2 (rd1 σ k r), σ) := by
  have hn4 := hc.1.1
  have hrt := hc.1.2 k hk
  unfold f_RC_reads rd1
  have ea : (σ 5 k = nI r) ↔ (rA σ k && aN σ k == r) = true := by
    rw [c_rowA hc hk]; exact eqr (fun h => by have := (rA_lt hrt h).2; omega) (by omega)
  have eb : (σ 6 k = nI r) ↔ (rB σ k && bN σ k == r) = true := by
    rw [c_rowB hc hk]; exact eqr (fun h => by have := (rB_lt hrt h).2; omega) (by omega)
  rw [p_ld (by omega) (by decide), Option.bind_some]
  by_cases h1 : (rA σ k && aN σ k == r) = true
  · rw [if_pos (ea.mpr h1), h1]; rfl
  · rw [if_neg (fun h => h1 (ea.mp h)), p_ld (by omega) (by decide), Option.bind_some]
    simp only [Bool.not_eq_true] at h1
    rw [h1]
    by_cases h2 : (rB σ k && bN σ k == r) = true
    · rw [if_pos (eb.mpr h2), h2]; rfl
    · rw [if_neg (fun h => h2 (eb.mp h))]
      simp only [Bool.not_eq_true] at h2
      rw [h2]; rfl
theorem c_once {σ : SS} {n k r : Nat} (hc : CC σ n) (hk : k < n) (hr : r < 10) : f_RC_readsOnce (nI k) (nI r) σ = some (b2 (ro σ k r), σ) := by
  have hn4 := hc.1.1
  have hrt := hc.1.2 k hk
  unfold f_RC_readsOnce ro
  have ea : (σ 5 k = nI r) ↔ (rA σ k && aN σ k == r) = true := by
    rw [c_rowA hc hk]; exact eqr (fun h => by have := (rA_lt hrt h).2; omega) (by omega)
  have eb : (σ 6 k = nI r) ↔ (rB σ k && bN σ k == r) = true := by
    rw [c_rowB hc hk]; exact eqr (fun h => by have := (rB_lt hrt h).2; omega) (by omega)
  rw [p_ld (by omega) (by decide), Option.bind_some]
  by_cases h1 : (rA σ k && aN σ k == r) = true
  · rw [if_pos (ea.mpr h1), p_ld (by omega) (by decide), Option.bind_some, h1]
    by_cases h2 : (rB σ k && bN σ k == r) = true
    · rw [if_pos (eb.mpr h2), h2]; rfl
    · rw [if_neg (fun h => h2 (eb.mp h))]
      simp only [Bool.not_eq_true] at h2
      rw [h2]; rfl
  · rw [if_neg (fun h => h1 (ea.mp h)), p_ld (by omega) (by decide), Option.bind_some]
    simp only [Bool.not_eq_true] at h1
    rw [h1]
    by_cases h2 : (rB σ k && bN σ k == r) = true
    · rw [if_pos (eb.mpr h2), h2]; rfl
    · rw [if_neg (fun h => h2 (eb.mp h))]
      simp only [Bool.not_eq_true] at h2
      rw [h2]; rfl
/-- a bit of a set -/
theorem and_sb {x : Int32} {r : Nat} (hr : r < 32) : (x &&& sb r = 0) ↔ bt x r = false := by
  constructor
  · intro h
    have h1 := congrArg (fun y => bt y r) h
    simp only [b_and, b_0, bt_sb hr hr, decide_true, Bool.and_true] at h1
    exact h1
  · intro h
    apply b_ext
    intro k hk
    rw [b_and, b_0, bt_sb hr hk]
    by_cases e : k = r
    · rw [e, h]; rfl
    · simp [e]
theorem and_0 (x : Int32) : x &&& 0 = 0 := by
  apply b_ext
  intro k hk
  rw [b_and, b_0, Bool.and_false]
theorem c_end87 {σ : SS} {n last r : Nat} {A : Nat → Int32} (hc : KC σ n A) (hl : last < n) (hr : r < 10) : b_CA_isReadByNoneBut_87 (nI r) (nI last) σ = some (b2 (!(bt (A last) r)), σ) := by
  have hn4 := hc.1.1.1
  unfold b_CA_isReadByNoneBut_87 f_FL_liveAfter
  rw [p_ld (by omega) (by decide), Option.bind_some, Option.bind_some, hc.2.2 last hl]
  dsimp only
  rw [show f_FL_setOf (nI r) σ = some (sb r, σ) from c_setOf true (r := r) rfl (fun _ => hr), Option.bind_some]
  dsimp only
  by_cases h : bt (A last) r = false
  · rw [if_pos ((and_sb (by omega)).mpr h), h]; rfl
  · rw [if_neg (fun e => h ((and_sb (by omega)).mp e))]
    simp only [Bool.not_eq_false] at h
    rw [h]; rfl
theorem c_nrb {σ : SS} {n j r : Nat} {A : Nat → Int32} (hc : KC σ n A) (hr : r < 10) (hj : j < n) : ∀ (m k last : Nat), k ≤ n → last < n → n - k < m → ∀ f, n - k ≤ f → b_CA_isReadByNoneBut_17 m (nI j) (nI r) (nI last) (nI k) σ = some (b2 (nrb σ (Bf σ n) A r j f k last), σ) := by
  have hn4 := hc.1.1.1
  intro m
  induction m with
  | zero => intro k last _ _ h; omega
  | succ m ih =>
    intro k last hk hl hm f hf
    rw [b_CA_isReadByNoneBut_17, g_count, Option.bind_some]
    dsimp only
    rw [hc.1.2.1]
    by_cases hkn : k < n
    · rw [if_neg (nI_ge hkn (by omega)), c_begins hc hkn, Option.bind_some]
      obtain ⟨f, rfl⟩ : ∃ g, f = g + 1 := ⟨f - 1, by omega⟩
      show _ = some (b2 (if Bf σ n k then !(bt (A last) r) else if !(k == j) && rd1 σ k r then false else if wr σ k r then true else nrb σ (Bf σ n) A r j f (k + 1) k), σ)
      simp only [b2_z]
      by_cases h1 : Bf σ n k = true
      · rw [if_neg (by simp [h1]), if_pos h1]
        exact c_end87 hc hl hr
      · rw [if_pos (by simpa using h1), if_neg h1]
        have tail : (f_RC_writtenBy (nI k) σ).bind (fun q8 => if q8.1 = nI r then some ((1 : Int32), q8.2) else b_CA_isReadByNoneBut_17 m (nI j) (nI r) (nI k) (nI k + 1) q8.2) = some (b2 (if wr σ k r then true else nrb σ (Bf σ n) A r j f (k + 1) k), σ) := by
          rw [g_w (by omega), Option.bind_some]
          by_cases h2 : wr σ k r = true
          · rw [if_pos ((c_wb hc.1 hkn hr).mpr h2), if_pos h2]; rfl
          · rw [if_neg (fun h => h2 ((c_wb hc.1 hkn hr).mp h)), if_neg h2, nI_1]
            exact ih (k + 1) k (by omega) hkn (by omega) f (by omega)
        by_cases e : k = j
        · rw [if_pos (by rw [e]), e, beq_self_eq_true]
          rw [e] at tail
          exact tail
        · rw [if_neg (nI_neq (by omega) (by omega) e), c_reads hc.1 hkn hr, Option.bind_some, bnq e]
          simp only [b2_z, Bool.not_false, Bool.true_and]
          by_cases h3 : rd1 σ k r = true
          · rw [if_neg (by simp [h3]), if_pos h3]; rfl
          · rw [if_pos (by simpa using h3), if_neg h3]
            exact tail
    · rw [if_pos (nI_le (by omega) (by omega)), c_end87 hc hl hr]
      have hB : Bf σ n k = true := by unfold Bf; simp; omega
      cases f with
      | zero => rfl
      | succ f => show _ = some (b2 (if Bf σ n k then _ else _), σ); rw [if_pos hB]
theorem c_none {σ : SS} {n i j r : Nat} {A : Nat → Int32} (hc : KC σ n A) (hr : r < 10) (hj : j < n) (hi : i < n) (hw : wr σ i r = true) : f_CA_isReadByNoneBut (nI j) (nI i) σ = some (b2 (nrb σ (Bf σ n) A r j 41 (i + 1) i), σ) := by
  have hn4 := hc.1.1.1
  unfold f_CA_isReadByNoneBut
  rw [g_w (by omega), Option.bind_some, (c_wb hc.1 hi hr).mpr hw, nI_1]
  exact c_nrb hc hr hj FU (i + 1) i (by omega) hi (by unfold FU; omega) 41 (by omega)
theorem c_cwt {σ : SS} {n i j : Nat} {x : Int32} {l : Bool} (hc : CC σ n) (hi : i < n) (hj : j < n) (h14 : σ 14 i = x) (h15 : σ 15 i = b2 l) : ∀ (m k : Nat), k ≤ j → j - k < m → ∀ f, j - k ≤ f → b_CA_canWait_4 m (nI i) (nI j) (nI k) σ = some (b2 (cwt σ x l j f k), σ) := by
  have hn4 := hc.1.1
  intro m
  induction m with
  | zero => intro k _ h; omega
  | succ m ih =>
    intro k hk hm f hf
    rw [b_CA_canWait_4]
    by_cases hkj : k < j
    · obtain ⟨f, rfl⟩ : ∃ g, f = g + 1 := ⟨f - 1, by omega⟩
      show _ = some (b2 (if j ≤ k then true else if wR σ k && bt x (dN σ k) then false else if l && oN σ k == 7 then false else cwt σ x l j f (k + 1)), σ)
      rw [if_neg (nI_ge hkj (by omega)), if_neg (show ¬ j ≤ k by omega), p_ld (by omega) (by decide), Option.bind_some, h14, g_w (by omega), Option.bind_some]
      dsimp only
      rw [c_setOf (wR σ k) (c_rowW hc (by omega)) (fun _ => (hc.1.2 k (by omega)).2.2.2.1), Option.bind_some]
      dsimp only
      have hrt := hc.1.2 k (by omega)
      have ew : (x &&& (if wR σ k = true then sb (dN σ k) else 0) = 0) ↔ (wR σ k && bt x (dN σ k)) = false := by
        cases wR σ k with
        | false => rw [if_neg (by simp)]; simp [and_0]
        | true => rw [if_pos rfl]; simp only [Bool.true_and]; exact and_sb (by have := hrt.2.2.2.1; omega)
      by_cases h1 : (wR σ k && bt x (dN σ k)) = false
      · rw [if_pos (ew.mpr h1), if_neg (show ¬ ((wR σ k && bt x (dN σ k)) = true) by rw [h1]; simp), p_ld (by omega) (by decide), Option.bind_some, h15]
        simp only [b2_z]
        cases l with
        | false =>
          rw [if_pos rfl, Bool.false_and, if_neg (by simp), nI_1]
          exact ih (k + 1) (by omega) (by omega) f (by omega)
        | true =>
          rw [if_neg (by simp), g_op (by omega), Option.bind_some]
          dsimp only
          rw [hrt.1, Bool.true_and]
          have h11 := hrt.2.1
          by_cases h7 : oN σ k = 7
          · rw [h7, if_pos (by decide), if_pos (by decide)]; rfl
          · rw [if_neg (show ¬ nI (oN σ k) = 7 from nI_neq (b := 7) (by omega) (by omega) h7), bnq h7, if_neg (by simp), nI_1]
            exact ih (k + 1) (by omega) (by omega) f (by omega)
      · rw [if_neg (fun h => h1 (ew.mp h))]
        simp only [Bool.not_eq_false] at h1
        rw [h1, if_pos rfl]; rfl
    · rw [if_pos (nI_le (by omega) (by omega))]
      cases f with
      | zero => rfl
      | succ f => show _ = some (b2 (if j ≤ k then _ else _), σ); rw [if_pos (by omega)]; rfl
theorem c_wait {σ : SS} {n i j : Nat} {x : Int32} {l : Bool} (hc : CC σ n) (hi : i < j) (hj : j < n) (h14 : σ 14 i = x) (h15 : σ 15 i = b2 l) : f_CA_canWait (nI i) (nI j) σ = some (b2 (cwt σ x l j 41 (i + 1)), σ) := by
  have hn4 := hc.1.1
  unfold f_CA_canWait
  rw [nI_1]
  exact c_cwt hc (by omega) hj h14 h15 FU (i + 1) (by omega) (by unfold FU; omega) 41 (by omega)
/-- the rows of the first j, as T has them -/
def RC (σ : SS) (T : Nat → En) (j : Nat) : Prop := ∀ i, i < j → σ 11 i = oI (T i).1 ∧ σ 12 i = oI (T i).2.1 ∧ σ 13 i = nI (T i).2.2.1 ∧ σ 14 i = (T i).2.2.2.1 ∧ σ 15 i = b2 (T i).2.2.2.2
theorem c_carriable {σ : SS} {n j r : Nat} {A : Nat → Int32} {T : Nat → En} (b : Bool) (hc : KC σ n A) (hj : j < n) (hT : RC σ T j) {x : Int32} (hx : x = if b then nI r else -1) (hr : b = true → r < 10) : f_CA_carriable x (nI j) σ = some (oI (if b then crr σ (Bf σ n) A T j r else none), σ) := by
  have hn4 := hc.1.1.1
  unfold f_CA_carriable f_CA_lastWriter
  cases b with
  | false =>
    have hx : x = -1 := by simpa using hx
    subst hx
    rw [if_pos rfl, Option.bind_some]
    rfl
  | true =>
    have hr := hr rfl
    have hx : x = nI r := by simpa using hx
    subst hx
    rw [if_neg (p_nm1 (by omega)), c_lw hc hr FU j hj (by unfold FU; omega), Option.bind_some, if_pos rfl]
    dsimp only
    unfold crr
    cases hl : lwo σ (Bf σ n) r j with
    | none => rw [if_pos (show oI none = -1 from rfl)]; rfl
    | some i =>
      obtain ⟨l1, l2, l3, l4⟩ := lwo_s j hl
      obtain ⟨t1, t2, t3, t4, t5⟩ := hT i l1
      show (if nI i = -1 then _ else _) = some (oI (if _ then _ else _), σ)
      rw [if_neg (p_nm1 (by omega)), c_once hc.1 hj hr, Option.bind_some]
      simp only [b2_z]
      by_cases h1 : ro σ j r = true
      · rw [if_neg (by simp [h1]), show oI (some i) = nI i from rfl, c_none hc hr hj (by omega) l2, Option.bind_some, h1, Bool.true_and]
        simp only [b2_z]
        by_cases h2 : nrb σ (Bf σ n) A r j 41 (i + 1) i = true
        · rw [if_neg (by simp [h2]), c_wait hc.1 l1 hj t4 t5, Option.bind_some, h2, Bool.true_and]
          simp only [b2_z]
          by_cases h3 : cwt σ (T i).2.2.2.1 (T i).2.2.2.2 j 41 (i + 1) = true
          · rw [if_neg (by simp [h3]), if_neg (by decide), if_pos h3]; rfl
          · rw [if_pos (by simpa using h3), if_neg h3]; rfl
        · rw [if_pos (by simpa using h2), if_neg (by simp [h2])]; rfl
      · rw [if_pos (by simpa using h1), if_neg (by simp [h1])]; rfl
