-- ===== the stack code, as a list =====
abbrev Op : Type := Int32 × Int32
def onm (κ : SS) (pl : Nat → Int32) (j : Nat) : Int32 := if oN κ j = 0 then κ 2 j else if oN κ j = 9 then pl (aN κ j) else if oN κ j = 10 then pl (bN κ j) else 0
def own (κ : SS) (pl : Nat → Int32) (j : Nat) : List Op := if oN κ j = 1 then [] else [(nI (if oN κ j = 0 then 0 else oN κ j + 3), onm κ pl j)]
def tb1 (κ : SS) (T : Nat → En) (j : Nat) : Bool := rB κ j && decide (ndT T (T j).1 < ndT T (T j).2.1)
def nsw (κ : SS) (T : Nat → En) (j : Nat) : Bool := tb1 κ T j && (oN κ j == 3 || oN κ j == 5 || oN κ j == 7)
def thg (f : Nat → List Op) (b : Bool) (r : Nat) : Option Nat → List Op
  | none => if b then [(1, nI r)] else []
  | some i => f i
def tbd (κ : SS) (pl : Nat → Int32) (T : Nat → En) (f : Nat → List Op) (j : Nat) : List Op :=
  (if tb1 κ T j then thg f (rB κ j) (bN κ j) (T j).2.1 ++ thg f (rA κ j) (aN κ j) (T j).1 else thg f (rA κ j) (aN κ j) (T j).1 ++ thg f (rB κ j) (bN κ j) (T j).2.1) ++ ((if nsw κ T j then [(4, 0)] else []) ++ own κ pl j)
def trs (κ : SS) (pl : Nat → Int32) (T : Nat → En) : Nat → Nat → List Op
  | 0, _ => []
  | m + 1, j => tbd κ pl T (trs κ pl T m) j
def tr (κ : SS) (pl : Nat → Int32) (T : Nat → En) (j : Nat) : List Op := trs κ pl T (j + 1) j
/-- what is carried comes before -/
def Dn (T : Nat → En) (n : Nat) : Prop := ∀ j, j < n → (∀ i, (T j).1 = some i → i < j) ∧ ∀ i, (T j).2.1 = some i → i < j
theorem tT_Dn {κ : SS} {B : Nat → Bool} {A : Nat → Int32} {D n : Nat} : Dn (tT κ B A D n) n := fun _ hj => ⟨fun _ h => tT_fa hj h, fun _ h => tT_fb hj h⟩
theorem thg_c {f g : Nat → List Op} {b : Bool} {r : Nat} {o : Option Nat} (h : ∀ i, o = some i → f i = g i) : thg f b r o = thg g b r o := by
  cases o with
  | none => rfl
  | some i => exact h i rfl
theorem tbd_c {κ : SS} {pl : Nat → Int32} {T : Nat → En} {f g : Nat → List Op} {j n : Nat} (hD : Dn T n) (hj : j < n) (h : ∀ i, i < j → f i = g i) : tbd κ pl T f j = tbd κ pl T g j := by
  unfold tbd
  rw [thg_c (f := f) (g := g) (o := (T j).1) (fun i hi => h i ((hD j hj).1 i hi)), thg_c (f := f) (g := g) (o := (T j).2.1) (fun i hi => h i ((hD j hj).2 i hi))]
theorem trs_c {κ : SS} {pl : Nat → Int32} {T : Nat → En} {n : Nat} (hD : Dn T n) : ∀ (j : Nat), j < n → ∀ m m', j < m → j < m' → trs κ pl T m j = trs κ pl T m' j := by
  intro j
  induction j using Nat.strongRecOn with
  | _ j ih =>
    intro hj m m' h1 h2
    obtain ⟨m, rfl⟩ : ∃ g, m = g + 1 := ⟨m - 1, by omega⟩
    obtain ⟨m', rfl⟩ : ∃ g, m' = g + 1 := ⟨m' - 1, by omega⟩
    exact tbd_c hD hj (fun i hi => ih i hi (by omega) m m' (by omega) (by omega))
theorem tr_eq {κ : SS} {pl : Nat → Int32} {T : Nat → En} {n j : Nat} (hD : Dn T n) (hj : j < n) : tr κ pl T j = tbd κ pl T (tr κ pl T) j := tbd_c hD hj (fun i hi => trs_c hD i (by omega) j (i + 1) hi (by omega))
theorem own_l {κ : SS} {pl pl' : Nat → Int32} {j : Nat} : (own κ pl j).length = (own κ pl' j).length := by unfold own; split <;> rfl
theorem thg_l {f g : Nat → List Op} {b : Bool} {r : Nat} {o : Option Nat} (h : ∀ i, o = some i → (f i).length = (g i).length) : (thg f b r o).length = (thg g b r o).length := by
  cases o with
  | none => rfl
  | some i => exact h i rfl
theorem tr_l {κ : SS} {pl pl' : Nat → Int32} {T : Nat → En} {n : Nat} (hD : Dn T n) : ∀ j, j < n → (tr κ pl T j).length = (tr κ pl' T j).length := by
  intro j
  induction j using Nat.strongRecOn with
  | _ j ih =>
    intro hj
    rw [tr_eq hD hj, tr_eq hD hj]
    unfold tbd
    have ea := thg_l (f := tr κ pl T) (g := tr κ pl' T) (b := rA κ j) (r := aN κ j) (o := (T j).1) (fun i hi => ih i ((hD j hj).1 i hi) (by have := (hD j hj).1 i hi; omega))
    have eb := thg_l (f := tr κ pl T) (g := tr κ pl' T) (b := rB κ j) (r := bN κ j) (o := (T j).2.1) (fun i hi => ih i ((hD j hj).2 i hi) (by have := (hD j hj).2 i hi; omega))
    have eo := own_l (κ := κ) (pl := pl) (pl' := pl') (j := j)
    split <;> simp only [List.length_append, ea, eb, eo]
def endl (κ : SS) (A : Nat → Int32) (j : Nat) : List Op := if bt (A j) (dN κ j) then [(2, κ 1 j)] else [(3, 0)]
def car (T : Nat → En) (n j : Nat) : Bool := (gl T n j).isSome
def blk (κ : SS) (pl : Nat → Int32) (T : Nat → En) (A : Nat → Int32) (n j : Nat) : List Op := tr κ pl T j ++ (if wR κ j && !car T n j then endl κ A j else [])
def cdl (κ : SS) (pl : Nat → Int32) (T : Nat → En) (A : Nat → Int32) (n : Nat) : Nat → List Op
  | 0 => []
  | j + 1 => cdl κ pl T A n j ++ (if car T n j then [] else blk κ pl T A n j)
/-- the place where the code of instruction x, or of the next that isn't carried, begins -/
def cum (κ : SS) (T : Nat → En) (A : Nat → Int32) (n x : Nat) : Nat := (cdl κ nI T A n x).length
def PL (κ : SS) (T : Nat → En) (A : Nat → Int32) (n x : Nat) : Int32 := nI (cum κ T A n (if x < n then x else n))
theorem blk_l {κ : SS} {pl pl' : Nat → Int32} {T : Nat → En} {A : Nat → Int32} {n j : Nat} (hD : Dn T n) (hj : j < n) : (blk κ pl T A n j).length = (blk κ pl' T A n j).length := by
  unfold blk
  rw [List.length_append, List.length_append, tr_l (pl' := pl') hD j hj]
theorem cdl_l {κ : SS} {pl pl' : Nat → Int32} {T : Nat → En} {A : Nat → Int32} {n : Nat} (hD : Dn T n) : ∀ j, j ≤ n → (cdl κ pl T A n j).length = (cdl κ pl' T A n j).length := by
  intro j
  induction j with
  | zero => intro _; rfl
  | succ j ih =>
    intro hj
    show (cdl κ pl T A n j ++ _).length = (cdl κ pl' T A n j ++ _).length
    rw [List.length_append, List.length_append, ih (by omega)]
    split
    · rfl
    · rw [blk_l (pl' := pl') hD (by omega)]
theorem cum_s {κ : SS} {T : Nat → En} {A : Nat → Int32} {n j : Nat} : cum κ T A n (j + 1) = cum κ T A n j + (if car T n j then 0 else (blk κ nI T A n j).length) := by
  unfold cum
  show (cdl κ nI T A n j ++ _).length = _
  rw [List.length_append]
  split <;> rfl
theorem cum_m {κ : SS} {T : Nat → En} {A : Nat → Int32} {n i : Nat} : ∀ j, i ≤ j → cum κ T A n i ≤ cum κ T A n j := by
  intro j
  induction j with
  | zero => intro h; rw [show i = 0 by omega]; exact Nat.le_refl _
  | succ j ih =>
    intro h
    by_cases e : i = j + 1
    · rw [e]; exact Nat.le_refl _
    · have := ih (by omega); rw [cum_s]; omega
-- ===== an instruction is carried into one only =====
theorem crr_s {κ : SS} {B : Nat → Bool} {A : Nat → Int32} {T : Nat → En} {j r i : Nat} (h : crr κ B A T j r = some i) : lwo κ B r j = some i ∧ ro κ j r = true ∧ nrb κ B A r j 41 (i + 1) i = true := by
  unfold crr at h
  cases hl : lwo κ B r j with
  | none => rw [hl] at h; cases h
  | some k =>
    rw [hl] at h
    simp only at h
    split at h
    · next hh =>
      cases h
      simp only [Bool.and_eq_true] at hh
      exact ⟨rfl, hh.1.1, hh.1.2⟩
    · cases h
/-- if none but j reads it, then no k in the block before the next writer does -/
theorem nrb_no {κ : SS} {B : Nat → Bool} {A : Nat → Int32} {r j : Nat} : ∀ (f k0 l : Nat), nrb κ B A r j f k0 l = true → ∀ k, k0 ≤ k → k - k0 < f → k ≠ j → (∀ k', k0 ≤ k' → k' ≤ k → B k' = false) → (∀ k', k0 ≤ k' → k' < k → wr κ k' r = false) → rd1 κ k r = false := by
  intro f
  induction f with
  | zero => intro k0 l _ k h1 h2; omega
  | succ f ih =>
    intro k0 l h k h1 h2 h3 h4 h5
    have h : (if B k0 then !(bt (A l) r) else if !(k0 == j) && rd1 κ k0 r then false else if wr κ k0 r then true else nrb κ B A r j f (k0 + 1) k0) = true := h
    rw [if_neg (by rw [h4 k0 (Nat.le_refl _) h1]; simp)] at h
    by_cases e : k0 = k
    · subst e
      cases hr : rd1 κ k0 r with
      | false => rfl
      | true => rw [hr, bnq h3] at h; simp at h
    · rw [h5 k0 (Nat.le_refl _) (by omega)] at h
      by_cases hx : (!(k0 == j) && rd1 κ k0 r) = true
      · rw [if_pos hx] at h; cases h
      · rw [if_neg hx, if_neg (by simp)] at h
        exact ih (k0 + 1) k0 h k (by omega) (by omega) h3 (fun k' a b => h4 k' (by omega) b) (fun k' a b => h5 k' (by omega) b)
theorem ro_rd {κ : SS} {j r : Nat} (h : ro κ j r = true) : rd1 κ j r = true := by
  revert h
  unfold ro rd1
  generalize (rA κ j && aN κ j == r) = x
  generalize (rB κ j && bN κ j == r) = y
  cases x <;> cases y <;> simp
/-- i is carried into j -/
def Kid (T : Nat → En) (j i : Nat) : Prop := (T j).1 = some i ∨ (T j).2.1 = some i
theorem kid_s {κ : SS} {B : Nat → Bool} {A : Nat → Int32} {D n j i : Nat} (hj : j < n) (h : Kid (tT κ B A D n) j i) : lwo κ B (dN κ i) j = some i ∧ ro κ j (dN κ i) = true ∧ nrb κ B A (dN κ i) j 41 (i + 1) i = true := by
  unfold Kid at h
  rw [tT_st n hj] at h
  have key : ∀ r, crr κ B A (tT κ B A D j) j r = some i → lwo κ B (dN κ i) j = some i ∧ ro κ j (dN κ i) = true ∧ nrb κ B A (dN κ i) j 41 (i + 1) i = true := by
    intro r hr
    obtain ⟨a1, a2, a3⟩ := crr_s hr
    have hw := (lwo_s j a1).2.1
    have hd : dN κ i = r := by unfold wr at hw; simp at hw; exact hw.2
    rw [hd]
    exact ⟨a1, a2, a3⟩
  rcases h with h | h
  · exact key _ (fa_s h).2.1
  · exact key _ (fb_s h).2.1
theorem kid_one {κ : SS} {B : Nat → Bool} {A : Nat → Int32} {D n j j' i : Nat} (hn : n ≤ 40) (hj : j < n) (hj' : j' < n) (h : Kid (tT κ B A D n) j i) (h' : Kid (tT κ B A D n) j' i) : j = j' := by
  have aux : ∀ a b, a < n → b < n → Kid (tT κ B A D n) a i → Kid (tT κ B A D n) b i → ¬ a < b := by
    intro a b ha hb ka kb hlt
    obtain ⟨a1, a2, a3⟩ := kid_s ha ka
    obtain ⟨b1, b2, b3⟩ := kid_s hb kb
    obtain ⟨l1, l2, l3, l4⟩ := lwo_s b b1
    have h1 := (lwo_s a a1).1
    have := nrb_no 41 (i + 1) i a3 b (by omega) (by omega) (by omega) (fun k' x y => l3 k' (by omega) y) (fun k' x y => l4 k' (by omega) y)
    rw [ro_rd b2] at this
    cases this
  rcases Nat.lt_trichotomy j j' with hh | hh | hh
  · exact absurd hh (aux j j' hj hj' h h')
  · exact hh
  · exact absurd hh (aux j' j hj' hj h' h)
theorem kid_ab {κ : SS} {B : Nat → Bool} {A : Nat → Int32} {D n j i : Nat} (hj : j < n) (ha : (tT κ B A D n j).1 = some i) (hb : (tT κ B A D n j).2.1 = some i) : False := by
  rw [tT_st n hj] at ha hb
  obtain ⟨r1, c1, -⟩ := fa_s ha
  obtain ⟨r2, c2, -⟩ := fb_s hb
  have w1 := (lwo_s j (crr_s c1).1).2.1
  have w2 := (lwo_s j (crr_s c2).1).2.1
  have hro := (crr_s c1).2.1
  have e1 : dN κ i = aN κ j := by unfold wr at w1; simp at w1; exact w1.2
  have e2 : dN κ i = bN κ j := by unfold wr at w2; simp at w2; exact w2.2
  unfold ro at hro
  rw [r1, r2, ← e2, e1] at hro
  simp at hro
theorem gl_kid {T : Nat → En} {i k : Nat} : ∀ m, gl T m i = some k → k < m ∧ Kid T k i := by
  intro m
  induction m with
  | zero => intro h; cases h
  | succ m ih =>
    intro h
    have h : (if (T m).1 = some i ∨ (T m).2.1 = some i then some m else gl T m i) = some k := h
    split at h
    · next hh => cases h; exact ⟨by omega, hh⟩
    · obtain ⟨a, b⟩ := ih h; exact ⟨by omega, b⟩
theorem gl_some {T : Nat → En} {i k : Nat} : ∀ m, k < m → Kid T k i → (gl T m i).isSome = true := by
  intro m
  induction m with
  | zero => intro h; omega
  | succ m ih =>
    intro h hk
    show (if (T m).1 = some i ∨ (T m).2.1 = some i then some m else gl T m i).isSome = true
    split
    · rfl
    · next hh =>
      by_cases e : k = m
      · subst e; exact absurd hk hh
      · exact ih (by omega) hk
theorem kid_gl {κ : SS} {B : Nat → Bool} {A : Nat → Int32} {D n j i : Nat} (hn : n ≤ 40) (hj : j < n) (h : Kid (tT κ B A D n) j i) : gl (tT κ B A D n) n i = some j := by
  have hs := gl_some n hj h
  obtain ⟨k, hk⟩ := Option.isSome_iff_exists.mp hs
  obtain ⟨a, b⟩ := gl_kid n hk
  rw [hk, kid_one hn a hj b h]
-- ===== counting =====
def sm (f : Nat → Nat) : Nat → Nat
  | 0 => 0
  | k + 1 => sm f k + f k
theorem sm_c {f g : Nat → Nat} : ∀ m, (∀ i, i < m → f i = g i) → sm f m = sm g m := by
  intro m
  induction m with
  | zero => intro _; rfl
  | succ m ih => intro h; show sm f m + f m = sm g m + g m; rw [ih (fun i hi => h i (by omega)), h m (by omega)]
theorem sm_le {f g : Nat → Nat} : ∀ m, (∀ i, i < m → f i ≤ g i) → sm f m ≤ sm g m := by
  intro m
  induction m with
  | zero => intro _; exact Nat.le_refl _
  | succ m ih => intro h; have := ih (fun i hi => h i (by omega)); have := h m (by omega); show sm f m + f m ≤ sm g m + g m; omega
/-- one place is taken out -/
theorem sm_out {f g : Nat → Nat} {x : Nat} : ∀ m, x < m → (∀ i, i < m → i ≠ x → g i = f i) → g x = 0 → sm g m + f x = sm f m := by
  intro m
  induction m with
  | zero => intro h; omega
  | succ m ih =>
    intro hx h h0
    show sm g m + g m + f x = sm f m + f m
    by_cases e : x = m
    · subst e
      rw [h0, sm_c (f := g) (g := f) x (fun i hi => h i (by omega) (by omega))]
      omega
    · have := ih (by omega) (fun i hi hne => h i (by omega) hne) h0
      rw [h m (by omega) (by omega)]
      omega
theorem sm_at {f : Nat → Nat} {x : Nat} : ∀ m, x < m → f x ≤ sm f m := by
  intro m
  induction m with
  | zero => intro h; omega
  | succ m ih =>
    intro hx
    show f x ≤ sm f m + f m
    by_cases e : x = m
    · rw [e]; omega
    · have := ih (by omega); omega
/-- weights that grow by what is carried and at most c more: the sum over those not carried yet is at most c m -/
theorem sm_root {κ : SS} {B : Nat → Bool} {A : Nat → Int32} {D n c : Nat} (hn : n ≤ 40) (w : Nat → Nat) (hw : ∀ j, j < n → ∃ x y o, o ≤ c ∧ w j = x + y + o ∧ ((tT κ B A D n j).1 = none ∧ x ≤ 0 ∨ ∃ i, (tT κ B A D n j).1 = some i ∧ x = w i) ∧ ((tT κ B A D n j).2.1 = none ∧ y ≤ 0 ∨ ∃ i, (tT κ B A D n j).2.1 = some i ∧ y = w i)) : ∀ m, m ≤ n → sm (fun i => if (gl (tT κ B A D n) m i).isSome then 0 else w i) m ≤ c * m := by
  intro m
  induction m with
  | zero => intro _; exact Nat.zero_le _
  | succ m ih =>
    intro hm
    have hmn : m < n := by omega
    have ih := ih (by omega)
    have hD : Dn (tT κ B A D n) n := tT_Dn
    obtain ⟨x, y, o, ho, hwm, hx, hy⟩ := hw m hmn
    -- m itself is not carried yet
    have hgm : gl (tT κ B A D n) (m + 1) m = none := gl_none (m + 1) (fun k hk => ⟨fun h => by have := (hD k (by omega)).1 m h; omega, fun h => by have := (hD k (by omega)).2 m h; omega⟩)
    have hnk : ∀ i, Kid (tT κ B A D n) m i → gl (tT κ B A D n) m i = none := by
      intro i hi
      cases hg : gl (tT κ B A D n) m i with
      | none => rfl
      | some k =>
        obtain ⟨a, b⟩ := gl_kid m hg
        have := kid_one hn (by omega) hmn b hi
        omega
    obtain ⟨F, hF⟩ : ∃ F : Nat → Nat, F = fun i => if (gl (tT κ B A D n) m i).isSome then 0 else w i := ⟨_, rfl⟩
    obtain ⟨G, hG⟩ : ∃ G : Nat → Nat, G = fun i => if (gl (tT κ B A D n) (m + 1) i).isSome then 0 else w i := ⟨_, rfl⟩
    rw [← hF] at ih
    rw [← hG]
    show sm G m + G m ≤ c * (m + 1)
    have hGm : G m = w m := by rw [hG]; simp only [hgm]; rfl
    have hGk : ∀ i, Kid (tT κ B A D n) m i → G i = 0 := by
      intro i hi
      have : gl (tT κ B A D n) (m + 1) i = some m := by
        show (if _ then some m else _) = _
        rw [if_pos (show (tT κ B A D n m).1 = some i ∨ (tT κ B A D n m).2.1 = some i from hi)]
      rw [hG]; simp only [this]; rfl
    have hGn : ∀ i, ¬ Kid (tT κ B A D n) m i → G i = F i := by
      intro i hi
      have : gl (tT κ B A D n) (m + 1) i = gl (tT κ B A D n) m i := by
        show (if _ then some m else _) = _
        rw [if_neg (show ¬ ((tT κ B A D n m).1 = some i ∨ (tT κ B A D n m).2.1 = some i) from hi)]
      rw [hG, hF]; simp only [this]
    have hFk : ∀ i, Kid (tT κ B A D n) m i → F i = w i := by
      intro i hi
      rw [hF]; simp only [hnk i hi]; rfl
    have hmul : c * (m + 1) = c * m + c := by rw [Nat.mul_add, Nat.mul_one]
    have goal : sm G m + x + y ≤ sm F m := by
      rcases hx with ⟨ha, hx⟩ | ⟨i, ha, hx⟩ <;> rcases hy with ⟨hb, hy⟩ | ⟨k, hb, hy⟩
      · have : sm G m = sm F m := sm_c m (fun q _ => hGn q (by unfold Kid; rw [ha, hb]; simp))
        omega
      · have hk := (hD m hmn).2 k hb
        have := sm_out (f := F) (g := G) m hk (fun q _ hne => hGn q (by unfold Kid; rw [ha, hb]; simp; omega)) (hGk k (Or.inr hb))
        rw [hFk k (Or.inr hb)] at this
        omega
      · have hi := (hD m hmn).1 i ha
        have := sm_out (f := F) (g := G) m hi (fun q _ hne => hGn q (by unfold Kid; rw [ha, hb]; simp; omega)) (hGk i (Or.inl ha))
        rw [hFk i (Or.inl ha)] at this
        omega
      · have hi := (hD m hmn).1 i ha
        have hk := (hD m hmn).2 k hb
        have hik : i ≠ k := fun e => kid_ab hmn ha (e ▸ hb)
        obtain ⟨G1, hG1⟩ : ∃ G1 : Nat → Nat, G1 = fun q => if q = i then 0 else F q := ⟨_, rfl⟩
        have s1 := sm_out (f := F) (g := G1) m hi (fun q _ hne => by rw [hG1]; simp only; rw [if_neg hne]) (by rw [hG1]; simp)
        have s2 := sm_out (f := G1) (g := G) m hk (fun q _ hne => by
          rw [hG1]; simp only
          by_cases e : q = i
          · rw [if_pos e, e]; exact hGk i (Or.inl ha)
          · rw [if_neg e]; exact hGn q (by unfold Kid; rw [ha, hb]; simp; omega)) (hGk k (Or.inr hb))
        have e1 : G1 k = w k := by rw [hG1]; simp only; rw [if_neg (Ne.symm hik)]; exact hFk k (Or.inr hb)
        rw [e1] at s2
        rw [hFk i (Or.inl ha)] at s1
        omega
    omega
/-- .. so each weight is at most c (j + 1) -/
theorem w_le {κ : SS} {B : Nat → Bool} {A : Nat → Int32} {D n c : Nat} (hn : n ≤ 40) (w : Nat → Nat) (hw : ∀ j, j < n → ∃ x y o, o ≤ c ∧ w j = x + y + o ∧ ((tT κ B A D n j).1 = none ∧ x ≤ 0 ∨ ∃ i, (tT κ B A D n j).1 = some i ∧ x = w i) ∧ ((tT κ B A D n j).2.1 = none ∧ y ≤ 0 ∨ ∃ i, (tT κ B A D n j).2.1 = some i ∧ y = w i)) {j : Nat} (hj : j < n) : w j ≤ c * (j + 1) := by
  have h := sm_root hn w hw (j + 1) (by omega)
  have hD : Dn (tT κ B A D n) n := tT_Dn
  have hg : gl (tT κ B A D n) (j + 1) j = none := gl_none (j + 1) (fun k hk => ⟨fun h => by have := (hD k (by omega)).1 j h; omega, fun h => by have := (hD k (by omega)).2 j h; omega⟩)
  have := sm_at (f := fun i => if (gl (tT κ B A D n) (j + 1) i).isSome then 0 else w i) (j + 1) (show j < j + 1 by omega)
  simp only [hg] at this
  exact Nat.le_trans this h
