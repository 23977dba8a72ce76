-- ===== the class writes =====
def SegAt (C : List Op) (s : Nat) (l : List Op) : Prop := ∀ k, k < l.length → C[s + k]? = l[k]?
def Gd (C : List Op) (σ : SS) (p : Nat) : Prop := C[p]? = some (σ 16 p, σ 17 p)
theorem Seg_l {C : List Op} {s : Nat} {a b : List Op} (h : SegAt C s (a ++ b)) : SegAt C s a := fun k hk => by
  have := h k (by rw [List.length_append]; omega)
  rw [List.getElem?_append_left hk] at this
  exact this
theorem Seg_r {C : List Op} {s : Nat} {a b : List Op} (h : SegAt C s (a ++ b)) : SegAt C (s + a.length) b := fun k hk => by
  have := h (a.length + k) (by rw [List.length_append]; omega)
  rw [List.getElem?_append_right (by omega), Nat.add_sub_cancel_left] at this
  rw [Nat.add_assoc]
  exact this
def wt (σ : SS) (p : Nat) (x y : Int32) : SS := su (su σ 16 p x) 17 p y
theorem wt_fr {σ : SS} {p : Nat} {x y : Int32} : Fr [16, 17] σ (wt σ p x y) := Fr.tr (Fr.su (by simp)) (Fr.su (by simp))
theorem wt_gd {C : List Op} {σ : SS} {p : Nat} {x y : Int32} (h : C[p]? = some (x, y)) : Gd C (wt σ p x y) p ∧ ∀ q, Gd C σ q → Gd C (wt σ p x y) q := by
  have e1 : wt σ p x y 16 p = x := by unfold wt; rw [p_suk (by omega), p_sus]
  have e2 : wt σ p x y 17 p = y := by unfold wt; rw [p_sus]
  refine ⟨by unfold Gd; rw [e1, e2]; exact h, fun q hq => ?_⟩
  by_cases e : q = p
  · subst e; unfold Gd; rw [e1, e2]; exact h
  · have e3 : wt σ p x y 16 q = σ 16 q := by unfold wt; rw [p_suk (by omega), p_sun e]
    have e4 : wt σ p x y 17 q = σ 17 q := by unfold wt; rw [p_sun e, p_suk (by omega)]
    unfold Gd at hq ⊢
    rw [e3, e4]
    exact hq
theorem c_write {σ : SS} {p : Nat} {x y : Int32} (hp : p < 201) : f_ST_write (nI p) x y σ = some (nI (p + 1), wt σ p x y) := by
  unfold f_ST_write
  rw [if_neg (nI_pos (by omega)), if_neg (show ¬ (201 : Int32) ≤ nI p from nI_ge (b := 201) hp (by omega)), p_sto hp (by decide), Option.bind_some, p_sto hp (by decide), Option.bind_some, nI_1]
  rfl
theorem c_wThing {σ : SS} {C : List Op} {f : Nat → List Op} {n r p : Nat} (b : Bool) {x : Int32} (hx : x = if b then nI r else -1) (hr : b = true → r < 10) (hn4 : n ≤ 40) (o : Option Nat) (hseg : SegAt C p (thg f b r o)) (hp : p + (thg f b r o).length ≤ 200) (ho : ∀ i, o = some i → i < n ∧ b = true ∧ σ 18 i = nI (f i).length) : ∃ σ' : SS, f_ST_writeThing (nI p) x (oI o) σ = some (nI (p + (thg f b r o).length), σ') ∧ Fr [16, 17, 19] σ σ' ∧ (∀ q, Gd C σ q → Gd C σ' q) ∧ (o = none → (∀ q, p ≤ q → q < p + (thg f b r o).length → Gd C σ' q) ∧ σ' 19 = σ 19) ∧ ∀ i, o = some i → σ' 19 i = nI p ∧ ∀ k, k ≠ i → σ' 19 k = σ 19 k := by
  unfold f_ST_writeThing
  cases b with
  | false =>
    have hx : x = -1 := by simpa using hx
    rw [if_pos hx]
    cases o with
    | none => exact ⟨σ, rfl, Fr.rf, fun _ h => h, fun _ => ⟨fun q h1 h2 => by have h2 : q < p + 0 := h2; omega, rfl⟩, fun i h => by cases h⟩
    | some i => have := (ho i rfl).2.1; cases this
  | true =>
    have hx : x = nI r := by simpa using hx
    rw [if_neg (by rw [hx]; exact p_nm1 (by have := hr rfl; omega))]
    cases o with
    | none =>
      have hp : p + 1 ≤ 200 := hp
      rw [if_pos (show oI none = -1 from rfl), c_write (by omega), Option.bind_some]
      have hs : C[p]? = some (1, nI r) := hseg 0 (show 0 < 1 by omega)
      rw [hx]
      obtain ⟨g1, g2⟩ := wt_gd (σ := σ) hs
      refine ⟨_, rfl, wt_fr.mono (by simp), g2, fun _ => ⟨fun q h1 h2 => ?_, (wt_fr (σ := σ) (p := p) (x := 1) (y := nI r)) 19 (by simp)⟩, fun i h => by cases h⟩
      have h2 : q < p + 1 := h2
      rw [show q = p by omega]
      exact g1
    | some i =>
      obtain ⟨h1, -, h2⟩ := ho i rfl
      have hp : p + (f i).length ≤ 200 := hp
      rw [show oI (some i) = nI i from rfl, if_neg (p_nm1 (by omega)), p_sto (by omega) (by decide), Option.bind_some, p_suK (show (18 : Nat) ≠ 19 by omega), p_ld (by omega) (by decide), Option.bind_some, h2, nI_add]
      refine ⟨_, rfl, Fr.su (by simp), fun q hq => ?_, (fun h => by cases h), (fun k hk => ?_)⟩
      · unfold Gd at hq ⊢
        rw [p_suk (by omega), p_suk (by omega)]
        exact hq
      · cases hk
        exact ⟨p_sus _ _ _ _, fun k hk => p_sun hk⟩
/-- two things, one behind the other -/
theorem c_two {σ : SS} {C : List Op} {f : Nat → List Op} {n r1 r2 p : Nat} (b1 b2 : Bool) {x1 x2 : Int32} (hx1 : x1 = if b1 then nI r1 else -1) (hr1 : b1 = true → r1 < 10) (hx2 : x2 = if b2 then nI r2 else -1) (hr2 : b2 = true → r2 < 10) (hn4 : n ≤ 40) (o1 o2 : Option Nat) (hne : ∀ i, o1 = some i → o2 = some i → False) (hseg : SegAt C p (thg f b1 r1 o1 ++ thg f b2 r2 o2)) (hp : p + ((thg f b1 r1 o1).length + (thg f b2 r2 o2).length) ≤ 200) (ho1 : ∀ i, o1 = some i → i < n ∧ b1 = true ∧ σ 18 i = nI (f i).length) (ho2 : ∀ i, o2 = some i → i < n ∧ b2 = true ∧ σ 18 i = nI (f i).length) : ∃ (y : Nat) (σ1 σ' : SS), f_ST_writeThing (nI p) x1 (oI o1) σ = some (nI y, σ1) ∧ f_ST_writeThing (nI y) x2 (oI o2) σ1 = some (nI (p + ((thg f b1 r1 o1).length + (thg f b2 r2 o2).length)), σ') ∧ Fr [16, 17, 19] σ σ' ∧ (∀ q, Gd C σ q → Gd C σ' q) ∧ (∀ q, p ≤ q → q < p + ((thg f b1 r1 o1).length + (thg f b2 r2 o2).length) → Gd C σ' q ∨ ∃ i, (o1 = some i ∨ o2 = some i) ∧ ∃ si, σ' 19 i = nI si ∧ si ≤ q ∧ q < si + (f i).length) ∧ (∀ i, (o1 = some i ∨ o2 = some i) → ∃ si, σ' 19 i = nI si ∧ SegAt C si (f i) ∧ si + (f i).length ≤ 200) ∧ ∀ i, ¬ (o1 = some i ∨ o2 = some i) → σ' 19 i = σ 19 i := by
  obtain ⟨σ1, e1, e2, e3, e4, e5⟩ := c_wThing (C := C) (f := f) (n := n) b1 hx1 hr1 hn4 o1 (Seg_l hseg) (by omega) ho1
  obtain ⟨σ', g1, g2, g3, g4, g5⟩ := c_wThing (σ := σ1) (C := C) (f := f) (n := n) (p := p + (thg f b1 r1 o1).length) b2 hx2 hr2 hn4 o2 (Seg_r hseg) (by omega) (fun i hi => by
    obtain ⟨a1, a2, a3⟩ := ho2 i hi
    exact ⟨a1, a2, by rw [e2 18 (by simp)]; exact a3⟩)
  have k19 : ∀ i, o2 ≠ some i → σ' 19 i = σ1 19 i := by
    intro i hi
    cases ho : o2 with
    | none => rw [(g4 ho).2]
    | some k => exact (g5 k ho).2 i (fun e => hi (by rw [ho, e]))
  have k19' : ∀ i, o1 ≠ some i → σ1 19 i = σ 19 i := by
    intro i hi
    cases ho : o1 with
    | none => rw [(e4 ho).2]
    | some k => exact (e5 k ho).2 i (fun e => hi (by rw [ho, e]))
  have s1 : ∀ i, o1 = some i → σ' 19 i = nI p ∧ SegAt C p (f i) ∧ (thg f b1 r1 o1).length = (f i).length := by
    intro i hi
    refine ⟨by rw [k19 i (fun h => hne i hi h)]; exact (e5 i hi).1, ?_, by rw [hi]; rfl⟩
    have := Seg_l hseg
    rw [hi] at this
    exact this
  have s2 : ∀ i, o2 = some i → σ' 19 i = nI (p + (thg f b1 r1 o1).length) ∧ SegAt C (p + (thg f b1 r1 o1).length) (f i) ∧ (thg f b2 r2 o2).length = (f i).length := by
    intro i hi
    refine ⟨(g5 i hi).1, ?_, by rw [hi]; rfl⟩
    have := Seg_r hseg
    rw [hi] at this
    exact this
  refine ⟨_, σ1, σ', e1, by rw [g1, Nat.add_assoc], e2.tr g2, fun q hq => g3 q (e3 q hq), fun q h1 h2 => ?_, fun i hi => ?_, fun i hi => ?_⟩
  · by_cases hq : q < p + (thg f b1 r1 o1).length
    · cases ho : o1 with
      | none => exact Or.inl (g3 q ((e4 ho).1 q h1 hq))
      | some i =>
        obtain ⟨a1, a2, a3⟩ := s1 i ho
        exact Or.inr ⟨i, Or.inl rfl, p, a1, h1, by rw [← a3]; omega⟩
    · cases ho : o2 with
      | none => exact Or.inl ((g4 ho).1 q (by omega) (by omega))
      | some i =>
        obtain ⟨a1, a2, a3⟩ := s2 i ho
        exact Or.inr ⟨i, Or.inr rfl, _, a1, by omega, by rw [← a3]; omega⟩
  · rcases hi with hi | hi
    · obtain ⟨a1, a2, a3⟩ := s1 i hi
      exact ⟨p, a1, a2, by omega⟩
    · obtain ⟨a1, a2, a3⟩ := s2 i hi
      exact ⟨_, a1, a2, by omega⟩
  · rw [k19 i (fun h => hi (Or.inr h)), k19' i (fun h => hi (Or.inl h))]
/-- what a jump's place is -/
theorem c_from {κ σ : SS} {n D : Nat} {A : Nat → Int32} (hl : LY κ σ n A D) (h27 : σ 27 0 = nI (cum κ (tT κ (Bf κ n) A D n) A n n)) (h19 : ∀ k, k < n → car (tT κ (Bf κ n) A D n) n k = false → σ 19 k = nI (cum κ (tT κ (Bf κ n) A D n) A n k)) : ∀ (m k : Nat), k < 2 ^ 30 → n - k < m → b_ST_startFrom_2 m (nI k) σ = some (PL κ (tT κ (Bf κ n) A D n) A n k, σ) := by
  have hn4 := hl.2.1.1.1.1.1
  intro m
  induction m with
  | zero => intro k _ h; omega
  | succ m ih =>
    intro k hk hm
    rw [b_ST_startFrom_2, g_count, Option.bind_some]
    dsimp only
    rw [hl.2.1.1.1.2.1]
    unfold PL
    by_cases hkn : k < n
    · rw [if_neg (nI_ge hkn (by omega)), c_isCar hl hkn, Option.bind_some, if_pos hkn]
      simp only [b2_z]
      cases hcar : car (tT κ (Bf κ n) A D n) n k with
      | false => rw [if_pos rfl, p_ld (by omega) (by decide), Option.bind_some, h19 k hkn hcar]
      | true =>
        rw [if_neg (by simp), nI_1, ih (k + 1) (by omega) (by omega)]
        unfold PL
        by_cases hk1 : k + 1 < n
        · rw [if_pos hk1, cum_s, hcar]; rfl
        · rw [if_neg hk1, show n = k + 1 by omega, cum_s, show k + 1 = n by omega, hcar]; rfl
    · rw [if_pos (nI_le (by omega) (by omega)), if_neg hkn, h27]
theorem c_ownN {κ σ : SS} {n D j : Nat} {A : Nat → Int32} (hl : LY κ σ n A D) (hj : j < n) (h27 : σ 27 0 = nI (cum κ (tT κ (Bf κ n) A D n) A n n)) (h19 : ∀ k, k < n → car (tT κ (Bf κ n) A D n) n k = false → σ 19 k = nI (cum κ (tT κ (Bf κ n) A D n) A n k)) : f_ST_ownNumber (nI j) σ = some (onm κ (PL κ (tT κ (Bf κ n) A D n) A n) j, σ) := by
  have hn4 := hl.2.1.1.1.1.1
  obtain ⟨r1, r2, r3, r4, r5, r6, r7, r8⟩ := hl.2.1.1.1.1.2 j hj
  unfold f_ST_ownNumber onm
  rw [g_op (by omega), Option.bind_some]
  dsimp only
  rw [r1, ← hl.1.o, ← hl.1.a, ← hl.1.b, ← hl.1 2 (by omega)]
  by_cases h0 : oN σ j = 0
  · rw [if_pos (show nI (oN σ j) = 0 by rw [h0]; rfl), if_pos h0, g_a (by omega)]; rfl
  · rw [if_neg (show ¬ nI (oN σ j) = 0 from nI_neq (b := 0) (by omega) (by omega) h0), if_neg h0]
    by_cases h9 : oN σ j = 9
    · obtain ⟨a1, a2, -⟩ := r5 h0
      rw [if_pos (show nI (oN σ j) = 9 by rw [h9]; rfl), if_pos h9, g_a (by omega), Option.bind_some]
      dsimp only
      rw [a1]
      unfold f_ST_startFrom
      rw [c_from hl h27 h19 FU (aN σ j) (by omega) (by unfold FU; omega), Option.bind_some]
    · rw [if_neg (show ¬ nI (oN σ j) = 9 from nI_neq (b := 9) (by omega) (by omega) h9), if_neg h9]
      by_cases h10 : oN σ j = 10
      · rw [if_pos (show nI (oN σ j) = 10 by rw [h10]; rfl), if_pos h10, g_b (by omega), Option.bind_some]
        dsimp only
        rw [r6]
        unfold f_ST_startFrom
        rw [c_from hl h27 h19 FU (bN σ j) (by omega) (by unfold FU; omega), Option.bind_some]
      · rw [if_neg (show ¬ nI (oN σ j) = 10 from nI_neq (b := 10) (by omega) (by omega) h10), if_neg h10]
/-- is a PUT written for j -/
def wnt (κ : SS) (T : Nat → En) (A : Nat → Int32) (n j : Nat) : Bool := wR κ j && !car T n j && bt (A j) (dN κ j)
theorem c_end {κ σ : SS} {C : List Op} {n D j p : Nat} {A : Nat → Int32} (hl : LY κ σ n A D) (hj : j < n) (hp : p < 201) (hseg : SegAt C p (if wR κ j && !car (tT κ (Bf κ n) A D n) n j then endl κ A j else [])) : ∃ σ' : SS, b_ST_writeInstruction_58 (nI j) (nI p) σ = some σ' ∧ Fr [16, 17, 28] σ σ' ∧ (∀ q, Gd C σ q → Gd C σ' q) ∧ (∀ q, p ≤ q → q < p + (if wR κ j && !car (tT κ (Bf κ n) A D n) n j then endl κ A j else []).length → Gd C σ' q) ∧ σ' 28 0 = σ 28 0 + b2 (wnt κ (tT κ (Bf κ n) A D n) A n j) := by
  have hn4 := hl.2.1.1.1.1.1
  have hc := hl.2.1.1.1
  have hrt := hc.1.2 j hj
  unfold b_ST_writeInstruction_58 wnt
  rw [c_leaves hl hj, Option.bind_some]
  simp only [b2_z]
  cases hlv : wR κ j && !car (tT κ (Bf κ n) A D n) n j with
  | false =>
    rw [if_pos rfl]
    refine ⟨σ, rfl, Fr.rf, fun _ h => h, fun q h1 h2 => by have h2 : q < p + 0 := h2; omega, ?_⟩
    rw [Bool.false_and, b2_f]
    exact (Int32.add_zero _).symm
  | true =>
    rw [hlv] at hseg
    rw [if_neg (by simp)]
    have hw : wR κ j = true := by cases h : wR κ j with
      | true => rfl
      | false => rw [h] at hlv; cases hlv
    unfold f_ST_writeEnd f_FL_liveAfter
    rw [g_w (by omega), Option.bind_some]
    dsimp only
    rw [p_ld (by omega) (by decide), Option.bind_some, Option.bind_some, hl.2.1.1.2.2 j hj]
    dsimp only
    rw [c_setOf (wR σ j) (c_rowW hc hj) (fun _ => hrt.2.2.2.1), Option.bind_some]
    dsimp only
    rw [hl.1.wRq, hw, hl.1.d]
    simp only [if_true, Bool.true_and]
    have hd : dN κ j < 10 := by rw [← hl.1.d]; exact hrt.2.2.2.1
    cases hb : bt (A j) (dN κ j) with
    | false =>
      rw [if_pos ((and_sb (by omega)).mpr hb), c_write hp, Option.bind_some, Option.bind_some]
      have hs : C[p]? = some (3, 0) := by
        have := hseg 0 (by unfold endl; rw [hb]; exact (show 0 < 1 by omega))
        unfold endl at this
        rw [hb] at this
        exact this
      obtain ⟨g1, g2⟩ := wt_gd (σ := σ) hs
      refine ⟨_, rfl, wt_fr.mono (by simp), g2, fun q h1 h2 => ?_, ?_⟩
      · have h2 : q < p + 1 := by unfold endl at h2; rw [hb] at h2; exact h2
        rw [show q = p by omega]; exact g1
      · show wt σ p 3 0 28 0 = _
        rw [wt_fr 28 (by simp), b2_f]; exact (Int32.add_zero _).symm
    | true =>
      rw [if_neg (fun h => by rw [(and_sb (by omega)).mp h] at hb; cases hb), c_write hp, Option.bind_some]
      dsimp only
      have hs : C[p]? = some (2, κ 1 j) := by
        have := hseg 0 (by unfold endl; rw [hb]; exact (show 0 < 1 by omega))
        unfold endl at this
        rw [hb] at this
        exact this
      have e4 : σ 4 j = κ 1 j := by rw [(hc.2.2 j hj).1, hl.1.wRq, hw, if_pos rfl, hl.1 1 (by omega)]
      rw [e4, p_sf, Option.bind_some, Option.bind_some]
      obtain ⟨g1, g2⟩ := wt_gd (σ := σ) hs
      have hk : ∀ q, Gd C (wt σ p 2 (κ 1 j)) q → Gd C (su (wt σ p 2 (κ 1 j)) 28 0 (wt σ p 2 (κ 1 j) 28 0 + 1)) q := fun q hq => by
        unfold Gd at hq ⊢
        rw [p_suk (by omega), p_suk (by omega)]
        exact hq
      refine ⟨_, rfl, (wt_fr.mono (by simp)).tr (Fr.su (by simp)), fun q hq => hk q (g2 q hq), fun q h1 h2 => ?_, ?_⟩
      · have h2 : q < p + 1 := by unfold endl at h2; rw [hb] at h2; exact h2
        rw [show q = p by omega]; exact hk p g1
      · rw [p_sus, wt_fr 28 (by simp)]; rfl
