-- ===== the reference writes a tree =====
def ths (f : Nat → Nat) (b : Bool) : Option Nat → Nat
  | none => if b then 1 else 0
  | some i => f i
def csb (κ : SS) (T : Nat → En) (f : Nat → Nat) (j : Nat) : Nat := if oN κ j = 0 then 1 else 2 + (if nsw κ T j then 1 else 0) + (ths f (rA κ j) (T j).1 + ths f (rB κ j) (T j).2.1)
def css (κ : SS) (T : Nat → En) : Nat → Nat → Nat
  | 0, _ => 0
  | m + 1, j => csb κ T (css κ T m) j
def cst (κ : SS) (T : Nat → En) (j : Nat) : Nat := css κ T (j + 1) j
theorem ths_c {f g : Nat → Nat} {b : Bool} {o : Option Nat} (h : ∀ i, o = some i → f i = g i) : ths f b o = ths g b o := by
  cases o with
  | none => rfl
  | some i => exact h i rfl
theorem csb_c {κ : SS} {T : Nat → En} {f g : Nat → Nat} {j n : Nat} (hD : Dn T n) (hj : j < n) (h : ∀ i, i < j → f i = g i) : csb κ T f j = csb κ T g j := by
  unfold csb
  rw [ths_c (f := f) (g := g) (o := (T j).1) (fun i hi => h i ((hD j hj).1 i hi)), ths_c (f := f) (g := g) (o := (T j).2.1) (fun i hi => h i ((hD j hj).2 i hi))]
theorem css_c {κ : SS} {T : Nat → En} {n : Nat} (hD : Dn T n) : ∀ (j : Nat), j < n → ∀ m m', j < m → j < m' → css κ T m j = css κ T m' j := by
  intro j
  induction j using Nat.strongRecOn with
  | _ j ih =>
    intro hj m m' h1 h2
    obtain ⟨m, rfl⟩ : ∃ g, m = g + 1 := ⟨m - 1, by omega⟩
    obtain ⟨m', rfl⟩ : ∃ g, m' = g + 1 := ⟨m' - 1, by omega⟩
    exact csb_c hD hj (fun i hi => ih i hi (by omega) m m' (by omega) (by omega))
theorem cst_eq {κ : SS} {T : Nat → En} {n j : Nat} (hD : Dn T n) (hj : j < n) : cst κ T j = csb κ T (cst κ T) j := csb_c hD hj (fun i hi => css_c hD i (by omega) j (i + 1) hi (by omega))
theorem cst_le {κ : SS} {B : Nat → Bool} {A : Nat → Int32} {D n : Nat} (hn : n ≤ 40) {j : Nat} (hj : j < n) : cst κ (tT κ B A D n) j ≤ 200 := by
  have hD : Dn (tT κ B A D n) n := tT_Dn
  have := w_le (c := 5) hn (cst κ (tT κ B A D n)) (fun j hj => by
    rw [cst_eq hD hj]
    unfold csb
    have hth : ∀ (b : Bool) (q : Option Nat), ∃ x z, z ≤ 1 ∧ ths (cst κ (tT κ B A D n)) b q = x + z ∧ (q = none ∧ x ≤ 0 ∨ ∃ i, q = some i ∧ x = cst κ (tT κ B A D n) i) := by
      intro b q
      cases q with
      | none => exact ⟨0, ths (cst κ (tT κ B A D n)) b none, by show (if b then 1 else 0) ≤ 1; split <;> omega, by omega, Or.inl ⟨rfl, by omega⟩⟩
      | some i => exact ⟨_, 0, by omega, rfl, Or.inr ⟨i, rfl, rfl⟩⟩
    obtain ⟨x, z1, a1, a2, a3⟩ := hth (rA κ j) (tT κ B A D n j).1
    obtain ⟨y, z2, b1, b2, b3⟩ := hth (rB κ j) (tT κ B A D n j).2.1
    by_cases h0 : oN κ j = 0
    · have ra : rA κ j = false := by unfold rA; rw [h0]; rfl
      have rb : rB κ j = false := by unfold rB; rw [h0]; rfl
      have na : (tT κ B A D n j).1 = none := by
        cases h : (tT κ B A D n j).1 with
        | none => rfl
        | some i => rw [fa_rA hj h] at ra; cases ra
      have nb : (tT κ B A D n j).2.1 = none := by
        cases h : (tT κ B A D n j).2.1 with
        | none => rfl
        | some i => rw [fb_rB hj h] at rb; cases rb
      refine ⟨0, 0, 1, by omega, by rw [if_pos h0], Or.inl ⟨na, by omega⟩, Or.inl ⟨nb, by omega⟩⟩
    · refine ⟨x, y, 2 + (if nsw κ (tT κ B A D n) j then 1 else 0) + z1 + z2, by split <;> omega, ?_, a3, b3⟩
      rw [if_neg h0, a2, b2]
      omega) hj
  omega
def itE (κ : SS) (T : Nat → En) (x : Nat) : List Op := if 300 ≤ x then own κ nI (x - 300) else if x = 200 then [(4, 0)] else if 100 ≤ x then [(1, nI (x - 100))] else tr κ nI T x
def emi (κ : SS) (T : Nat → En) : List Nat → List Op
  | [] => []
  | x :: S => itE κ T x ++ emi κ T S
theorem emi_app {κ : SS} {T : Nat → En} (S' : List Nat) : ∀ S, emi κ T (S ++ S') = emi κ T S ++ emi κ T S' := by
  intro S
  induction S with
  | nil => rfl
  | cons x S ih => show itE κ T x ++ emi κ T (S ++ S') = itE κ T x ++ emi κ T S ++ emi κ T S'; rw [ih, List.append_assoc]
def ico (κ : SS) (T : Nat → En) : List Nat → Nat
  | [] => 0
  | x :: S => (if x < 100 then cst κ T x else 1) + ico κ T S
theorem ico_app {κ : SS} {T : Nat → En} (S' : List Nat) : ∀ S, ico κ T (S ++ S') = ico κ T S + ico κ T S' := by
  intro S
  induction S with
  | nil => show ico κ T S' = 0 + _; omega
  | cons x S ih => show (if x < 100 then cst κ T x else 1) + ico κ T (S ++ S') = (if x < 100 then cst κ T x else 1) + ico κ T S + ico κ T S'; rw [ih]; omega
def okI (κ : SS) (n x : Nat) : Prop := x < n ∨ (100 ≤ x ∧ x < 110) ∨ x = 200 ∨ (300 ≤ x ∧ x < 300 + n ∧ oN κ (x - 300) ≠ 0)
theorem thi_E {κ : SS} {T : Nat → En} {r : Nat} (hr : r < 10) {o : Option Nat} (ho : ∀ i, o = some i → i < 40) : itE κ T (thi r o) = thg (tr κ nI T) true r o := by
  cases o with
  | none =>
    show itE κ T (100 + r) = [(1, nI r)]
    unfold itE
    rw [if_neg (by omega), if_neg (by omega), if_pos (by omega), Nat.add_sub_cancel_left]
  | some i =>
    have := ho i rfl
    show itE κ T i = tr κ nI T i
    unfold itE
    rw [if_neg (by omega), if_neg (by omega), if_neg (by omega)]
theorem thi_c {κ : SS} {T : Nat → En} {r : Nat} {o : Option Nat} (ho : ∀ i, o = some i → i < 40) : (if thi r o < 100 then cst κ T (thi r o) else 1) = ths (cst κ T) true o := by
  cases o with
  | none => show (if 100 + r < 100 then cst κ T (100 + r) else 1) = 1; rw [if_neg (by omega)]
  | some i => have := ho i rfl; show (if i < 100 then cst κ T i else 1) = cst κ T i; rw [if_pos (by omega)]
theorem rB_rA {κ : SS} {j : Nat} (h : rB κ j = true) : rA κ j = true := by
  unfold rB at h
  unfold rA
  simp at h ⊢
  omega
theorem tb_rB {κ : SS} {T : Nat → En} {j : Nat} (h : tb1 κ T j = true) : rB κ j = true := by unfold tb1 at h; cases hb : rB κ j with
  | true => rfl
  | false => rw [hb] at h; cases h
/-- what is opened is emitted as the tree -/
theorem opn_all {κ : SS} {n D t : Nat} {A : Nat → Int32} (hc : Cn κ n) (ht : t < n) (h0 : oN κ t ≠ 0) : emi κ (tT κ (Bf κ n) A D n) (opn κ (tT κ (Bf κ n) A D n) t) = tr κ nI (tT κ (Bf κ n) A D n) t ∧ ico κ (tT κ (Bf κ n) A D n) (opn κ (tT κ (Bf κ n) A D n) t) + 1 = cst κ (tT κ (Bf κ n) A D n) t ∧ (∀ x ∈ opn κ (tT κ (Bf κ n) A D n) t, okI κ n x) ∧ (opn κ (tT κ (Bf κ n) A D n) t).length ≤ ico κ (tT κ (Bf κ n) A D n) (opn κ (tT κ (Bf κ n) A D n) t) := by
  have hn4 := hc.1
  have hDn : Dn (tT κ (Bf κ n) A D n) n := tT_Dn
  have hrt := hc.2 t ht
  have hlA : ∀ i, ((tT κ (Bf κ n) A D n) t).1 = some i → i < n := fun i hi => by have := (hDn t ht).1 i hi; omega
  have hlB : ∀ i, ((tT κ (Bf κ n) A D n) t).2.1 = some i → i < n := fun i hi => by have := (hDn t ht).2 i hi; omega
  have hnA : rA κ t = false → ((tT κ (Bf κ n) A D n) t).1 = none := fun ra => by
    cases h : ((tT κ (Bf κ n) A D n) t).1 with
    | none => rfl
    | some i => rw [fa_rA ht h] at ra; cases ra
  have hnB : rB κ t = false → ((tT κ (Bf κ n) A D n) t).2.1 = none := fun rb => by
    cases h : ((tT κ (Bf κ n) A D n) t).2.1 with
    | none => rfl
    | some i => rw [fb_rB ht h] at rb; cases rb
  have EA : rA κ t = true → itE κ (tT κ (Bf κ n) A D n) (thi (aN κ t) ((tT κ (Bf κ n) A D n) t).1) = thg (tr κ nI (tT κ (Bf κ n) A D n)) true (aN κ t) ((tT κ (Bf κ n) A D n) t).1 := fun h => thi_E (rA_lt hrt h).2 (fun i hi => by have := hlA i hi; omega)
  have EB : rB κ t = true → itE κ (tT κ (Bf κ n) A D n) (thi (bN κ t) ((tT κ (Bf κ n) A D n) t).2.1) = thg (tr κ nI (tT κ (Bf κ n) A D n)) true (bN κ t) ((tT κ (Bf κ n) A D n) t).2.1 := fun h => thi_E (rB_lt hrt h).2 (fun i hi => by have := hlB i hi; omega)
  have CA := thi_c (κ := κ) (T := (tT κ (Bf κ n) A D n)) (r := aN κ t) (o := ((tT κ (Bf κ n) A D n) t).1) (fun i hi => by have := hlA i hi; omega)
  have CB := thi_c (κ := κ) (T := (tT κ (Bf κ n) A D n)) (r := bN κ t) (o := ((tT κ (Bf κ n) A D n) t).2.1) (fun i hi => by have := hlB i hi; omega)
  have OA : rA κ t = true → okI κ n (thi (aN κ t) ((tT κ (Bf κ n) A D n) t).1) := fun h => by
    cases hq : ((tT κ (Bf κ n) A D n) t).1 with
    | none => exact Or.inr (Or.inl (by have := (rA_lt hrt h).2; show 100 ≤ 100 + aN κ t ∧ 100 + aN κ t < 110; omega))
    | some i => exact Or.inl (hlA i hq)
  have OB : rB κ t = true → okI κ n (thi (bN κ t) ((tT κ (Bf κ n) A D n) t).2.1) := fun h => by
    cases hq : ((tT κ (Bf κ n) A D n) t).2.1 with
    | none => exact Or.inr (Or.inl (by have := (rB_lt hrt h).2; show 100 ≤ 100 + bN κ t ∧ 100 + bN κ t < 110; omega))
    | some i => exact Or.inl (hlB i hq)
  have E3 : itE κ (tT κ (Bf κ n) A D n) (300 + t) = own κ nI t := by unfold itE; rw [if_pos (by omega), Nat.add_sub_cancel_left]
  have E2 : itE κ (tT κ (Bf κ n) A D n) 200 = [(4, 0)] := by unfold itE; rw [if_neg (by omega), if_pos rfl]
  have O3 : okI κ n (300 + t) := Or.inr (Or.inr (Or.inr ⟨by omega, by omega, by rw [Nat.add_sub_cancel_left]; exact h0⟩))
  have O2 : okI κ n 200 := Or.inr (Or.inr (Or.inl rfl))
  have one : ∀ i, i < n → 1 ≤ cst κ (tT κ (Bf κ n) A D n) i := fun i hi => by
    rw [cst_eq hDn hi]; unfold csb; split <;> omega
  have c1 : ∀ x, okI κ n x → 1 ≤ (if x < 100 then cst κ (tT κ (Bf κ n) A D n) x else 1) := by
    intro x hx
    split
    · rcases hx with h | h | h | h
      · exact one x h
      · omega
      · omega
      · omega
    · omega
  have hlen : ∀ S : List Nat, (∀ x ∈ S, okI κ n x) → S.length ≤ ico κ (tT κ (Bf κ n) A D n) S := by
    intro S
    induction S with
    | nil => intro _; exact Nat.le_refl _
    | cons x S ih =>
      intro h
      have h1 := c1 x (h x (by simp))
      have h2 := ih (fun y hy => h y (by simp [hy]))
      show S.length + 1 ≤ (if x < 100 then cst κ (tT κ (Bf κ n) A D n) x else 1) + ico κ (tT κ (Bf κ n) A D n) S
      omega
  have hok : ∀ x ∈ opn κ (tT κ (Bf κ n) A D n) t, okI κ n x := by
    intro x hx
    unfold opn at hx
    simp only [List.mem_append] at hx
    rcases hx with h | h | h | h
    · cases hra : rA κ t with
      | false => rw [hra] at h; simp at h
      | true =>
        rw [hra] at h; simp at h
        cases htb : tb1 κ (tT κ (Bf κ n) A D n) t with
        | false => rw [htb] at h; simp at h; rw [h]; exact OA hra
        | true => rw [htb] at h; simp at h; rw [h]; exact OB (tb_rB htb)
    · cases hrb : rB κ t with
      | false => rw [hrb] at h; simp at h
      | true =>
        rw [hrb] at h; simp at h
        cases htb : tb1 κ (tT κ (Bf κ n) A D n) t with
        | false => rw [htb] at h; simp at h; rw [h]; exact OB hrb
        | true => rw [htb] at h; simp at h; rw [h]; exact OA (rB_rA hrb)
    · cases hs : nsw κ (tT κ (Bf κ n) A D n) t with
      | false => rw [hs] at h; simp at h
      | true => rw [hs] at h; simp at h; rw [h]; exact O2
    · simp at h; rw [h]; exact O3
  have hsw : emi κ (tT κ (Bf κ n) A D n) ((if nsw κ (tT κ (Bf κ n) A D n) t then [200] else []) ++ [300 + t]) = (if nsw κ (tT κ (Bf κ n) A D n) t then [(4, 0)] else []) ++ own κ nI t := by
    cases nsw κ (tT κ (Bf κ n) A D n) t
    · show itE κ (tT κ (Bf κ n) A D n) (300 + t) ++ [] = [] ++ _; rw [E3, List.append_nil]; rfl
    · show itE κ (tT κ (Bf κ n) A D n) 200 ++ (itE κ (tT κ (Bf κ n) A D n) (300 + t) ++ []) = [(4, 0)] ++ _; rw [E3, E2, List.append_nil]
  have csw : ico κ (tT κ (Bf κ n) A D n) ((if nsw κ (tT κ (Bf κ n) A D n) t then [200] else []) ++ [300 + t]) = 1 + (if nsw κ (tT κ (Bf κ n) A D n) t then 1 else 0) := by
    cases nsw κ (tT κ (Bf κ n) A D n) t
    · show (if 300 + t < 100 then _ else 1) + 0 = 1 + 0; rw [if_neg (by omega)]
    · show (if 200 < 100 then _ else 1) + ((if 300 + t < 100 then _ else 1) + 0) = 1 + 1; rw [if_neg (by omega), if_neg (by omega)]
  refine ⟨?_, ?_, hok, hlen _ hok⟩
  · rw [tr_eq hDn ht]
    unfold opn tbd
    rw [emi_app, emi_app, hsw, ← List.append_assoc]
    congr 1
    cases hrb : rB κ t with
    | false =>
      have htb : tb1 κ (tT κ (Bf κ n) A D n) t = false := by unfold tb1; rw [hrb]; rfl
      rw [htb, hnB hrb]
      cases hra : rA κ t with
      | false => rw [hnA hra]; rfl
      | true =>
        show itE κ (tT κ (Bf κ n) A D n) (thi (aN κ t) ((tT κ (Bf κ n) A D n) t).1) ++ [] ++ [] = thg (tr κ nI (tT κ (Bf κ n) A D n)) true (aN κ t) ((tT κ (Bf κ n) A D n) t).1 ++ []
        rw [EA hra, List.append_nil, List.append_nil]
    | true =>
      have hra := rB_rA hrb
      rw [hra]
      cases htb : tb1 κ (tT κ (Bf κ n) A D n) t with
      | false =>
        show itE κ (tT κ (Bf κ n) A D n) (thi (aN κ t) ((tT κ (Bf κ n) A D n) t).1) ++ [] ++ (itE κ (tT κ (Bf κ n) A D n) (thi (bN κ t) ((tT κ (Bf κ n) A D n) t).2.1) ++ []) = thg (tr κ nI (tT κ (Bf κ n) A D n)) true (aN κ t) ((tT κ (Bf κ n) A D n) t).1 ++ thg (tr κ nI (tT κ (Bf κ n) A D n)) true (bN κ t) ((tT κ (Bf κ n) A D n) t).2.1
        rw [EA hra, EB hrb, List.append_nil, List.append_nil]
      | true =>
        show itE κ (tT κ (Bf κ n) A D n) (thi (bN κ t) ((tT κ (Bf κ n) A D n) t).2.1) ++ [] ++ (itE κ (tT κ (Bf κ n) A D n) (thi (aN κ t) ((tT κ (Bf κ n) A D n) t).1) ++ []) = thg (tr κ nI (tT κ (Bf κ n) A D n)) true (bN κ t) ((tT κ (Bf κ n) A D n) t).2.1 ++ thg (tr κ nI (tT κ (Bf κ n) A D n)) true (aN κ t) ((tT κ (Bf κ n) A D n) t).1
        rw [EA hra, EB hrb, List.append_nil, List.append_nil]
  · rw [cst_eq hDn ht]
    unfold opn csb
    rw [ico_app, ico_app, csw, if_neg h0]
    cases hrb : rB κ t with
    | false =>
      have htb : tb1 κ (tT κ (Bf κ n) A D n) t = false := by unfold tb1; rw [hrb]; rfl
      have hs : nsw κ (tT κ (Bf κ n) A D n) t = false := by unfold nsw; rw [htb]; rfl
      rw [htb, hnB hrb, hs]
      cases hra : rA κ t with
      | false => rw [hnA hra]; rfl
      | true =>
        show (if thi (aN κ t) ((tT κ (Bf κ n) A D n) t).1 < 100 then cst κ (tT κ (Bf κ n) A D n) (thi (aN κ t) ((tT κ (Bf κ n) A D n) t).1) else 1) + 0 + (0 + (1 + 0)) + 1 = 2 + 0 + (ths (cst κ (tT κ (Bf κ n) A D n)) true ((tT κ (Bf κ n) A D n) t).1 + 0)
        rw [CA]; omega
    | true =>
      have hra := rB_rA hrb
      rw [hra]
      cases htb : tb1 κ (tT κ (Bf κ n) A D n) t with
      | false =>
        show (if thi (aN κ t) ((tT κ (Bf κ n) A D n) t).1 < 100 then cst κ (tT κ (Bf κ n) A D n) (thi (aN κ t) ((tT κ (Bf κ n) A D n) t).1) else 1) + 0 + ((if thi (bN κ t) ((tT κ (Bf κ n) A D n) t).2.1 < 100 then cst κ (tT κ (Bf κ n) A D n) (thi (bN κ t) ((tT κ (Bf κ n) A D n) t).2.1) else 1) + 0 + _) + 1 = _
        rw [CA, CB]; omega
      | true =>
        show (if thi (bN κ t) ((tT κ (Bf κ n) A D n) t).2.1 < 100 then cst κ (tT κ (Bf κ n) A D n) (thi (bN κ t) ((tT κ (Bf κ n) A D n) t).2.1) else 1) + 0 + ((if thi (aN κ t) ((tT κ (Bf κ n) A D n) t).1 < 100 then cst κ (tT κ (Bf κ n) A D n) (thi (aN κ t) ((tT κ (Bf κ n) A D n) t).1) else 1) + 0 + _) + 1 = _
        rw [CA, CB]; omega
theorem m_loop {κ : SS} {n D : Nat} {A : Nat → Int32} : ∀ (m : Nat) (S : List Nat) (τ : SS) (W : List Op), LM κ τ n A D → Td τ S → Cd τ W → (∀ x ∈ S, okI κ n x) → ico κ (tT κ (Bf κ n) A D n) S < m → ico κ (tT κ (Bf κ n) A D n) S ≤ 200 → S.length ≤ ico κ (tT κ (Bf κ n) A D n) S → W.length + (emi κ (tT κ (Bf κ n) A D n) S).length < 600 → ∃ τ' : SS, b_MO_writeTree_9 m (nI S.length) τ = some τ' ∧ Fr [12, 13, 15, 23] τ τ' ∧ Cd τ' (W ++ emi κ (tT κ (Bf κ n) A D n) S) := by
  intro m
  induction m with
  | zero => intro S τ W _ _ _ _ h; omega
  | succ m ih =>
    intro S τ W hl hT hC hok hm h200 hlen hW
    have hn4 := hl.2.1.1.1.1.1
    have hDn : Dn (tT κ (Bf κ n) A D n) n := tT_Dn
    rw [b_MO_writeTree_9]
    cases S with
    | nil =>
      rw [if_pos (show nI ([] : List Nat).length ≤ 0 by decide)]
      exact ⟨τ, rfl, Fr.rf, by show Cd τ (W ++ []); rw [List.append_nil]; exact hC⟩
    | cons x S =>
      have hlen : S.length + 1 ≤ (if x < 100 then cst κ (tT κ (Bf κ n) A D n) x else 1) + ico κ (tT κ (Bf κ n) A D n) S := hlen
      have h200 : (if x < 100 then cst κ (tT κ (Bf κ n) A D n) x else 1) + ico κ (tT κ (Bf κ n) A D n) S ≤ 200 := h200
      have hm : (if x < 100 then cst κ (tT κ (Bf κ n) A D n) x else 1) + ico κ (tT κ (Bf κ n) A D n) S < m + 1 := hm
      have hW : W.length + (itE κ (tT κ (Bf κ n) A D n) x ++ emi κ (tT κ (Bf κ n) A D n) S).length < 600 := hW
      rw [List.length_append] at hW
      have hokS : ∀ y ∈ S, okI κ n y := fun y hy => hok y (by simp [hy])
      have one : ∀ i, i < n → 1 ≤ cst κ (tT κ (Bf κ n) A D n) i := fun i hi => by
        rw [cst_eq hDn hi]; unfold csb; split <;> omega
      have hlenS : ∀ S : List Nat, (∀ x ∈ S, okI κ n x) → S.length ≤ ico κ (tT κ (Bf κ n) A D n) S := by
        intro S
        induction S with
        | nil => intro _; exact Nat.le_refl _
        | cons x S ih =>
          intro h
          have h2 := ih (fun y hy => h y (by simp [hy]))
          have h1 : 1 ≤ (if x < 100 then cst κ (tT κ (Bf κ n) A D n) x else 1) := by
            split
            · rcases h x (by simp) with h | h | h | h
              · exact one x h
              · omega
              · omega
              · omega
            · omega
          show S.length + 1 ≤ (if x < 100 then cst κ (tT κ (Bf κ n) A D n) x else 1) + ico κ (tT κ (Bf κ n) A D n) S
          omega
      have hx1 : 1 ≤ (if x < 100 then cst κ (tT κ (Bf κ n) A D n) x else 1) := by
        split
        · rcases hok x (by simp) with h | h | h | h
          · exact one x h
          · omega
          · omega
          · omega
        · omega
      have hlS := hlenS S hokS
      rw [if_neg (show ¬ nI (x :: S).length ≤ 0 from nI_ge (a := 0) (by show 0 < S.length + 1; omega) (by show S.length + 1 < 2 ^ 31; omega)), show nI (x :: S).length - 1 = nI S.length from by rw [show (1 : Int32) = nI 1 from rfl, pk_sub (by show 1 ≤ S.length + 1; omega)]; rfl, p_ld (by omega) (by decide), Option.bind_some, hT.1]
      -- one operation list is emitted, the rest goes on
      have go : ∀ (τ1 : SS) (F : List Nat), Fr F τ τ1 → (∀ k, k < 12 ∨ k = 15 ∨ k = 20 ∨ k = 21 → k ∉ F) → (∀ k ∈ F, k ∈ [12, 13, 15, 23]) → Cd τ1 (W ++ itE κ (tT κ (Bf κ n) A D n) x) → ∃ τ' : SS, b_MO_writeTree_9 m (nI S.length) τ1 = some τ' ∧ Fr [12, 13, 15, 23] τ τ' ∧ Cd τ' (W ++ emi κ (tT κ (Bf κ n) A D n) (x :: S)) := by
        intro τ1 F f1 f2 f3 f4
        obtain ⟨τ', d1, d2, d3⟩ := ih S τ1 (W ++ itE κ (tT κ (Bf κ n) A D n) x) (hl.fr f1 (fun k hk => f2 k (by omega))) (Td_fr f1 (f2 15 (by omega)) S hT.2) f4 hokS (by omega) (by omega) hlS (by rw [List.length_append]; omega)
        refine ⟨τ', d1, (f1.mono f3).tr d2, ?_⟩
        rw [List.append_assoc] at d3
        exact d3
      have hemit : ∀ (a b : Int32), itE κ (tT κ (Bf κ n) A D n) x = [(a, b)] → ∃ τ1 : SS, f_MO_emit a b τ = some τ1 ∧ ∃ τ' : SS, b_MO_writeTree_9 m (nI S.length) τ1 = some τ' ∧ Fr [12, 13, 15, 23] τ τ' ∧ Cd τ' (W ++ emi κ (tT κ (Bf κ n) A D n) (x :: S)) := by
        intro a b hh
        obtain ⟨τ1, a1, a2, a3⟩ := m_emit (x := a) (y := b) hC (by omega)
        exact ⟨τ1, a1, go τ1 _ a2 (fun k hk => by simp; omega) (by simp) (by rw [hh]; exact a3)⟩
      by_cases h3 : 300 ≤ x
      · have hx : x < 300 + n ∧ oN κ (x - 300) ≠ 0 := by
          rcases hok x (by simp) with h | h | h | h
          · omega
          · omega
          · omega
          · exact h.2
        rw [if_neg (show ¬ nI x < 300 from nI_nlt (b := 300) (by omega) (by omega)), show nI x - 300 = nI (x - 300) from by rw [show (300 : Int32) = nI 300 from rfl, pk_sub h3]]
        obtain ⟨τ1, a1, a2, a3⟩ := m_emitOp hl (j := x - 300) (by omega) hx.2 hC (by omega)
        rw [a1, Option.bind_some]
        exact go τ1 _ a2 (fun k hk => by simp; omega) (by simp) (by unfold itE; rw [if_pos h3]; exact a3)
      · rw [if_pos (show nI x < 300 from nI_lt (b := 300) (by omega) (by omega))]
        by_cases h2 : x = 200
        · rw [if_pos (show nI x = 200 by rw [h2]; rfl)]
          obtain ⟨τ1, a1, a2⟩ := hemit 4 0 (by unfold itE; rw [if_neg h3, if_pos h2])
          rw [a1, Option.bind_some]
          exact a2
        · rw [if_neg (show ¬ nI x = 200 from nI_neq (b := 200) (by omega) (by omega) h2)]
          by_cases h1 : x < 100
          · have hxn : x < n := by
              rcases hok x (by simp) with h | h | h | h
              · exact h
              · omega
              · omega
              · omega
            have hrt := hl.2.1.1.1.1.2 x hxn
            rw [if_pos (show nI x < 100 from nI_lt (b := 100) (by omega) (by omega)), p_ld (by omega) (by decide), Option.bind_some, hrt.1]
            have hoo := hrt.2.1
            by_cases h0 : oN τ x = 0
            · rw [if_pos (show nI (oN τ x) = 0 by rw [h0]; rfl), p_ld (by omega) (by decide), Option.bind_some]
              obtain ⟨τ1, a1, a2⟩ := hemit 0 (τ 2 x) (by
                have h0 : oN κ x = 0 := by rw [← hl.1.o]; exact h0
                have ra : rA κ x = false := by unfold rA; rw [h0]; rfl
                have rb : rB κ x = false := by unfold rB; rw [h0]; rfl
                have na : ((tT κ (Bf κ n) A D n) x).1 = none := by
                  cases h : ((tT κ (Bf κ n) A D n) x).1 with
                  | none => rfl
                  | some i => rw [fa_rA hxn h] at ra; cases ra
                have nb : ((tT κ (Bf κ n) A D n) x).2.1 = none := by
                  cases h : ((tT κ (Bf κ n) A D n) x).2.1 with
                  | none => rfl
                  | some i => rw [fb_rB hxn h] at rb; cases rb
                have htb : tb1 κ (tT κ (Bf κ n) A D n) x = false := by unfold tb1; rw [rb]; rfl
                have hs : nsw κ (tT κ (Bf κ n) A D n) x = false := by unfold nsw; rw [htb]; rfl
                unfold itE
                rw [if_neg h3, if_neg h2, if_neg (by omega), tr_eq hDn hxn]
                unfold tbd own onm
                rw [na, nb, ra, rb, htb, hs, h0, ← hl.1 2 (by omega)]
                rfl)
              rw [a1, Option.bind_some]
              exact a2
            · rw [if_neg (show ¬ nI (oN τ x) = 0 from nI_neq (b := 0) (by omega) (by omega) h0)]
              have h0 : oN κ x ≠ 0 := by rw [← hl.1.o]; exact h0
              have hcn : Cn κ n := Eqc.cn (fun k hk => (hl.1 k hk).symm) hl.2.1.1.1.1
              obtain ⟨o1, o2, o3, o4⟩ := opn_all (A := A) (D := D) hcn hxn h0
              rw [if_pos h1] at h200 hm hlen
              obtain ⟨τ1, a1, a2, a3⟩ := m_open hl hxn h0 hT.2 (by omega)
              rw [a1, Option.bind_some]
              have hE : emi κ (tT κ (Bf κ n) A D n) (opn κ (tT κ (Bf κ n) A D n) x ++ S) = emi κ (tT κ (Bf κ n) A D n) (x :: S) := by
                rw [emi_app, o1]
                show _ = itE κ (tT κ (Bf κ n) A D n) x ++ emi κ (tT κ (Bf κ n) A D n) S
                unfold itE
                rw [if_neg h3, if_neg h2, if_neg (by omega)]
              have hok2 : ∀ y ∈ opn κ (tT κ (Bf κ n) A D n) x ++ S, okI κ n y := fun y hy => by
                rcases List.mem_append.mp hy with h | h
                · exact o3 y h
                · exact hokS y h
              obtain ⟨τ', d1, d2, d3⟩ := ih (opn κ (tT κ (Bf κ n) A D n) x ++ S) τ1 W (hl.fr a2 (fun k hk => by simp; omega)) a3 ⟨by rw [a2 23 (by simp)]; exact hC.1, fun p hp => by rw [a2 12 (by simp), a2 13 (by simp)]; exact hC.2 p hp⟩ hok2 (by rw [ico_app]; omega) (by rw [ico_app]; omega) (hlenS _ hok2) (by rw [hE]; show _ + (itE κ (tT κ (Bf κ n) A D n) x ++ emi κ (tT κ (Bf κ n) A D n) S).length < _; rw [List.length_append]; omega)
              rw [hE] at d3
              exact ⟨τ', d1, (a2.mono (by simp)).tr d2, d3⟩
          · rw [if_neg (show ¬ nI x < 100 from nI_nlt (b := 100) (by omega) (by omega)), show nI x - 100 = nI (x - 100) from by rw [show (100 : Int32) = nI 100 from rfl, pk_sub (by omega)]]
            obtain ⟨τ1, a1, a2⟩ := hemit 1 (nI (x - 100)) (by unfold itE; rw [if_neg h3, if_neg h2, if_pos (by omega)])
            rw [a1, Option.bind_some]
            exact a2
theorem m_writeTree {κ τ : SS} {n D j : Nat} {A : Nat → Int32} {W : List Op} (hl : LM κ τ n A D) (hj : j < n) (hC : Cd τ W) (hW : W.length + (tr κ nI (tT κ (Bf κ n) A D n) j).length < 600) : ∃ τ' : SS, f_MO_writeTree (nI j) τ = some τ' ∧ Fr [12, 13, 15, 23] τ τ' ∧ Cd τ' (W ++ tr κ nI (tT κ (Bf κ n) A D n) j) := by
  have hn4 := hl.2.1.1.1.1.1
  have hDn : Dn (tT κ (Bf κ n) A D n) n := tT_Dn
  unfold f_MO_writeTree
  have e : itE κ (tT κ (Bf κ n) A D n) j = tr κ nI (tT κ (Bf κ n) A D n) j := by unfold itE; rw [if_neg (by omega), if_neg (by omega), if_neg (by omega)]
  have hc : ico κ (tT κ (Bf κ n) A D n) [j] = cst κ (tT κ (Bf κ n) A D n) j := by show (if j < 100 then cst κ (tT κ (Bf κ n) A D n) j else 1) + 0 = _; rw [if_pos (by omega)]; omega
  have h2 := cst_le (κ := κ) (B := Bf κ n) (A := A) (D := D) hn4 hj
  have h1 : 1 ≤ cst κ (tT κ (Bf κ n) A D n) j := by rw [cst_eq hDn hj]; unfold csb; split <;> omega
  rw [show (0 : Int32) = nI 0 from rfl, p_sto (by omega) (by decide), Option.bind_some]
  have hf : Fr [15] τ (su τ 15 0 (nI j)) := Fr.su (by simp)
  obtain ⟨τ', d1, d2, d3⟩ := m_loop (κ := κ) (n := n) (D := D) (A := A) FU [j] (su τ 15 0 (nI j)) W (hl.fr hf (fun k hk => by simp; omega)) ⟨p_sus _ _ _ _, trivial⟩ ⟨by rw [hf 23 (by simp)]; exact hC.1, fun p hp => by rw [hf 12 (by simp), hf 13 (by simp)]; exact hC.2 p hp⟩ (fun x hx => by simp at hx; rw [hx]; exact Or.inl hj) (by rw [hc]; unfold FU; omega) (by omega) (by rw [hc]; exact h1) (by show _ + (itE κ (tT κ (Bf κ n) A D n) j ++ []).length < 600; rw [List.append_nil, e]; exact hW)
  refine ⟨τ', d1, (hf.mono (by simp)).tr d2, ?_⟩
  have d3 : Cd τ' (W ++ (itE κ (tT κ (Bf κ n) A D n) j ++ [])) := d3
  rw [List.append_nil, e] at d3
  exact d3
