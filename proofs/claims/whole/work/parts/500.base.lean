-- ===== pure rows: reading and writing by natural numbers =====
theorem p_vin {i n : Nat} (h : i < n) (hn : n < 2 ^ 31) : ¬ (nI i < 0 ∨ n ≤ (nI i).toNatClampNeg) := nI_in h hn
theorem p_ld {f : Nat → Int32} {n i : Nat} (h : i < n) (hn : n < 2 ^ 31) : ld f n (nI i) = some (f i) := by
  unfold ld
  rw [if_neg (p_vin h hn), nI_clamp (by omega)]
theorem p_sto {σ : SS} {k n i : Nat} {x : Int32} (h : i < n) (hn : n < 2 ^ 31) : sto σ k n (nI i) x = some (su σ k i x) := by
  unfold sto
  rw [if_neg (p_vin h hn), nI_clamp (by omega)]
theorem p_sf (σ : SS) (k : Nat) (x : Int32) : sf σ k x = some (su σ k 0 x) := rfl
theorem p_su (σ : SS) (k i : Nat) (x : Int32) (k' i' : Nat) : su σ k i x k' i' = if k' = k then (if i' = i then x else σ k i') else σ k' i' := by
  unfold su
  by_cases h : k' = k
  · rw [if_pos h, if_pos h]; rfl
  · rw [if_neg h, if_neg h]
theorem p_sus (σ : SS) (k i : Nat) (x : Int32) : su σ k i x k i = x := by rw [p_su, if_pos rfl, if_pos rfl]
theorem p_sun {σ : SS} {k i i' : Nat} {x : Int32} (h : i' ≠ i) : su σ k i x k i' = σ k i' := by rw [p_su, if_pos rfl, if_neg h]
theorem p_suk {σ : SS} {k k' i i' : Nat} {x : Int32} (h : k' ≠ k) : su σ k i x k' i' = σ k' i' := by rw [p_su, if_neg h]
theorem p_suK {σ : SS} {k k' i : Nat} {x : Int32} (h : k' ≠ k) : su σ k i x k' = σ k' := by funext j; exact p_suk h
theorem p_ext {σ τ : SS} (h : ∀ k i, σ k i = τ k i) : σ = τ := by funext k i; exact h k i
theorem p_nz1 : vp_nar .boolean 1 = 1 := by decide
theorem p_nz0 : vp_nar .boolean 0 = 0 := by decide
theorem p_m1 : (-1 : Int32).toInt = -1 := by decide
theorem p_nm1 {n : Nat} (h : n < 2 ^ 31) : ¬ nI n = -1 := by
  intro e
  have h1 := congrArg Int32.toInt e
  rw [nI_toInt h, p_m1] at h1
  omega
/-- an Int32 that is not less than 0 and less than nI n -/
theorem p_nat {x : Int32} {n : Nat} (hn : n < 2 ^ 31) (h0 : ¬ x < 0) (h1 : ¬ nI n ≤ x) : ∃ i, i < n ∧ x = nI i := by
  obtain ⟨j, hj, rfl⟩ := nI_of h0
  refine ⟨j, ?_, rfl⟩
  apply Nat.not_le.mp
  intro h
  exact h1 (nI_le h hj)
theorem p_rz0 (σ : SS) : rz 0 σ = some (0, σ) := by unfold rz; rw [if_pos (Or.inl rfl)]
theorem p_rz1 (σ : SS) : rz 1 σ = some (1, σ) := by unfold rz; rw [if_pos (Or.inr rfl)]
/-- the rows outside S are unchanged -/
def Fr (S : List Nat) (σ σ' : SS) : Prop := ∀ k, k ∉ S → σ' k = σ k
theorem Fr.rf {S : List Nat} {σ : SS} : Fr S σ σ := fun _ _ => rfl
theorem Fr.tr {S : List Nat} {σ σ' σ'' : SS} (h : Fr S σ σ') (h' : Fr S σ' σ'') : Fr S σ σ'' := fun k hk => (h' k hk).trans (h k hk)
theorem Fr.mono {S S' : List Nat} {σ σ' : SS} (h : Fr S σ σ') (hs : ∀ k ∈ S, k ∈ S') : Fr S' σ σ' := fun k hk => h k (fun hh => hk (hs k hh))
theorem Fr.su {S : List Nat} {σ : SS} {k i : Nat} {x : Int32} (h : k ∈ S) : Fr S σ (su σ k i x) := fun j hj => p_suK (fun e => hj (e ▸ h))
-- ===== code: numbers, and what is read and written =====
def oN (κ : SS) (i : Nat) : Nat := (κ 0 i).toNatClampNeg
def dN (κ : SS) (i : Nat) : Nat := (κ 1 i).toNatClampNeg
def aN (κ : SS) (i : Nat) : Nat := (κ 2 i).toNatClampNeg
def bN (κ : SS) (i : Nat) : Nat := (κ 3 i).toNatClampNeg
def wR (κ : SS) (i : Nat) : Bool := decide (oN κ i ≤ 6)
def rA (κ : SS) (i : Nat) : Bool := !(oN κ i == 0 || oN κ i == 9 || oN κ i == 11)
def rB (κ : SS) (i : Nat) : Bool := (decide (2 ≤ oN κ i) && decide (oN κ i ≤ 5)) || oN κ i == 7
/-- an instruction that is right -/
def Rt (κ : SS) (i : Nat) : Prop := κ 0 i = nI (oN κ i) ∧ oN κ i ≤ 11 ∧ κ 1 i = nI (dN κ i) ∧ dN κ i < 10 ∧ (oN κ i ≠ 0 → κ 2 i = nI (aN κ i) ∧ aN κ i < 40 ∧ (oN κ i ≠ 9 → aN κ i < 10)) ∧ κ 3 i = nI (bN κ i) ∧ bN κ i < 40 ∧ (oN κ i ≠ 10 → bN κ i < 10)
/-- n right instructions -/
def Cn (κ : SS) (n : Nat) : Prop := n ≤ 40 ∧ ∀ i, i < n → Rt κ i
/-- the class's rows of a code -/
def CC (σ : SS) (n : Nat) : Prop := Cn σ n ∧ σ 25 0 = nI n ∧ ∀ i, i < n → σ 4 i = (if wR σ i then σ 1 i else -1) ∧ σ 5 i = (if rA σ i then σ 2 i else -1) ∧ σ 6 i = (if rB σ i then σ 3 i else -1)
def CM (τ : SS) (n : Nat) : Prop := Cn τ n ∧ τ 21 0 = nI n
/-- two contents have the same code -/
def Eqc (κ κ' : SS) : Prop := ∀ k, k < 4 → κ k = κ' k
theorem Eqc.o {κ κ' : SS} (h : Eqc κ κ') : oN κ = oN κ' := by funext i; unfold oN; rw [h 0 (by omega)]
theorem Eqc.d {κ κ' : SS} (h : Eqc κ κ') : dN κ = dN κ' := by funext i; unfold dN; rw [h 1 (by omega)]
theorem Eqc.a {κ κ' : SS} (h : Eqc κ κ') : aN κ = aN κ' := by funext i; unfold aN; rw [h 2 (by omega)]
theorem Eqc.b {κ κ' : SS} (h : Eqc κ κ') : bN κ = bN κ' := by funext i; unfold bN; rw [h 3 (by omega)]
theorem Fr.eqc {S : List Nat} {σ σ' : SS} (h : Fr S σ σ') (hs : ∀ k, k < 4 → k ∉ S) : Eqc σ' σ := fun k hk => h k (hs k hk)
theorem Eqc.rt {κ κ' : SS} (h : Eqc κ κ') {i : Nat} (hr : Rt κ' i) : Rt κ i := by
  unfold Rt at *
  rw [h.o, h.d, h.a, h.b, h 0 (by omega), h 1 (by omega), h 2 (by omega), h 3 (by omega)]
  exact hr
theorem Eqc.cn {κ κ' : SS} (h : Eqc κ κ') {n : Nat} (hc : Cn κ' n) : Cn κ n := ⟨hc.1, fun i hi => h.rt (hc.2 i hi)⟩
theorem Eqc.wRq {κ κ' : SS} (h : Eqc κ κ') : wR κ = wR κ' := by funext i; unfold wR; rw [h.o]
theorem Eqc.rAq {κ κ' : SS} (h : Eqc κ κ') : rA κ = rA κ' := by funext i; unfold rA; rw [h.o]
theorem Eqc.rBq {κ κ' : SS} (h : Eqc κ κ') : rB κ = rB κ' := by funext i; unfold rB; rw [h.o]
theorem CC.fr {S : List Nat} {σ σ' : SS} {n : Nat} (h : Fr S σ σ') (hs : ∀ k, k < 7 ∨ k = 25 → k ∉ S) (hc : CC σ n) : CC σ' n := by
  have he : Eqc σ' σ := h.eqc (fun k hk => hs k (Or.inl (by omega)))
  obtain ⟨h1, h2, h3⟩ := hc
  refine ⟨he.cn h1, by rw [h 25 (hs 25 (Or.inr rfl))]; exact h2, fun i hi => ?_⟩
  rw [he.wRq, he.rAq, he.rBq, h 4 (hs 4 (by omega)), h 5 (hs 5 (by omega)), h 6 (hs 6 (by omega)), he 1 (by omega), he 2 (by omega), he 3 (by omega)]
  exact h3 i hi
theorem CM.fr {S : List Nat} {σ σ' : SS} {n : Nat} (h : Fr S σ σ') (hs : ∀ k, k < 4 ∨ k = 21 → k ∉ S) (hc : CM σ n) : CM σ' n := by
  have he : Eqc σ' σ := h.eqc (fun k hk => hs k (Or.inl hk))
  exact ⟨he.cn hc.1, by rw [h 21 (hs 21 (Or.inr rfl))]; exact hc.2⟩
-- ===== the class's getters =====
theorem g_count {σ : SS} : f_RC_count σ = some (σ 25 0, σ) := rfl
theorem g_op {σ : SS} {i : Nat} (h : i < 40) : f_RC_operationOf (nI i) σ = some (σ 0 i, σ) := by unfold f_RC_operationOf; rw [p_ld h (by decide)]; rfl
theorem g_d {σ : SS} {i : Nat} (h : i < 40) : f_RC_dOf (nI i) σ = some (σ 1 i, σ) := by unfold f_RC_dOf; rw [p_ld h (by decide)]; rfl
theorem g_a {σ : SS} {i : Nat} (h : i < 40) : f_RC_aOf (nI i) σ = some (σ 2 i, σ) := by unfold f_RC_aOf; rw [p_ld h (by decide)]; rfl
theorem g_b {σ : SS} {i : Nat} (h : i < 40) : f_RC_bOf (nI i) σ = some (σ 3 i, σ) := by unfold f_RC_bOf; rw [p_ld h (by decide)]; rfl
theorem g_w {σ : SS} {i : Nat} (h : i < 40) : f_RC_writtenBy (nI i) σ = some (σ 4 i, σ) := by unfold f_RC_writtenBy; rw [p_ld h (by decide)]; rfl
theorem g_ra {σ : SS} {i : Nat} (h : i < 40) : f_RC_readAsA (nI i) σ = some (σ 5 i, σ) := by unfold f_RC_readAsA; rw [p_ld h (by decide)]; rfl
theorem g_rb {σ : SS} {i : Nat} (h : i < 40) : f_RC_readAsB (nI i) σ = some (σ 6 i, σ) := by unfold f_RC_readAsB; rw [p_ld h (by decide)]; rfl
theorem g_holds {σ : SS} {i n : Nat} (hn : σ 25 0 = nI n) (hi : i < 2 ^ 31) (hn2 : n < 2 ^ 31) : f_RC_holds (nI i) σ = some (if i < n then 1 else 0, σ) := by
  unfold f_RC_holds
  rw [if_neg (nI_pos hi), hn]
  by_cases h : i < n
  · rw [if_neg (nI_ge h hn2), if_pos h]
  · rw [if_pos (nI_le (by omega) hi), if_neg h]
theorem nI_eqI {a b : Nat} (ha : a < 2 ^ 31) (hb : b < 2 ^ 31) : nI a = nI b ↔ a = b := nI_eq ha hb
theorem lt_eq {a c : Nat} (ha : a < 2 ^ 31) (hc : c < 2 ^ 31) : (nI a = (OfNat.ofNat c : Int32)) ↔ a = c := nI_eq ha hc
theorem lt_le {a c : Nat} (ha : a < 2 ^ 31) (hc : c < 2 ^ 31) : (nI a ≤ (OfNat.ofNat c : Int32)) ↔ a ≤ c := nI_leI ha hc
theorem lt_le' {a c : Nat} (ha : a < 2 ^ 31) (hc : c < 2 ^ 31) : ((OfNat.ofNat c : Int32) ≤ nI a) ↔ c ≤ a := nI_leI hc ha
theorem lt_lt {a c : Nat} (ha : a < 2 ^ 31) (hc : c < 2 ^ 31) : (nI a < (OfNat.ofNat c : Int32)) ↔ a < c := nI_ltI ha hc
theorem lt_lt' {a c : Nat} (ha : a < 2 ^ 31) (hc : c < 2 ^ 31) : ((OfNat.ofNat c : Int32) < nI a) ↔ c < a := nI_ltI hc ha
theorem lt_ad (a c : Nat) : nI a + (OfNat.ofNat c : Int32) = nI (a + c) := nI_add a c
theorem lt_m1 {a : Nat} (ha : a < 2 ^ 31) : (nI a = -1) ↔ False := ⟨fun h => p_nm1 ha h, False.elim⟩
theorem lt_sb {a c : Nat} (h : c ≤ a) : nI a - (OfNat.ofNat c : Int32) = nI (a - c) := pk_sub h
theorem lt_am {a : Nat} (h : 0 < a) : nI a + (-1) = nI (a - 1) := by
  have := pk_m1 (a - 1)
  rw [show a - 1 + 1 = a by omega] at this
  exact this
