-- pasted from kit/laws/BITS.to-paste (bits)
def bt (x : Int32) (i : Nat) : Bool := x.toBitVec.getLsbD i
theorem b_ext {x y : Int32} (h : ∀ i, i < 32 → bt x i = bt y i) : x = y := Int32.toBitVec_inj.mp (BitVec.eq_of_getLsbD_eq (fun i hi => h i hi))
theorem b_or (x y : Int32) (i : Nat) : bt (x ||| y) i = (bt x i || bt y i) := by unfold bt; rw [Int32.toBitVec_or, BitVec.getLsbD_or]
theorem b_and (x y : Int32) (i : Nat) : bt (x &&& y) i = (bt x i && bt y i) := by unfold bt; rw [Int32.toBitVec_and, BitVec.getLsbD_and]
theorem b_xor (x y : Int32) (i : Nat) : bt (x ^^^ y) i = (bt x i ^^ bt y i) := by unfold bt; rw [Int32.toBitVec_xor, BitVec.getLsbD_xor]
theorem b_big {x : Int32} {i : Nat} (h : 32 ≤ i) : bt x i = false := BitVec.getLsbD_of_ge _ _ h
theorem b_m1 : ∀ i, i < 32 → bt (-1) i = true := by decide +kernel
theorem b_0 (i : Nat) : bt 0 i = false := BitVec.getLsbD_zero
theorem s_l : ∀ n, n < 32 → ((nI n &&& 31).toBitVec.smod 32).toNat = n := by decide +kernel
theorem s_u : ∀ n, n < 32 → (((nI n).toUInt32 &&& Int32.toUInt32 31).toBitVec % 32).toNat = n := by decide +kernel
theorem b_shl (n : Nat) (hn : n < 32) (x : Int32) {i : Nat} (hi : i < 32) : bt (x <<< (nI n &&& 31)) i = (decide (n ≤ i) && bt x (i - n)) := by
  unfold bt
  rw [Int32.toBitVec_shiftLeft]
  show (x.toBitVec <<< ((nI n &&& 31).toBitVec.smod 32).toNat).getLsbD i = _
  rw [s_l n hn, BitVec.getLsbD_shiftLeft]
  rcases Nat.lt_or_ge i n with h | h
  · simp [h, Nat.not_le.mpr h]
  · simp [hi, h, Nat.not_lt.mpr h]
theorem b_ushr (n : Nat) (hn : n < 32) (x : Int32) (i : Nat) : bt ((x.toUInt32 >>> ((nI n).toUInt32 &&& Int32.toUInt32 31)).toInt32) i = bt x (n + i) := by
  show (x.toUInt32 >>> ((nI n).toUInt32 &&& Int32.toUInt32 31)).toBitVec.getLsbD i = x.toUInt32.toBitVec.getLsbD (n + i)
  rw [UInt32.toBitVec_shiftRight]
  show (x.toUInt32.toBitVec >>> (((nI n).toUInt32 &&& Int32.toUInt32 31).toBitVec % 32).toNat).getLsbD i = _
  rw [s_u n hn, BitVec.getLsbD_ushiftRight]
theorem b_sshr (n : Nat) (hn : n < 32) (x : Int32) {i : Nat} (hi : i < 32) : bt (x >>> (nI n &&& 31)) i = if n + i < 32 then bt x (n + i) else bt x 31 := by
  unfold bt
  rw [Int32.toBitVec_shiftRight]
  show (x.toBitVec.sshiftRight ((nI n &&& 31).toBitVec.smod 32).toNat).getLsbD i = _
  rw [s_l n hn, BitVec.getLsbD_sshiftRight, BitVec.msb_eq_getLsbD_last]
  simp [hi]
-- ===== sets of registers =====
def sb (r : Nat) : Int32 := (1 : Int32) <<< (nI r &&& 31)
theorem bt_1 : ∀ i, i < 32 → bt 1 i = decide (i = 0) := by decide +kernel
theorem bt_sb {r k : Nat} (hr : r < 32) (hk : k < 32) : bt (sb r) k = decide (k = r) := by
  unfold sb
  rw [b_shl r hr 1 hk]
  by_cases h : r ≤ k
  · rw [bt_1 (k - r) (by omega)]
    simp only [h, decide_true, Bool.true_and]
    congr 1
    apply propext
    omega
  · have : decide (k = r) = false := by simp; omega
    rw [this]
    simp [h]
def sle (x y : Int32) : Prop := ∀ k, k < 32 → bt x k = true → bt y k = true
theorem sle.rf {x : Int32} : sle x x := fun _ _ h => h
theorem sle.tr {x y z : Int32} (h : sle x y) (h' : sle y z) : sle x z := fun k hk hb => h' k hk (h k hk hb)
theorem sle.an {x y : Int32} (h : sle x y) (h' : sle y x) : x = y := by
  apply b_ext
  intro k hk
  by_cases hb : bt x k = true
  · rw [hb, h k hk hb]
  · by_cases hc : bt y k = true
    · exact absurd (h' k hk hc) hb
    · simp at hb hc
      rw [hb, hc]
theorem sle_0 {y : Int32} : sle 0 y := fun k _ h => by rw [b_0] at h; cases h
theorem sle_or {x y x' y' : Int32} (h : sle x x') (h' : sle y y') : sle (x ||| y) (x' ||| y') := by
  intro k hk hb
  rw [b_or] at hb ⊢
  simp only [Bool.or_eq_true] at hb ⊢
  exact hb.imp (h k hk) (h' k hk)
theorem sle_and {x y x' : Int32} (h : sle x x') : sle (x &&& y) (x' &&& y) := by
  intro k hk hb
  rw [b_and] at hb ⊢
  simp only [Bool.and_eq_true] at hb ⊢
  exact ⟨h k hk hb.1, hb.2⟩
-- ===== the equations of liveness =====
def lat (n : Nat) (L : Nat → Int32) (i : Nat) : Int32 := if i < n then L i else 0
def aft (κ : SS) (n : Nat) (L : Nat → Int32) (i : Nat) : Int32 := if oN κ i = 11 then 0 else if oN κ i = 9 then lat n L (aN κ i) else if oN κ i = 10 then lat n L (bN κ i) ||| lat n L (i + 1) else lat n L (i + 1)
def rdS (κ : SS) (i : Nat) : Int32 := (if rA κ i then sb (aN κ i) else 0) ||| (if rB κ i then sb (bN κ i) else 0)
def wrS (κ : SS) (i : Nat) : Int32 := if wR κ i then sb (dN κ i) else 0
def FF (κ : SS) (n : Nat) (L : Nat → Int32) (i : Nat) : Int32 := rdS κ i ||| (aft κ n L i &&& (wrS κ i ^^^ (-1)))
theorem Eqc.aftq {κ κ' : SS} (h : Eqc κ κ') : aft κ = aft κ' := by funext n L i; unfold aft; rw [h.o, h.a, h.b]
theorem Eqc.ffq {κ κ' : SS} (h : Eqc κ κ') : FF κ = FF κ' := by funext n L i; unfold FF rdS wrS; rw [h.aftq, h.rAq, h.rBq, h.wRq, h.a, h.b, h.d]
theorem lat_c {n : Nat} {L L' : Nat → Int32} (h : ∀ j, j < n → L' j = L j) (i : Nat) : lat n L' i = lat n L i := by
  unfold lat
  by_cases hi : i < n
  · rw [if_pos hi, if_pos hi, h i hi]
  · rw [if_neg hi, if_neg hi]
theorem aft_c {κ : SS} {n : Nat} {L L' : Nat → Int32} (h : ∀ j, j < n → L' j = L j) (i : Nat) : aft κ n L' i = aft κ n L i := by unfold aft; rw [lat_c h, lat_c h, lat_c h]
theorem FF_c {κ : SS} {n : Nat} {L L' : Nat → Int32} (h : ∀ j, j < n → L' j = L j) (i : Nat) : FF κ n L' i = FF κ n L i := by unfold FF; rw [aft_c h]
theorem lat_m {n : Nat} {L L' : Nat → Int32} (h : ∀ j, j < n → sle (L j) (L' j)) (i : Nat) : sle (lat n L i) (lat n L' i) := by
  unfold lat
  by_cases hi : i < n
  · rw [if_pos hi, if_pos hi]; exact h i hi
  · rw [if_neg hi]; exact sle_0
theorem aft_m {κ : SS} {n : Nat} {L L' : Nat → Int32} (h : ∀ j, j < n → sle (L j) (L' j)) (i : Nat) : sle (aft κ n L i) (aft κ n L' i) := by
  unfold aft
  by_cases h1 : oN κ i = 11
  · rw [if_pos h1]; exact sle_0
  · rw [if_neg h1, if_neg h1]
    by_cases h2 : oN κ i = 9
    · rw [if_pos h2, if_pos h2]; exact lat_m h _
    · rw [if_neg h2, if_neg h2]
      by_cases h3 : oN κ i = 10
      · rw [if_pos h3, if_pos h3]; exact sle_or (lat_m h _) (lat_m h _)
      · rw [if_neg h3, if_neg h3]; exact lat_m h _
theorem FF_m {κ : SS} {n : Nat} {L L' : Nat → Int32} (h : ∀ j, j < n → sle (L j) (L' j)) (i : Nat) : sle (FF κ n L i) (FF κ n L' i) := sle_or sle.rf (sle_and (aft_m h i))
/-- only registers 0 .. 9 -/
def tn (x : Int32) : Prop := ∀ k, 10 ≤ k → k < 32 → bt x k = false
theorem tn_0 : tn 0 := fun k _ _ => b_0 k
theorem tn_or {x y : Int32} (h : tn x) (h' : tn y) : tn (x ||| y) := fun k h1 h2 => by rw [b_or, h k h1 h2, h' k h1 h2]; rfl
theorem tn_and {x y : Int32} (h : tn x) : tn (x &&& y) := fun k h1 h2 => by rw [b_and, h k h1 h2]; rfl
theorem tn_sb {r : Nat} (h : r < 10) : tn (sb r) := fun k h1 h2 => by rw [bt_sb (by omega) h2]; simp; omega
theorem tn_lat {n : Nat} {L : Nat → Int32} (h : ∀ j, j < n → tn (L j)) (i : Nat) : tn (lat n L i) := by
  unfold lat
  by_cases hi : i < n
  · rw [if_pos hi]; exact h i hi
  · rw [if_neg hi]; exact tn_0
theorem tn_aft {κ : SS} {n : Nat} {L : Nat → Int32} (h : ∀ j, j < n → tn (L j)) (i : Nat) : tn (aft κ n L i) := by
  unfold aft
  by_cases h1 : oN κ i = 11
  · rw [if_pos h1]; exact tn_0
  · rw [if_neg h1]
    by_cases h2 : oN κ i = 9
    · rw [if_pos h2]; exact tn_lat h _
    · rw [if_neg h2]
      by_cases h3 : oN κ i = 10
      · rw [if_pos h3]; exact tn_or (tn_lat h _) (tn_lat h _)
      · rw [if_neg h3]; exact tn_lat h _
theorem rA_lt {κ : SS} {i : Nat} (hr : Rt κ i) (h : rA κ i = true) : κ 2 i = nI (aN κ i) ∧ aN κ i < 10 := by
  unfold rA at h
  simp at h
  obtain ⟨⟨h1, h2⟩, h3⟩ := h
  obtain ⟨a1, a2, a3⟩ := hr.2.2.2.2.1 h1
  exact ⟨a1, a3 h2⟩
theorem rB_lt {κ : SS} {i : Nat} (hr : Rt κ i) (h : rB κ i = true) : κ 3 i = nI (bN κ i) ∧ bN κ i < 10 := by
  unfold rB at h
  simp at h
  exact ⟨hr.2.2.2.2.2.1, hr.2.2.2.2.2.2.2 (by omega)⟩
theorem tn_rd {κ : SS} {i : Nat} (hr : Rt κ i) : tn (rdS κ i) := by
  unfold rdS
  refine tn_or ?_ ?_
  · by_cases h : rA κ i = true
    · rw [if_pos h]; exact tn_sb (rA_lt hr h).2
    · rw [if_neg h]; exact tn_0
  · by_cases h : rB κ i = true
    · rw [if_pos h]; exact tn_sb (rB_lt hr h).2
    · rw [if_neg h]; exact tn_0
theorem tn_FF {κ : SS} {n : Nat} {L : Nat → Int32} (h : ∀ j, j < n → tn (L j)) {i : Nat} (hr : Rt κ i) : tn (FF κ n L i) := tn_or (tn_rd hr) (tn_and (tn_aft h i))
-- ===== counting bits =====
def cbk (x : Int32) : Nat → Nat
  | 0 => 0
  | k + 1 => cbk x k + (if bt x k then 1 else 0)
def cL (L : Nat → Int32) : Nat → Nat
  | 0 => 0
  | i + 1 => cL L i + cbk (L i) 10
theorem cbk_le (x : Int32) : ∀ k, cbk x k ≤ k := by
  intro k
  induction k with
  | zero => exact Nat.le_refl _
  | succ k ih => show cbk x k + _ ≤ _; split <;> omega
theorem cbk_m {x y : Int32} (h : sle x y) : ∀ k, k ≤ 32 → cbk x k ≤ cbk y k := by
  intro k
  induction k with
  | zero => intro _; exact Nat.le_refl _
  | succ k ih =>
    intro hk
    show cbk x k + _ ≤ cbk y k + _
    have := ih (by omega)
    by_cases hb : bt x k = true
    · rw [if_pos hb, if_pos (h k (by omega) hb)]; omega
    · rw [if_neg hb]; omega
theorem cbk_s {x y : Int32} (h : sle x y) : ∀ k, k ≤ 32 → cbk x k = cbk y k → ∀ j, j < k → bt x j = bt y j := by
  intro k
  induction k with
  | zero => intro _ _ j hj; omega
  | succ k ih =>
    intro hk he j hj
    have h1 := cbk_m h k (by omega)
    have he : cbk x k + (if bt x k then 1 else 0) = cbk y k + (if bt y k then 1 else 0) := he
    by_cases hb : bt x k = true
    · have hy := h k (by omega) hb
      rw [if_pos hb, if_pos hy] at he
      by_cases e : j = k
      · rw [e, hb, hy]
      · exact ih (by omega) (by omega) j (by omega)
    · rw [if_neg hb] at he
      by_cases hy : bt y k = true
      · rw [if_pos hy] at he; omega
      · rw [if_neg hy] at he
        by_cases e : j = k
        · rw [e]; simp at hb hy; rw [hb, hy]
        · exact ih (by omega) (by omega) j (by omega)
theorem cb_lt {x y : Int32} (h : sle x y) (hx : tn x) (hy : tn y) (hne : x ≠ y) : cbk x 10 < cbk y 10 := by
  have h1 := cbk_m h 10 (by omega)
  apply Nat.lt_of_le_of_ne h1
  intro he
  apply hne
  apply b_ext
  intro k hk
  by_cases e : k < 10
  · exact cbk_s h 10 (by omega) he k e
  · rw [hx k (by omega) hk, hy k (by omega) hk]
theorem cL_le (L : Nat → Int32) : ∀ n, cL L n ≤ 10 * n := by
  intro n
  induction n with
  | zero => exact Nat.le_refl _
  | succ n ih => have := cbk_le (L n) 10; show cL L n + _ ≤ _; omega
theorem cL_m {L L' : Nat → Int32} : ∀ n, (∀ j, j < n → sle (L j) (L' j)) → cL L n ≤ cL L' n := by
  intro n
  induction n with
  | zero => intro _; exact Nat.le_refl _
  | succ n ih =>
    intro h
    have h1 := ih (fun j hj => h j (by omega))
    have h2 := cbk_m (h n (by omega)) 10 (by omega)
    show cL L n + _ ≤ cL L' n + _
    omega
theorem cL_s {L L' : Nat → Int32} : ∀ n, (∀ j, j < n → sle (L j) (L' j)) → ∀ i, i < n → cbk (L i) 10 < cbk (L' i) 10 → cL L n < cL L' n := by
  intro n
  induction n with
  | zero => intro _ i hi; omega
  | succ n ih =>
    intro h i hi hlt
    show cL L n + _ < cL L' n + _
    by_cases e : i = n
    · subst e
      have := cL_m i (fun j hj => h j (by omega))
      omega
    · have h1 := ih (fun j hj => h j (by omega)) i (by omega) hlt
      have h2 := cbk_m (h n (by omega)) 10 (by omega)
      omega
-- ===== single updates =====
def Iv (κ : SS) (n : Nat) (L : Nat → Int32) : Prop := (∀ i, i < n → sle (L i) (FF κ n L i)) ∧ (∀ i, i < n → tn (L i)) ∧ ∀ X : Nat → Int32, (∀ i, i < n → X i = FF κ n X i) → ∀ i, i < n → sle (L i) (X i)
def Up (κ : SS) (n : Nat) (L L' : Nat → Int32) : Prop := Iv κ n L' ∧ (∀ j, j < n → sle (L j) (L' j))
theorem Up.tr {κ : SS} {n : Nat} {L L' L'' : Nat → Int32} (h : Up κ n L L') (h' : Up κ n L' L'') : Up κ n L L'' := ⟨h'.1, fun j hj => (h.2 j hj).tr (h'.2 j hj)⟩
theorem Iv_0 {κ : SS} {n : Nat} {L : Nat → Int32} (h : ∀ j, j < n → L j = 0) : Iv κ n L := ⟨fun i hi => by rw [h i hi]; exact sle_0, fun i hi => by rw [h i hi]; exact tn_0, fun X _ i hi => by rw [h i hi]; exact sle_0⟩
theorem Iv_c {κ : SS} {n : Nat} {L L' : Nat → Int32} (h : ∀ j, j < n → L' j = L j) (hI : Iv κ n L) : Iv κ n L' := ⟨fun i hi => by rw [h i hi, FF_c h]; exact hI.1 i hi, fun i hi => by rw [h i hi]; exact hI.2.1 i hi, fun X hX i hi => by rw [h i hi]; exact hI.2.2 X hX i hi⟩
/-- one place is set to its equation's value -/
theorem Up_1 {κ : SS} {n i : Nat} {L L' : Nat → Int32} (hc : Cn κ n) (hi : i < n) (hI : Iv κ n L) (h1 : L' i = FF κ n L i) (h2 : ∀ j, j < n → j ≠ i → L' j = L j) : Up κ n L L' ∧ (L' i ≠ L i → cL L n < cL L' n) := by
  have hle : ∀ j, j < n → sle (L j) (L' j) := by
    intro j hj
    by_cases e : j = i
    · subst e; rw [h1]; exact hI.1 j hj
    · rw [h2 j hj e]; exact sle.rf
  have htn : ∀ j, j < n → tn (L' j) := by
    intro j hj
    by_cases e : j = i
    · subst e; rw [h1]; exact tn_FF hI.2.1 (hc.2 j hj)
    · rw [h2 j hj e]; exact hI.2.1 j hj
  refine ⟨⟨⟨fun j hj => ?_, htn, fun X hX j hj => ?_⟩, hle⟩, fun hne => ?_⟩
  · by_cases e : j = i
    · subst e; rw [h1]; exact FF_m hle j
    · rw [h2 j hj e]; exact (hI.1 j hj).tr (FF_m hle j)
  · by_cases e : j = i
    · subst e; rw [h1, hX j hj]; exact FF_m (hI.2.2 X hX) j
    · rw [h2 j hj e]; exact hI.2.2 X hX j hj
  · exact cL_s n hle i hi (cb_lt (hle i hi) (hI.2.1 i hi) (htn i hi) (fun e => hne e.symm))
