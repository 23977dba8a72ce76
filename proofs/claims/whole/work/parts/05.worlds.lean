/-- the cells: the objects, then their arrays -/
def wC (a : Nat → Nat) (cI cZ : ClassId) (σ : SS) : va_W := [(a 0, .inr (0, [.ref (a 1), .ref (a 2), .ref (a 3), .ref (a 4), .ref (a 5), .int (σ 24 0)])), (a 1, .inr (1, [.ref (a 6), .ref (a 7), .ref (a 8), .ref (a 9), .ref (a 10), .ref (a 11), .ref (a 12), .int (σ 25 0)])), (a 2, .inr (2, [.ref (a 1), .ref (a 13), .ref (a 14), .ref (a 15)])), (a 3, .inr (3, [.ref (a 1), .ref (a 2), .int (σ 26 0), .ref (a 16), .ref (a 17), .ref (a 18), .ref (a 19), .ref (a 20), .ref (a 21)])), (a 4, .inr (4, [.ref (a 1), .ref (a 2), .ref (a 3), .ref (a 22), .ref (a 23), .ref (a 24), .ref (a 25), .int (σ 27 0), .int (σ 28 0)])), (a 5, .inr (5, [.ref (a 26), .ref (a 27), .ref (a 28), .ref (a 29), .int (σ 29 0), .int (σ 30 0), .int (σ 31 0)])), (a 6, .inl (cI, 40, .inl (σ 0))), (a 7, .inl (cI, 40, .inl (σ 1))), (a 8, .inl (cI, 40, .inl (σ 2))), (a 9, .inl (cI, 40, .inl (σ 3))), (a 10, .inl (cI, 40, .inl (σ 4))), (a 11, .inl (cI, 40, .inl (σ 5))), (a 12, .inl (cI, 40, .inl (σ 6))), (a 13, .inl (cZ, 40, .inl (σ 7))), (a 14, .inl (cI, 40, .inl (σ 8))), (a 15, .inl (cI, 40, .inl (σ 9))), (a 16, .inl (cI, 40, .inl (σ 10))), (a 17, .inl (cI, 40, .inl (σ 11))), (a 18, .inl (cI, 40, .inl (σ 12))), (a 19, .inl (cI, 40, .inl (σ 13))), (a 20, .inl (cI, 40, .inl (σ 14))), (a 21, .inl (cZ, 40, .inl (σ 15))), (a 22, .inl (cI, 201, .inl (σ 16))), (a 23, .inl (cI, 201, .inl (σ 17))), (a 24, .inl (cI, 40, .inl (σ 18))), (a 25, .inl (cI, 40, .inl (σ 19))), (a 26, .inl (cI, 10, .inl (σ 20))), (a 27, .inl (cI, 16, .inl (σ 21))), (a 28, .inl (cI, 40, .inl (σ 22))), (a 29, .inl (cI, 8, .inl (σ 23)))]
def aC (a : Nat → Nat) : Nat → Prop := fun q => ∃ k, k < 30 ∧ q = a k
def aCC (a : Nat → Nat) : Prop := ∀ i j, i < 30 → j < 30 → a i = a j → i = j
theorem wC_at (a : Nat → Nat) (cI cZ : ClassId) (σ : SS) : (wC a cI cZ σ).map (fun q => q.1) = (List.range 30).map a := rfl
theorem dC {a : Nat → Nat} {cI cZ : ClassId} (ha : aCC a) (σ : SS) : va_D (aC a) (wC a cI cZ σ) := dW (wC_at a cI cZ σ) ha
def tbC0 : Nat → Int32 := fun j => ([1, 1, 1, 1, 1, 1, 1, 0, 0, 0, 0, 0] : List Int32).getD j 0
def tbC1 : Nat → Int32 := fun j => ([3, 1, 1, 1, 1, 1, 1, 1, 1, 2, 1, 0] : List Int32).getD j 0
def tbC2 : Nat → Int32 := fun j => ([0, 0, 1, 1, 1, 1, 0, 1, 0, 0, 2, 0] : List Int32).getD j 0
def tbC3 : Nat → Int32 := fun j => ([0, -1, 5, 6, 7, 8, 9, 10, 11, 12, 13, 14] : List Int32).getD j 0
def stC (t : Nat → Nat) (A : Nat → Prop) (U : State) (H : Heap) : Prop := va_Z "StackCoder$RegisterCode" "D_KINDS" "[I" (.ref (t 0)) A U H ∧ va_T .int (t 0) 12 (fun j => .int (tbC0 j)) A U H ∧ va_Z "StackCoder$RegisterCode" "A_KINDS" "[I" (.ref (t 1)) A U H ∧ va_T .int (t 1) 12 (fun j => .int (tbC1 j)) A U H ∧ va_Z "StackCoder$RegisterCode" "B_KINDS" "[I" (.ref (t 2)) A U H ∧ va_T .int (t 2) 12 (fun j => .int (tbC2 j)) A U H ∧ va_Z "StackCoder$StackCode" "OWN" "[I" (.ref (t 3)) A U H ∧ va_T .int (t 3) 12 (fun j => .int (tbC3 j)) A U H
theorem stC_g (t : Nat → Nat) : stG (stC t) := by
  refine ⟨fun A u U H hv h => ?_, fun A U H H1 hk h => ?_⟩
  · obtain ⟨h0, h1, h2, h3, h4, h5, h6, h7⟩ := h
    exact ⟨h0.moved hv, h1.moved hv, h2.moved hv, h3.moved hv, h4.moved hv, h5.moved hv, h6.moved hv, h7.moved hv⟩
  · obtain ⟨h0, h1, h2, h3, h4, h5, h6, h7⟩ := h
    exact ⟨h0.kept hk, h1.kept hk, h2.kept hk, h3.kept hk, h4.kept hk, h5.kept hk, h6.kept hk, h7.kept hk⟩
/-- the cells: the objects, then their arrays -/
def wM (a : Nat → Nat) (cI cZ : ClassId) (σ : SS) : va_W := [(a 0, .inr (6, [.int (σ 20 0), .int (σ 21 0), .ref (a 1), .ref (a 2), .ref (a 3), .ref (a 4), .int (σ 22 0), .ref (a 5), .ref (a 6), .ref (a 7), .ref (a 8), .ref (a 9), .ref (a 10), .ref (a 11), .ref (a 12), .int (σ 23 0), .ref (a 13), .ref (a 14), .ref (a 15), .ref (a 16), .int (σ 24 0), .ref (a 17), .int (σ 25 0), .ref (a 18), .ref (a 19), .ref (a 20)])), (a 1, .inl (cI, 40, .inl (σ 0))), (a 2, .inl (cI, 40, .inl (σ 1))), (a 3, .inl (cI, 40, .inl (σ 2))), (a 4, .inl (cI, 40, .inl (σ 3))), (a 5, .inl (cZ, 42, .inl (σ 4))), (a 6, .inl (cI, 42, .inl (σ 5))), (a 7, .inl (cI, 40, .inl (σ 6))), (a 8, .inl (cI, 40, .inl (σ 7))), (a 9, .inl (cI, 40, .inl (σ 8))), (a 10, .inl (cI, 40, .inl (σ 9))), (a 11, .inl (cI, 40, .inl (σ 10))), (a 12, .inl (cZ, 40, .inl (σ 11))), (a 13, .inl (cI, 600, .inl (σ 12))), (a 14, .inl (cI, 600, .inl (σ 13))), (a 15, .inl (cI, 41, .inl (σ 14))), (a 16, .inl (cI, 200, .inl (σ 15))), (a 17, .inl (cI, 40, .inl (σ 16))), (a 18, .inl (cI, 16, .inl (σ 17))), (a 19, .inl (cI, 10, .inl (σ 18))), (a 20, .inl (cI, 200, .inl (σ 19)))]
def aM (a : Nat → Nat) : Nat → Prop := fun q => ∃ k, k < 21 ∧ q = a k
def aMC (a : Nat → Nat) : Prop := ∀ i j, i < 21 → j < 21 → a i = a j → i = j
theorem wM_at (a : Nat → Nat) (cI cZ : ClassId) (σ : SS) : (wM a cI cZ σ).map (fun q => q.1) = (List.range 21).map a := rfl
theorem dM {a : Nat → Nat} {cI cZ : ClassId} (ha : aMC a) (σ : SS) : va_D (aM a) (wM a cI cZ σ) := dW (wM_at a cI cZ σ) ha
def stM (t : Nat → Nat) (A : Nat → Prop) (U : State) (H : Heap) : Prop := True
theorem stM_g (t : Nat → Nat) : stG (stM t) := by
  exact ⟨fun _ _ _ _ _ _ => trivial, fun _ _ _ _ _ _ => trivial⟩
