-- ===== the height along the code =====
def hs (l : List Op) (h : Nat) : Option Nat := match l with
  | [] => some h
  | q :: l => (st q.1.toNatClampNeg h).bind fun h' => hs l h'
theorem hs_app (b : List Op) : ∀ (a : List Op) (h : Nat), hs (a ++ b) h = (hs a h).bind fun h' => hs b h' := by
  intro a
  induction a with
  | nil => intro h; rfl
  | cons q a ih =>
    intro h
    show (st q.1.toNatClampNeg h).bind (fun h' => hs (a ++ b) h') = ((st q.1.toNatClampNeg h).bind fun h' => hs a h').bind fun h' => hs b h'
    cases hq : st q.1.toNatClampNeg h with
    | none => rfl
    | some h' => rw [Option.bind_some, Option.bind_some]; exact ih h'
theorem hs_to {a b : List Op} {h h' : Nat} (ha : hs a h = some h') : hs (a ++ b) h = hs b h' := by rw [hs_app, ha, Option.bind_some]
theorem hs_one {o h : Nat} {y : Int32} (ho : o < 100) : hs [(nI o, y)] h = st o h := by
  show (st (nI o).toNatClampNeg h).bind (fun h' => hs [] h') = _
  rw [nI_clamp (by omega)]
  cases st o h <;> rfl
theorem tT_lo {κ : SS} {B : Nat → Bool} {A : Nat → Int32} {D m n i : Nat} (h1 : i < m) (h2 : i < n) : tT κ B A D m i = tT κ B A D n i := by rw [tT_st m h1, tT_st n h2]
theorem ndT_lo {κ : SS} {B : Nat → Bool} {A : Nat → Int32} {D m n : Nat} (hmn : m ≤ n) {o : Option Nat} (ho : ∀ i, o = some i → i < m) : ndT (tT κ B A D m) o = ndT (tT κ B A D n) o := by
  cases o with
  | none => rfl
  | some i =>
    show (tT κ B A D m i).2.2.1 = (tT κ B A D n i).2.2.1
    rw [tT_lo (m := m) (n := n) (ho i rfl) (by have := ho i rfl; omega)]
theorem need_eq {κ : SS} {B : Nat → Bool} {A : Nat → Int32} {D n j : Nat} (hj : j < n) : (tT κ B A D n j).2.2.1 = ndW κ (tT κ B A D n) j (tT κ B A D n j).1 (tT κ B A D n j).2.1 := by
  have hD : Dn (tT κ B A D n) n := tT_Dn
  have e : (tT κ B A D n j).2.2.1 = ndW κ (tT κ B A D j) j (tT κ B A D n j).1 (tT κ B A D n j).2.1 := by rw [tT_st n hj]; rfl
  rw [e]
  unfold ndW
  rw [ndT_lo (m := j) (n := n) (by omega) (hD j hj).1, ndT_lo (m := j) (n := n) (by omega) (hD j hj).2]
theorem kid_w {κ : SS} {B : Nat → Bool} {A : Nat → Int32} {D n j i : Nat} (hj : j < n) (h : Kid (tT κ B A D n) j i) : wR κ i = true := by
  have hw := (lwo_s j (kid_s hj h).1).2.1
  unfold wr at hw
  cases hh : wR κ i with
  | true => rfl
  | false => rw [hh] at hw; cases hw
theorem thg_hs {f : Nat → List Op} {T : Nat → En} {b : Bool} {r h : Nat} {o : Option Nat} (hh : b = true → h + ndT T o ≤ 8) (ho : ∀ i, o = some i → b = true ∧ hs (f i) h = some (h + 1)) : hs (thg f b r o) h = some (h + if b then 1 else 0) := by
  cases o with
  | none => cases b with
    | false => rfl
    | true =>
      have : h + 1 ≤ 8 := hh rfl
      show hs [(nI 1, nI r)] h = _
      rw [hs_one (by omega)]
      unfold st
      rw [if_pos (by omega), if_pos (by omega)]
      rfl
  | some i => obtain ⟨h1, h2⟩ := ho i rfl; rw [h1]; exact h2
theorem tr_hs {κ : SS} {B : Nat → Bool} {A : Nat → Int32} {pl : Nat → Int32} {D n : Nat} (hc : Cn κ n) : ∀ j, j < n → ∀ h, h + (tT κ B A D n j).2.2.1 ≤ 8 → (wR κ j = true ∨ h = 0) → hs (tr κ pl (tT κ B A D n) j) h = some (h + if wR κ j then 1 else 0) := by
  have hD : Dn (tT κ B A D n) n := tT_Dn
  intro j
  induction j using Nat.strongRecOn with
  | _ j ih =>
    intro hj h hn hw
    rw [need_eq hj] at hn
    have h11 := (hc.2 j hj).2.1
    have hA : ∀ h0, (rA κ j = true → h0 + ndT (tT κ B A D n) (tT κ B A D n j).1 ≤ 8) → hs (thg (tr κ pl (tT κ B A D n)) (rA κ j) (aN κ j) (tT κ B A D n j).1) h0 = some (h0 + if rA κ j then 1 else 0) := by
      intro h0 hh
      refine thg_hs hh (fun i hi => ⟨fa_rA hj hi, ?_⟩)
      have hkw := kid_w hj (Or.inl hi)
      have hlt := (hD j hj).1 i hi
      have := ih i hlt (by omega) h0 (by have := hh (fa_rA hj hi); rw [hi] at this; exact this) (Or.inl hkw)
      rw [hkw] at this
      exact this
    have hB : ∀ h0, (rB κ j = true → h0 + ndT (tT κ B A D n) (tT κ B A D n j).2.1 ≤ 8) → hs (thg (tr κ pl (tT κ B A D n)) (rB κ j) (bN κ j) (tT κ B A D n j).2.1) h0 = some (h0 + if rB κ j then 1 else 0) := by
      intro h0 hh
      refine thg_hs hh (fun i hi => ⟨fb_rB hj hi, ?_⟩)
      have hkw := kid_w hj (Or.inr hi)
      have hlt := (hD j hj).2 i hi
      have := ih i hlt (by omega) h0 (by have := hh (fb_rB hj hi); rw [hi] at this; exact this) (Or.inl hkw)
      rw [hkw] at this
      exact this
    -- the things
    have hth : hs (if tb1 κ (tT κ B A D n) j then thg (tr κ pl (tT κ B A D n)) (rB κ j) (bN κ j) (tT κ B A D n j).2.1 ++ thg (tr κ pl (tT κ B A D n)) (rA κ j) (aN κ j) (tT κ B A D n j).1 else thg (tr κ pl (tT κ B A D n)) (rA κ j) (aN κ j) (tT κ B A D n j).1 ++ thg (tr κ pl (tT κ B A D n)) (rB κ j) (bN κ j) (tT κ B A D n j).2.1) h = some (h + (if rA κ j then 1 else 0) + if rB κ j then 1 else 0) := by
      unfold ndW at hn
      cases hrb : rB κ j with
      | false =>
        have htb : tb1 κ (tT κ B A D n) j = false := by unfold tb1; rw [hrb]; rfl
        rw [htb, if_neg (by simp)]
        rw [hrb] at hB
        rw [hs_to (hA h (fun hra => by rw [hra, hrb] at hn; simpa using hn)), hB _ (fun h => by cases h)]
      | true =>
        have hra := rB_rA hrb
        rw [hra, hrb] at hn
        simp only [Bool.true_eq_false, if_false] at hn
        rw [hra] at hA
        rw [hrb] at hB
        rw [hra]
        cases htb : tb1 κ (tT κ B A D n) j with
        | true =>
          have hlt : ndT (tT κ B A D n) (tT κ B A D n j).1 < ndT (tT κ B A D n) (tT κ B A D n j).2.1 := by
            unfold tb1 at htb; rw [hrb] at htb; simpa using htb
          rw [if_neg (by omega), Nat.max_eq_right (by omega)] at hn
          rw [if_pos rfl, hs_to (hB h (fun _ => by omega))]
          exact hA (h + 1) (fun _ => by omega)
        | false =>
          have hge : ¬ ndT (tT κ B A D n) (tT κ B A D n j).1 < ndT (tT κ B A D n) (tT κ B A D n j).2.1 := by
            unfold tb1 at htb; rw [hrb] at htb; simpa using htb
          rw [if_neg (by simp)]
          by_cases he : ndT (tT κ B A D n) (tT κ B A D n j).1 = ndT (tT κ B A D n) (tT κ B A D n j).2.1
          · rw [if_pos he] at hn
            rw [hs_to (hA h (fun _ => by omega))]
            exact hB (h + 1) (fun _ => by omega)
          · rw [if_neg he, Nat.max_eq_left (by omega)] at hn
            rw [hs_to (hA h (fun _ => by omega))]
            exact hB (h + 1) (fun _ => by omega)
    rw [tr_eq hD hj]
    unfold tbd
    rw [hs_to hth]
    have hsw : hs (if nsw κ (tT κ B A D n) j then [((4 : Int32), (0 : Int32))] else []) (h + (if rA κ j then 1 else 0) + if rB κ j then 1 else 0) = some (h + (if rA κ j then 1 else 0) + if rB κ j then 1 else 0) := by
      cases hs1 : nsw κ (tT κ B A D n) j with
      | false => rfl
      | true =>
        have hrb : rB κ j = true := by
          cases htb : tb1 κ (tT κ B A D n) j with
          | true => exact tb_rB htb
          | false => unfold nsw at hs1; rw [htb] at hs1; cases hs1
        rw [hrb, rB_rA hrb]
        show hs [(nI 4, 0)] (h + 1 + 1) = some (h + 1 + 1)
        rw [hs_one (by omega)]
        unfold st
        rw [if_neg (by omega), if_neg (by omega), if_pos rfl, if_pos (by omega)]
    rw [hs_to hsw]
    unfold own
    unfold ndW at hn
    rcases (show oN κ j = 0 ∨ oN κ j = 1 ∨ oN κ j = 2 ∨ oN κ j = 3 ∨ oN κ j = 4 ∨ oN κ j = 5 ∨ oN κ j = 6 ∨ oN κ j = 7 ∨ oN κ j = 8 ∨ oN κ j = 9 ∨ oN κ j = 10 ∨ oN κ j = 11 by omega) with ho | ho | ho | ho | ho | ho | ho | ho | ho | ho | ho | ho
    · have hra : rA κ j = false := by unfold rA; rw [ho]; rfl
      have hrb : rB κ j = false := by unfold rB; rw [ho]; rfl
      have hwr : wR κ j = true := by unfold wR; rw [ho]; rfl
      rw [hra, if_pos rfl, if_pos ho] at hn
      rw [hra, hrb, hwr, if_neg (by omega), ho]
      show hs [(nI 0, _)] (h + 0 + 0) = some (h + 1)
      rw [hs_one (by omega)]
      unfold st
      rw [if_pos (by omega), if_pos (by omega)]
    · have hra : rA κ j = true := by unfold rA; rw [ho]; rfl
      have hrb : rB κ j = false := by unfold rB; rw [ho]; rfl
      have hwr : wR κ j = true := by unfold wR; rw [ho]; rfl
      rw [hra, hrb, hwr, if_pos ho]
      rfl
    · have hra : rA κ j = true := by unfold rA; rw [ho]; rfl
      have hrb : rB κ j = true := by unfold rB; rw [ho]; rfl
      have hwr : wR κ j = true := by unfold wR; rw [ho]; rfl
      rw [hra, hrb, hwr, if_neg (by omega), ho]
      show hs [(nI 5, _)] (h + 1 + 1) = some (h + 1)
      rw [hs_one (by omega)]
      unfold st
      rw [if_neg (by omega), if_neg (by omega), if_neg (by omega), if_pos (by omega), if_pos (by omega)]
      rfl
    · have hra : rA κ j = true := by unfold rA; rw [ho]; rfl
      have hrb : rB κ j = true := by unfold rB; rw [ho]; rfl
      have hwr : wR κ j = true := by unfold wR; rw [ho]; rfl
      rw [hra, hrb, hwr, if_neg (by omega), ho]
      show hs [(nI 6, _)] (h + 1 + 1) = some (h + 1)
      rw [hs_one (by omega)]
      unfold st
      rw [if_neg (by omega), if_neg (by omega), if_neg (by omega), if_pos (by omega), if_pos (by omega)]
      rfl
    · have hra : rA κ j = true := by unfold rA; rw [ho]; rfl
      have hrb : rB κ j = true := by unfold rB; rw [ho]; rfl
      have hwr : wR κ j = true := by unfold wR; rw [ho]; rfl
      rw [hra, hrb, hwr, if_neg (by omega), ho]
      show hs [(nI 7, _)] (h + 1 + 1) = some (h + 1)
      rw [hs_one (by omega)]
      unfold st
      rw [if_neg (by omega), if_neg (by omega), if_neg (by omega), if_pos (by omega), if_pos (by omega)]
      rfl
    · have hra : rA κ j = true := by unfold rA; rw [ho]; rfl
      have hrb : rB κ j = true := by unfold rB; rw [ho]; rfl
      have hwr : wR κ j = true := by unfold wR; rw [ho]; rfl
      rw [hra, hrb, hwr, if_neg (by omega), ho]
      show hs [(nI 8, _)] (h + 1 + 1) = some (h + 1)
      rw [hs_one (by omega)]
      unfold st
      rw [if_neg (by omega), if_neg (by omega), if_neg (by omega), if_pos (by omega), if_pos (by omega)]
      rfl
    · have hra : rA κ j = true := by unfold rA; rw [ho]; rfl
      have hrb : rB κ j = false := by unfold rB; rw [ho]; rfl
      have hwr : wR κ j = true := by unfold wR; rw [ho]; rfl
      rw [hra, hrb, hwr, if_neg (by omega), ho]
      show hs [(nI 9, _)] (h + 1 + 0) = some (h + 1)
      rw [hs_one (by omega)]
      unfold st
      rw [if_neg (by omega), if_neg (by omega), if_neg (by omega), if_neg (by omega), if_pos rfl, if_pos (by omega)]
    · have hra : rA κ j = true := by unfold rA; rw [ho]; rfl
      have hrb : rB κ j = true := by unfold rB; rw [ho]; rfl
      have hwr : wR κ j = false := by unfold wR; rw [ho]; rfl
      have h0 : h = 0 := by rcases hw with hh | hh; exact absurd hh (by rw [hwr]; simp); exact hh
      rw [hra, hrb, hwr, if_neg (by omega), ho]
      show hs [(nI 10, _)] (h + 1 + 1) = some (h + 0)
      rw [hs_one (by omega)]
      unfold st
      rw [if_neg (by omega), if_neg (by omega), if_neg (by omega), if_neg (by omega), if_neg (by omega), if_pos rfl, if_pos (by omega)]
      rfl
    · have hra : rA κ j = true := by unfold rA; rw [ho]; rfl
      have hrb : rB κ j = false := by unfold rB; rw [ho]; rfl
      have hwr : wR κ j = false := by unfold wR; rw [ho]; rfl
      have h0 : h = 0 := by rcases hw with hh | hh; exact absurd hh (by rw [hwr]; simp); exact hh
      rw [hra, hrb, hwr, if_neg (by omega), ho]
      show hs [(nI 11, _)] (h + 1 + 0) = some (h + 0)
      rw [hs_one (by omega)]
      unfold st
      rw [if_neg (by omega), if_pos (by omega), if_pos (by omega)]
      rfl
    · have hra : rA κ j = false := by unfold rA; rw [ho]; rfl
      have hrb : rB κ j = false := by unfold rB; rw [ho]; rfl
      have hwr : wR κ j = false := by unfold wR; rw [ho]; rfl
      have h0 : h = 0 := by rcases hw with hh | hh; exact absurd hh (by rw [hwr]; simp); exact hh
      rw [hra, hrb, hwr, if_neg (by omega), ho]
      show hs [(nI 12, _)] (h + 0 + 0) = some (h + 0)
      rw [hs_one (by omega)]
      unfold st
      rw [if_neg (by omega), if_neg (by omega), if_neg (by omega), if_neg (by omega), if_neg (by omega), if_neg (by omega), if_pos rfl, if_pos (by omega)]
      rw [h0]
    · have hra : rA κ j = true := by unfold rA; rw [ho]; rfl
      have hrb : rB κ j = false := by unfold rB; rw [ho]; rfl
      have hwr : wR κ j = false := by unfold wR; rw [ho]; rfl
      have h0 : h = 0 := by rcases hw with hh | hh; exact absurd hh (by rw [hwr]; simp); exact hh
      rw [hra, hrb, hwr, if_neg (by omega), ho]
      show hs [(nI 13, _)] (h + 1 + 0) = some (h + 0)
      rw [hs_one (by omega)]
      unfold st
      rw [if_neg (by omega), if_neg (by omega), if_neg (by omega), if_neg (by omega), if_neg (by omega), if_neg (by omega), if_neg (by omega), if_pos rfl, if_pos (by omega)]
      rw [h0]
    · have hra : rA κ j = false := by unfold rA; rw [ho]; rfl
      have hrb : rB κ j = false := by unfold rB; rw [ho]; rfl
      have hwr : wR κ j = false := by unfold wR; rw [ho]; rfl
      have h0 : h = 0 := by rcases hw with hh | hh; exact absurd hh (by rw [hwr]; simp); exact hh
      rw [hra, hrb, hwr, if_neg (by omega), ho]
      show hs [(nI 14, _)] (h + 0 + 0) = some (h + 0)
      rw [hs_one (by omega)]
      unfold st
      rw [if_neg (by omega), if_neg (by omega), if_neg (by omega), if_neg (by omega), if_neg (by omega), if_neg (by omega), if_neg (by omega), if_neg (by omega)]
theorem nb8 {κ : SS} {B : Nat → Bool} {A : Nat → Int32} {D : Nat} (hD : D ≤ 8) (n j : Nat) : (tT κ B A D n j).2.2.1 ≤ 8 := nb hD n j
theorem blk_hs {κ : SS} {B : Nat → Bool} {A : Nat → Int32} {pl : Nat → Int32} {D n j : Nat} (hc : Cn κ n) (hD : D ≤ 8) (hj : j < n) (hcar : car (tT κ B A D n) n j = false) : hs (blk κ pl (tT κ B A D n) A n j) 0 = some 0 := by
  unfold blk
  rw [hs_to (tr_hs hc j hj 0 (by have := nb8 (κ := κ) (B := B) (A := A) hD n j; omega) (Or.inr rfl)), hcar]
  cases hw : wR κ j with
  | false => rfl
  | true =>
    show hs (endl κ A j) 1 = some 0
    unfold endl
    split
    · show hs [(nI 2, κ 1 j)] 1 = some 0; rw [hs_one (by omega)]; rfl
    · show hs [(nI 3, 0)] 1 = some 0; rw [hs_one (by omega)]; rfl
theorem cdl_hs {κ : SS} {B : Nat → Bool} {A : Nat → Int32} {pl : Nat → Int32} {D n : Nat} (hc : Cn κ n) (hD : D ≤ 8) : ∀ m, m ≤ n → hs (cdl κ pl (tT κ B A D n) A n m) 0 = some 0 := by
  intro m
  induction m with
  | zero => intro _; rfl
  | succ m ih =>
    intro hm
    show hs (cdl κ pl (tT κ B A D n) A n m ++ _) 0 = some 0
    rw [hs_to (ih (by omega))]
    cases hcar : car (tT κ B A D n) n m with
    | true => rfl
    | false => exact blk_hs hc hD (by omega) hcar
theorem cdl_pre {κ : SS} {pl : Nat → Int32} {T : Nat → En} {A : Nat → Int32} {n x : Nat} : ∀ m, x ≤ m → ∃ R, cdl κ pl T A n m = cdl κ pl T A n x ++ R := by
  intro m
  induction m with
  | zero => intro h; rw [show x = 0 by omega]; exact ⟨[], by rw [List.append_nil]⟩
  | succ m ih =>
    intro h
    by_cases e : x = m + 1
    · rw [e]; exact ⟨[], by rw [List.append_nil]⟩
    · obtain ⟨R, hR⟩ := ih (by omega)
      refine ⟨R ++ (if car T n m then [] else blk κ pl T A n m), ?_⟩
      show cdl κ pl T A n m ++ _ = _
      rw [hR, List.append_assoc]
/-- at a place where an instruction's code begins the stack is empty -/
theorem FC_at {κ : SS} {B : Nat → Bool} {A : Nat → Int32} {D n x : Nat} (hc : Cn κ n) (hD : D ≤ 8) (hx : x ≤ n) : hs ((FC κ (tT κ B A D n) A n).take (cum κ (tT κ B A D n) A n x)) 0 = some 0 := by
  unfold FC
  obtain ⟨R, hR⟩ := cdl_pre (κ := κ) (pl := PL κ (tT κ B A D n) A n) (T := tT κ B A D n) (A := A) (n := n) n hx
  rw [hR, List.append_assoc, ← cumPL (pl := PL κ (tT κ B A D n) A n) hx, List.take_left]
  exact cdl_hs hc hD x hx
theorem FC_all {κ : SS} {B : Nat → Bool} {A : Nat → Int32} {D n : Nat} (hc : Cn κ n) (hD : D ≤ 8) : hs (FC κ (tT κ B A D n) A n) 0 = some 0 := by
  unfold FC
  rw [hs_to (cdl_hs hc hD n (Nat.le_refl _))]
  show hs [(nI 14, 0)] 0 = some 0
  rw [hs_one (by omega)]
  rfl
theorem hs_take {l : List Op} {h h' : Nat} (hl : hs l h = some h') (p : Nat) (q : Op) (hq : l[p]? = some q) : ∃ a b, hs (l.take p) h = some a ∧ st q.1.toNatClampNeg a = some b ∧ hs (l.take (p + 1)) h = some b := by
  have hp : p < l.length := by
    apply Nat.not_le.mp
    intro hle
    rw [List.getElem?_eq_none hle] at hq
    cases hq
  have e1 : l = l.take p ++ (q :: l.drop (p + 1)) := by
    have h1 : l.drop p = q :: l.drop (p + 1) := by
      rw [List.drop_eq_getElem_cons hp]
      rw [List.getElem?_eq_getElem hp] at hq
      cases hq
      rfl
    rw [← h1, List.take_append_drop]
  have e2 : l.take (p + 1) = l.take p ++ [q] := by
    rw [List.take_succ, hq]; rfl
  rw [e1, hs_app] at hl
  cases ha : hs (l.take p) h with
  | none => rw [ha] at hl; cases hl
  | some a =>
    rw [ha, Option.bind_some] at hl
    have hl : (st q.1.toNatClampNeg a).bind (fun h' => hs (l.drop (p + 1)) h') = some h' := hl
    cases hb : st q.1.toNatClampNeg a with
    | none => rw [hb] at hl; cases hl
    | some b =>
      refine ⟨a, b, rfl, hb, ?_⟩
      rw [e2, hs_to ha]
      show (st q.1.toNatClampNeg a).bind (fun h' => hs [] h') = some b
      rw [hb]
      rfl
