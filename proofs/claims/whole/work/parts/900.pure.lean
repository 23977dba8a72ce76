theorem rr_ex : ∃ RR : SS → SS → Prop, RS RR ∧ ∀ x : Int32, RR (s0C x) (s0M x) := sorry
