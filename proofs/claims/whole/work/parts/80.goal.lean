/-! What is left: the law's run of the abstract machine. -/
def pt_M0 : pt_M := (fun _ _ _ => 0, fun _ _ _ => 0, fun _ _ _ => none, fun _ => 0)
theorem pt_goal (L : Nat) (xs : Nat → Int32) (hL : L ≤ 3072) : ∃ μ' : pt_M, pt_Ev 179 (some (L, xs)) 0 (pt_ent 9 [vX true]) [] pt_M0 (.inl (some (.inl 1)), μ') ∧ pt_sz μ' ≤ 601024 ∧ pt_sn μ' ≤ 7293034 := sorry
