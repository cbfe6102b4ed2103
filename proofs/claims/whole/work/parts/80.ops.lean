/-! what is still wanting -/
theorem op_motion (j : Nat) (σ τ : HS) (a1 a2 a3 : Int32) (hI : Inv j σ τ) (hj : j < 512) : ∃ (r : Int32) (σ1 τ1 : HS), f8_motion a1 a2 a3 σ = some (r, σ1) ∧ f9_motion a1 a2 a3 τ = some (r, τ1) ∧ Inv (j + 1) σ1 τ1 := sorry
