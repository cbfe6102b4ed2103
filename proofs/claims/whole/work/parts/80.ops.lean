def Inv (j : Nat) (σ τ : HS) : Prop := sorry
theorem inv_mono {j : Nat} {σ τ : HS} (h : Inv j σ τ) : Inv (j + 1) σ τ := sorry
theorem inv_start : Inv 0 sC0 sM0 := sorry
/-! what is wanted of the two classes, call by call -/
theorem op_council (j : Nat) (σ τ : HS) (a1 a2 a3 a4 : Int32) (hI : Inv j σ τ) (hj : j < 512) : ∃ (r : Int32) (σ1 τ1 : HS), f8_council a1 a2 a3 a4 σ = some (r, σ1) ∧ f9_council a1 a2 a3 a4 τ = some (r, τ1) ∧ Inv (j + 1) σ1 τ1 := sorry
theorem op_ofSpeaker (j : Nat) (σ τ : HS) (a1 a2 : Int32) (hI : Inv j σ τ) (hj : j < 512) : ∃ (r : Int32) (σ1 τ1 : HS), f8_ofSpeaker a1 a2 σ = some (r, σ1) ∧ f9_ofSpeaker a1 a2 τ = some (r, τ1) ∧ Inv (j + 1) σ1 τ1 := sorry
theorem op_ofWord (j : Nat) (σ τ : HS) (a1 a2 a3 : Int32) (hI : Inv j σ τ) (hj : j < 512) : ∃ (r : Int32) (σ1 τ1 : HS), f8_ofWord a1 a2 a3 σ = some (r, σ1) ∧ f9_ofWord a1 a2 a3 τ = some (r, τ1) ∧ Inv (j + 1) σ1 τ1 := sorry
theorem op_law (j : Nat) (σ τ : HS) (a1 : Int32) (hI : Inv j σ τ) (hj : j < 512) : ∃ (r : Int32) (σ1 τ1 : HS), f8_law a1 σ = some (r, σ1) ∧ f9_law a1 τ = some (r, τ1) ∧ Inv (j + 1) σ1 τ1 := sorry
theorem op_swap (j : Nat) (σ τ : HS) (a1 a2 : Int32) (hI : Inv j σ τ) (hj : j < 512) : ∃ (r : Int32) (σ1 τ1 : HS), f8_swap a1 a2 σ = some (r, σ1) ∧ f9_swap a1 a2 τ = some (r, τ1) ∧ Inv (j + 1) σ1 τ1 := sorry
theorem op_judge (j : Nat) (σ τ : HS) (a1 a2 a3 a4 a5 : Int32) (hI : Inv j σ τ) (hj : j < 512) : ∃ (r : Int32) (σ1 τ1 : HS), f8_judge a1 a2 a3 a4 a5 σ = some (r, σ1) ∧ f9_judge a1 a2 a3 a4 a5 τ = some (r, τ1) ∧ Inv (j + 1) σ1 τ1 := sorry
theorem op_worthOf (j : Nat) (σ τ : HS) (a1 a2 a3 a4 a5 : Int32) (hI : Inv j σ τ) (hj : j < 512) : ∃ (r : Int32) (σ1 τ1 : HS), f8_worthOf a1 a2 a3 a4 a5 σ = some (r, σ1) ∧ f9_worthOf a1 a2 a3 a4 a5 τ = some (r, τ1) ∧ Inv (j + 1) σ1 τ1 := sorry
theorem op_choice (j : Nat) (σ τ : HS) (a1 a2 : Int32) (hI : Inv j σ τ) (hj : j < 512) : ∃ (r : Int32) (σ1 τ1 : HS), f8_choice a1 a2 σ = some (r, σ1) ∧ f9_choice a1 a2 τ = some (r, τ1) ∧ Inv (j + 1) σ1 τ1 := sorry
theorem op_says (j : Nat) (σ τ : HS) (a1 : Int32) (hI : Inv j σ τ) (hj : j < 512) : ∃ (r : Int32) (σ1 τ1 : HS), f8_says a1 σ = some (r, σ1) ∧ f9_says a1 τ = some (r, τ1) ∧ Inv (j + 1) σ1 τ1 := sorry
theorem op_water (j : Nat) (σ τ : HS) (a1 : Int32) (hI : Inv j σ τ) (hj : j < 512) : ∃ (r : Int32) (σ1 τ1 : HS), f8_water a1 σ = some (r, σ1) ∧ f9_water a1 τ = some (r, τ1) ∧ Inv (j + 1) σ1 τ1 := sorry
theorem op_worth (j : Nat) (σ τ : HS) (a1 : Int32) (hI : Inv j σ τ) (hj : j < 512) : ∃ (r : Int32) (σ1 τ1 : HS), f8_worth a1 σ = some (r, σ1) ∧ f9_worth a1 τ = some (r, τ1) ∧ Inv (j + 1) σ1 τ1 := sorry
theorem op_together (j : Nat) (σ τ : HS) (a1 : Int32) (hI : Inv j σ τ) (hj : j < 512) : ∃ (r : Int32) (σ1 τ1 : HS), f8_together a1 σ = some (r, σ1) ∧ f9_together a1 τ = some (r, τ1) ∧ Inv (j + 1) σ1 τ1 := sorry
theorem op_owed (j : Nat) (σ τ : HS) (a1 a2 : Int32) (hI : Inv j σ τ) (hj : j < 512) : ∃ (r : Int64) (σ1 τ1 : HS), f8_owed a1 a2 σ = some (r, σ1) ∧ f9_owed a1 a2 τ = some (r, τ1) ∧ Inv (j + 1) σ1 τ1 := sorry
theorem op_bargain (j : Nat) (σ τ : HS) (a1 a2 : Int32) (hI : Inv j σ τ) (hj : j < 512) : ∃ (r : Int64) (σ1 τ1 : HS), f8_bargain a1 a2 σ = some (r, σ1) ∧ f9_bargain a1 a2 τ = some (r, τ1) ∧ Inv (j + 1) σ1 τ1 := sorry
theorem op_motion (j : Nat) (σ τ : HS) (a1 a2 a3 : Int32) (hI : Inv j σ τ) (hj : j < 512) : ∃ (r : Int32) (σ1 τ1 : HS), f8_motion a1 a2 a3 σ = some (r, σ1) ∧ f9_motion a1 a2 a3 τ = some (r, τ1) ∧ Inv (j + 1) σ1 τ1 := sorry
theorem op_dry (j : Nat) (σ τ : HS) (a1 a2 : Int32) (hI : Inv j σ τ) (hj : j < 512) : ∃ (r : Int32) (σ1 τ1 : HS), f8_dry a1 a2 σ = some (r, σ1) ∧ f9_dry a1 a2 τ = some (r, τ1) ∧ Inv (j + 1) σ1 τ1 := sorry
theorem op_day (j : Nat) (σ τ : HS) (a1 a2 a3 a4 : Int32) (hI : Inv j σ τ) (hj : j < 512) : ∃ (r : Int32) (σ1 τ1 : HS), f8_day a1 a2 a3 a4 σ = some (r, σ1) ∧ f9_day a1 a2 a3 a4 τ = some (r, τ1) ∧ Inv (j + 1) σ1 τ1 := sorry
theorem op_back (j : Nat) (σ τ : HS) (a1 : Int32) (hI : Inv j σ τ) (hj : j < 512) : ∃ (r : Int32) (σ1 τ1 : HS), f8_back a1 σ = some (r, σ1) ∧ f9_back a1 τ = some (r, τ1) ∧ Inv (j + 1) σ1 τ1 := sorry
theorem op_guess (j : Nat) (σ τ : HS) (a1 : Int32) (hI : Inv j σ τ) (hj : j < 512) : ∃ (r : Int32) (σ1 τ1 : HS), f8_guess a1 σ = some (r, σ1) ∧ f9_guess a1 τ = some (r, τ1) ∧ Inv (j + 1) σ1 τ1 := sorry
theorem op_byLaw (j : Nat) (σ τ : HS) (a1 : Int32) (hI : Inv j σ τ) (hj : j < 512) : ∃ (r : Int32) (σ1 τ1 : HS), f8_byLaw a1 σ = some (r, σ1) ∧ f9_byLaw a1 τ = some (r, τ1) ∧ Inv (j + 1) σ1 τ1 := sorry
theorem op_share (j : Nat) (σ τ : HS) (a1 a2 : Int32) (hI : Inv j σ τ) (hj : j < 512) : ∃ (r : Int64) (σ1 τ1 : HS), f8_share a1 a2 σ = some (r, σ1) ∧ f9_share a1 a2 τ = some (r, τ1) ∧ Inv (j + 1) σ1 τ1 := sorry
theorem op_sheet (j : Nat) (σ τ : HS) (a1 a2 a3 : Int32) (hI : Inv j σ τ) (hj : j < 512) : ∃ (r : Int32) (σ1 τ1 : HS), f8_sheet a1 a2 a3 σ = some (r, σ1) ∧ f9_sheet a1 a2 a3 τ = some (r, τ1) ∧ Inv (j + 1) σ1 τ1 := sorry
theorem op_lose (j : Nat) (σ τ : HS) (a1 : Int32) (hI : Inv j σ τ) (hj : j < 512) : ∃ (r : Int32) (σ1 τ1 : HS), f8_lose a1 σ = some (r, σ1) ∧ f9_lose a1 τ = some (r, τ1) ∧ Inv (j + 1) σ1 τ1 := sorry
theorem op_put (j : Nat) (σ τ : HS) (a1 a2 a3 : Int32) (hI : Inv j σ τ) (hj : j < 512) : ∃ (r : Int32) (σ1 τ1 : HS), f8_put a1 a2 a3 σ = some (r, σ1) ∧ f9_put a1 a2 a3 τ = some (r, τ1) ∧ Inv (j + 1) σ1 τ1 := sorry
theorem op_cell (j : Nat) (σ τ : HS) (a1 a2 a3 : Int32) (hI : Inv j σ τ) (hj : j < 512) : ∃ (r : Int64) (σ1 τ1 : HS), f8_cell a1 a2 a3 σ = some (r, σ1) ∧ f9_cell a1 a2 a3 τ = some (r, τ1) ∧ Inv (j + 1) σ1 τ1 := sorry
theorem op_copy (j : Nat) (σ τ : HS) (a1 a2 a3 a4 a5 : Int32) (hI : Inv j σ τ) (hj : j < 512) : ∃ (r : Int32) (σ1 τ1 : HS), f8_copy a1 a2 a3 a4 a5 σ = some (r, σ1) ∧ f9_copy a1 a2 a3 a4 a5 τ = some (r, τ1) ∧ Inv (j + 1) σ1 τ1 := sorry
theorem op_tell (j : Nat) (σ τ : HS) (a1 : Int32) (hI : Inv j σ τ) (hj : j < 512) : ∃ (r : Int32) (σ1 τ1 : HS), f8_tell a1 σ = some (r, σ1) ∧ f9_tell a1 τ = some (r, τ1) ∧ Inv (j + 1) σ1 τ1 := sorry
theorem op_call (j : Nat) (σ τ : HS) (a1 : Int32) (hI : Inv j σ τ) (hj : j < 512) : ∃ (r : Int32) (σ1 τ1 : HS), f8_call a1 σ = some (r, σ1) ∧ f9_call a1 τ = some (r, τ1) ∧ Inv (j + 1) σ1 τ1 := sorry
theorem op_as (j : Nat) (σ τ : HS) (a1 a2 : Int32) (hI : Inv j σ τ) (hj : j < 512) : ∃ (r : Int32) (σ1 τ1 : HS), f8_as a1 a2 σ = some (r, σ1) ∧ f9_as a1 a2 τ = some (r, τ1) ∧ Inv (j + 1) σ1 τ1 := sorry
theorem op_trace (j : Nat) (σ τ : HS) (hI : Inv j σ τ) (hj : j < 512) : ∃ (r : Int32) (σ1 τ1 : HS), f8_trace σ = some (r, σ1) ∧ f9_trace τ = some (r, τ1) ∧ Inv (j + 1) σ1 τ1 := sorry
theorem op_fault (j : Nat) (σ τ : HS) (hI : Inv j σ τ) (hj : j < 512) : ∃ (r : Int32) (σ1 τ1 : HS), f8_fault σ = some (r, σ1) ∧ f9_fault τ = some (r, τ1) ∧ Inv (j + 1) σ1 τ1 := sorry
theorem op_many (j : Nat) (σ τ : HS) (a1 : Int32) (hI : Inv j σ τ) (hj : j < 512) : ∃ (r : Int32) (σ1 τ1 : HS), f8_many a1 σ = some (r, σ1) ∧ f9_many a1 τ = some (r, τ1) ∧ Inv (j + 1) σ1 τ1 := sorry
