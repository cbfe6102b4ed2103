/-! loops; places of speakers -/
theorem wl_inv {P ρ : Type} {body : (P → Option ρ) → P → Option ρ} (I : P → Prop) (μ : P → Nat) (Q : ρ → Prop) (hb : ∀ k p, I p → (∀ p', I p' → μ p' < μ p → ∃ r, k p' = some r ∧ Q r) → ∃ r, body k p = some r ∧ Q r) : ∀ n p, I p → μ p < n → ∃ r, wloop body n p = some r ∧ Q r := by
  intro n
  induction n with
  | zero => intro p _ h; omega
  | succ n ih =>
    intro p hI hm
    exact hb (wloop body n) p hI (fun p' h1 h2 => ih p' h1 (by omega))
theorem wl_fuel {P ρ : Type} {body : (P → Option ρ) → P → Option ρ} (I : P → Prop) (μ : P → Nat) (Q : ρ → Prop) (p : P) (hI : I p) (hm : μ p < 1000000) (hb : ∀ k p, I p → (∀ p', I p' → μ p' < μ p → ∃ r, k p' = some r ∧ Q r) → ∃ r, body k p = some r ∧ Q r) : ∃ r, wloop body fuelN p = some r ∧ Q r :=
  wl_inv I μ Q hb fuelN p hI (Nat.lt_of_lt_of_le hm fuelN_ge)
/-- a loop with a known answer -/
theorem wl_eq {P ρ : Type} {body : (P → Option ρ) → P → Option ρ} (I : P → Prop) (μ : P → Nat) (v : ρ) (p : P) (hI : I p) (hm : μ p < 1000000) (hb : ∀ k p, I p → (∀ p', I p' → μ p' < μ p → k p' = some v) → body k p = some v) : wloop body fuelN p = some v := by
  obtain ⟨r, h1, h2⟩ := wl_fuel I μ (fun r => r = v) p hI hm (fun k p h1 h2 => ⟨v, hb k p h1 (fun p' a b => by obtain ⟨r, e, f⟩ := h2 p' a b; rw [e, f]), rfl⟩)
  rw [h1, h2]
theorem onto : ∀ (n : Nat) (f : Nat → Nat), (∀ i, i < n → f i < n) → (∀ i j, i < n → j < n → f i = f j → i = j) → ∀ y, y < n → ∃ i, i < n ∧ f i = y := by
  intro n
  induction n with
  | zero => intro f _ _ y hy; omega
  | succ n ih =>
    intro f h1 h2 y hy
    have key := ih (fun i => if f i = n then f n else f i) (by
      intro i hi
      have a1 := h1 i (by omega)
      have a2 := h1 n (by omega)
      have a3 : f n ≠ f i := fun e => by have := h2 n i (by omega) (by omega) e; omega
      show (if f i = n then f n else f i) < n
      split <;> omega) (by
      intro i j hi hj e
      have e : (if f i = n then f n else f i) = (if f j = n then f n else f j) := e
      have b1 : f n ≠ f i := fun e => by have := h2 n i (by omega) (by omega) e; omega
      have b2 : f n ≠ f j := fun e => by have := h2 n j (by omega) (by omega) e; omega
      apply h2 i j (by omega) (by omega)
      split at e <;> split at e <;> omega)
    by_cases ya : y = f n
    · exact ⟨n, by omega, ya.symm⟩
    · by_cases yn : y = n
      · have a2 := h1 n (by omega)
        obtain ⟨i, hi, e⟩ := key (f n) (by omega)
        have e : (if f i = n then f n else f i) = f n := e
        split at e
        · next c => exact ⟨i, by omega, by omega⟩
        · have := h2 i n (by omega) (by omega) e; omega
      · obtain ⟨i, hi, e⟩ := key y (by omega)
        have e : (if f i = n then f n else f i) = y := e
        split at e
        · omega
        · exact ⟨i, by omega, e⟩
theorem whoAt_g {σ : HS} {g p : Nat} {P : PP} {C : CC} (hc : RepC σ g P C) (w : WfP P) (hp : p < pn P) : f0_whoAt g (nI p) σ = some (nI (co C p), σ) := by
  have h5 := w.1
  unfold f0_whoAt
  rw [at_in (by omega) (by omega), bd_s, hc.2.2 p hp]
theorem place_ex {P : PP} {C : CC} (wc : WfC P C) {k : Nat} (hk : k < pn P) : ∃ p, p < pn P ∧ co C p = k := onto (pn P) (co C) wc.2.2.2.1 wc.2.2.2.2 k hk
theorem placeOf_c {σ : HS} {P : PP} {C : CC} (h : RepP σ P) (hc : RepC σ 20 P C) (w : WfP P) (wc : WfC P C) {k p : Nat} (hp : p < pn P) (e : co C p = k) : f0_placeOf (nI k) σ = some (nI p, σ) := by
  have h5 := w.1
  unfold f0_placeOf f0_placeOf_2
  refine wl_eq (fun q => ∃ i, i ≤ p ∧ q = (nI i, σ)) (fun q => 10 - q.1.toNatClampNeg) _ _ ⟨0, by omega, rfl⟩ (by show 10 - _ < _; omega) ?_
  rintro k2 _ ⟨i, hi, rfl⟩ ih
  unfold f0_placeOf_2_b
  have hk : k < pn P := e ▸ wc.2.2.2.1 p hp
  have hci := wc.2.2.2.1 i (by omega)
  rw [h.1, if_neg (nI_ge (by omega) (by omega)), if_neg (show ¬ (5 : Int32) ≤ nI i from nI_ge (a := i) (b := 5) (by omega) (by omega)), whoAt_g hc w (by omega), bd_s]
  by_cases c : co C i = k
  · rw [if_pos (by rw [c]), wc.2.2.2.2 i p (by omega) hp (by omega)]
  · rw [if_neg (fun z => c ((nIe (by omega) (by omega)).mp z)), nI_1]
    refine ih _ ⟨i + 1, ?_, rfl⟩ ?_
    · rcases Nat.lt_or_ge i p with q | q
      · omega
      · exact absurd (by rw [show i = p by omega]; exact e) c
    · show 10 - (nI (i + 1)).toNatClampNeg < 10 - (nI i).toNatClampNeg
      rw [nI_clamp (by omega), nI_clamp (by omega)]; omega
theorem placeOf_m {τ : HS} {P : PP} {C : CC} (h : RepM τ P C) (w : WfP P) (wc : WfC P C) {k p : Nat} (hp : p < pn P) (e : co C p = k) : f9_placeOf (nI k) τ = some (nI p, τ) := by
  have h5 := w.1
  have hk : k < pn P := e ▸ wc.2.2.2.1 p hp
  unfold f9_placeOf f9_placeOf_4
  refine wl_eq (fun q => ∃ i, i ≤ pn P ∧ q = (nI (if p < i then p else 0), nI i, τ)) (fun q => 10 - q.2.1.toNatClampNeg) _ _ ⟨0, by omega, by rw [if_neg (by omega)]; rfl⟩ (by show 10 - _ < _; omega) ?_
  rintro k2 _ ⟨i, hi, rfl⟩ ih
  unfold f9_placeOf_4_b f9_placeOf_27
  show (if τ.1 0 1 ≤ nI i then _ else _) = _
  rw [h.1]
  by_cases c0 : pn P ≤ i
  · rw [if_pos (nI_le c0 (by omega)), if_pos (by omega)]
  · rw [if_neg (nI_ge (by omega) (by omega)), ix_in (by omega) (by omega), nI_clamp (by omega), h.2.2.2.2.2 i (by omega), nI_1]
    have hci := wc.2.2.2.1 i (by omega)
    have step : ∀ z : Nat, z = (if p < i + 1 then p else 0) → k2 (nI z, nI (i + 1), τ) = some (nI p, τ) := by
      rintro z rfl
      refine ih _ ⟨i + 1, by omega, rfl⟩ ?_
      show 10 - (nI (i + 1)).toNatClampNeg < 10 - (nI i).toNatClampNeg
      rw [nI_clamp (by omega), nI_clamp (by omega)]; omega
    by_cases c : co C i = k
    · have := wc.2.2.2.2 i p (by omega) hp (by omega)
      rw [if_pos (by rw [c])]
      exact step i (by rw [if_pos (by omega)]; exact this)
    · rw [if_neg (fun z => c ((nIe (by omega) (by omega)).mp z))]
      refine step _ ?_
      have : i ≠ p := fun z => c (z ▸ e)
      by_cases q : p < i
      · rw [if_pos q, if_pos (by omega)]
      · rw [if_neg q, if_neg (by omega)]
