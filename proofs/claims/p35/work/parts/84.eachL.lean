/-! his words dry, all of them; all speakers -/
theorem dryQ {sL : Nat} {a0 : Nat → Int32} (k85 : (Nat → Int32) × Int32 × HS × Nat → Option Int32) (k562 : Int32 × HS × Nat → Option Int32) (k961 : Int32 × HS × Nat → Option Int32) {a2 a3 : Nat → Int32} {x5 x9 : Int32} {a11 a12 a13 : Nat → Int32} {σ τ : HS} {g j : Nat} {P : PP} {C : CC} {k q : Nat} (hL : LwA a2 a3 P C) (hB : PB j σ τ P C) (hS : LwS a11 a12 P (freeSaid P C) (turnsN P C)) (hk : k < pn P) (hq : q < pw P k) (hg : g + 20 < 80000)
    (hK : ∀ σ' g', PB j σ' τ P C → g' ≤ g + 20 → k961 (nI (q + 1), σ', g') = some 1) :
    g_law_979 sL a0 k85 k562 k961 a2 a3 (nI (pn P)) x5 x9 (nI (turnsN P C)) a11 a12 a13 (nI k) (nI q) σ (0, 0, g) = some 1 := by
  have h2 := hL.1
  have h4 := hL.2.1
  have ho := hL.2.2.2.2.2.2.2
  obtain ⟨w, wc, rp0, -⟩ := id hB.1
  obtain ⟨b, hb⟩ : ∃ b : Nat → Bool, ∀ k3, b k3 = true ↔ (k3 ≠ k ∧ ∃ p, p < pn P ∧ co C p = k3 ∧ Silences P C p k q k3 (pw P k3)) := ⟨fun k3 => @decide _ (Classical.propDecidable (k3 ≠ k ∧ ∃ p, p < pn P ∧ co C p = k3 ∧ Silences P C p k q k3 (pw P k3))), fun k3 => @decide_eq_true_iff _ (Classical.propDecidable _)⟩
  unfold g_law_979
  refine wl_to (fun s : Int32 × Int32 × Nat => ∃ k3, k3 ≤ pn P ∧ s.2.1 = nI k3 ∧ s.1 = maskN b k3 ∧ s.2.2 ≤ g + 5 * k3) (fun s => 10 - s.2.1.toNatClampNeg) _ _ ⟨0, by omega, rfl, rfl, Nat.le_refl _⟩ (by show 10 - _ < _; omega) ?_
  rintro k979 ⟨x29, x30, g1⟩ ⟨k3, hk3, e1, e2, e3⟩ ih
  have e1 : x30 = nI k3 := e1
  have e2 : x29 = maskN b k3 := e2
  subst e1 e2
  have e3 : g1 ≤ g + 5 * k3 := e3
  dsimp only
  unfold g_law_979_b
  by_cases c : pn P ≤ k3
  · have : k3 = pn P := by omega
    subst this
    obtain ⟨σ2, d1, d2⟩ := dry_p hB hk hq hb
    rw [if_pos (nI_le c (by omega)), d1, bd_s, if_pos rfl, nI_1]
    exact hK σ2 g1 d2 (by omega)
  · rw [if_neg (nI_ge (by omega) (by omega))]
    obtain ⟨p, hp, ep⟩ := place_ex wc (k := k3) (by omega)
    unfold g_law_989
    refine wl_to (fun s : Int32 => ∃ i, i ≤ p ∧ s = nI i) (fun s => 10 - s.toNatClampNeg) _ _ ⟨0, by omega, rfl⟩ (by show 10 - _ < _; omega) ?_
    rintro k989 _ ⟨i, hi, rfl⟩ ih2
    unfold g_law_989_b
    rw [le14, ix_in (by omega) (by omega), nI_clamp (by omega), ho i (by omega)]
    have ci := wc.2.2.2.1 i (by omega)
    by_cases cp : co C i = k3
    · have : i = p := wc.2.2.2.2 i p (by omega) hp (cp.trans ep.symm)
      subst this
      rw [if_pos (by rw [cp])]
      refine dryL k85 k562 k961 k979 (b := b) hL w wc hS hk hq (by omega) hp ep (by omega) ?_ (fun g' hg' => ?_)
      · rw [hb]
        refine ⟨fun ⟨h1, p', h3, h5, h6⟩ => ⟨h1, ?_⟩, fun ⟨h1, h3⟩ => ⟨h1, i, hp, ep, h3⟩⟩
        have : p' = i := wc.2.2.2.2 p' i h3 hp (h5.trans ep.symm)
        rw [this] at h6; exact h6
      · rw [nI_1]
        refine ih _ ⟨k3 + 1, by omega, rfl, rfl, ?_⟩ ?_
        · show g' ≤ _; omega
        · show 10 - (nI (k3 + 1)).toNatClampNeg < 10 - (nI k3).toNatClampNeg
          rw [nI_clamp (by omega), nI_clamp (by omega)]; omega
    · rw [if_neg (fun z => cp ((nIc (by omega) (by omega)).mp z)), nI_1]
      refine ih2 _ ⟨i + 1, ?_, rfl⟩ ?_
      · refine Nat.lt_of_le_of_ne hi (fun z => cp ?_)
        rw [z]; exact ep
      · show 10 - (nI (i + 1)).toNatClampNeg < 10 - (nI i).toNatClampNeg
        rw [nI_clamp (by omega), nI_clamp (by omega)]; omega
theorem dryA {sL : Nat} {a0 : Nat → Int32} (k85 : (Nat → Int32) × Int32 × HS × Nat → Option Int32) (k562 : Int32 × HS × Nat → Option Int32) {a2 a3 : Nat → Int32} {x5 x9 : Int32} {a11 a12 a13 : Nat → Int32} {σ τ : HS} {g j : Nat} {P : PP} {C : CC} {k : Nat} (hL : LwA a2 a3 P C) (hB : PB j σ τ P C) (hS : LwS a11 a12 P (freeSaid P C) (turnsN P C)) (hk : k < pn P) (hg : g + 60 < 80000)
    (hK : ∀ σ' g', PB j σ' τ P C → g' ≤ g + 60 → k562 (nI (k + 1), σ', g') = some 1) :
    g_law_961 sL a0 k85 k562 a2 a3 (nI (pn P)) x5 x9 (nI (turnsN P C)) a11 a12 a13 (nI k) (0, σ, g) = some 1 := by
  have h4 := hL.2.1
  have hw := (hL.2.2.2.2.2.2.1 k hk).1
  obtain ⟨w, wc, rp0, -⟩ := id hB.1
  have w3 := (w.2.2.2 k hk).2.2.1
  unfold g_law_961
  refine wl_to (fun s : Int32 × HS × Nat => ∃ q, q ≤ pw P k ∧ s.1 = nI q ∧ PB j s.2.1 τ P C ∧ s.2.2 ≤ g + 20 * q) (fun s => 10 - s.1.toNatClampNeg) _ _ ⟨0, by omega, rfl, hB, Nat.le_refl _⟩ (by show 10 - _ < _; omega) ?_
  rintro k961 ⟨x28, σ1, g1⟩ ⟨q, hq, e1, e2, e3⟩ ih
  have e1 : x28 = nI q := e1
  subst e1
  have e2 : PB j σ1 τ P C := e2
  have e3 : g1 ≤ g + 20 * q := e3
  dsimp only
  unfold g_law_961_b
  rw [le9, ix_in (by omega) (by omega), nI_clamp (by omega), hw]
  by_cases c : pw P k ≤ q
  · have rp : RepP σ1 P := e2.1.2.2.1
    rw [if_pos (nI_le c (by omega)), ixc (by omega) (by omega), dry_n rp w hk (Nat.le_refl _) (by omega), bd_s, if_pos rfl, nI_1]
    exact hK σ1 g1 e2 (by omega)
  · rw [if_neg (nI_ge (by omega) (by omega))]
    refine dryQ k85 k562 k961 hL e2 hS hk (by omega) (by omega) (fun σ' g' h1 h3 => ?_)
    refine ih _ ⟨q + 1, by omega, rfl, h1, ?_⟩ ?_
    · show g' ≤ _; omega
    · show 10 - (nI (q + 1)).toNatClampNeg < 10 - (nI q).toNatClampNeg
      rw [nI_clamp (by omega), nI_clamp (by omega)]; omega
/-- all speakers -/
theorem eachL {sL : Nat} {a0 : Nat → Int32} (hsL : sL ≤ 260) (k85 : (Nat → Int32) × Int32 × HS × Nat → Option Int32) {a2 a3 a11 a12 a13 : Nat → Int32} {X : Nat} {σ τ : HS} {g j : Nat} {P : PP} {C : CC}
    (hX : X < 1000) (hL : LwA a2 a3 P C) (hB : PB j σ τ P C) (hS : LwS a11 a12 P (freeSaid P C) (turnsN P C)) (h13 : DayO a13 P C (freeSaid P C) (turnsN P C)) (hF : ShF τ) (h29 : τ.1 0 29 = 0) (hj : j + 50 < 512) (hg : g + 820 < 80000)
    (hK : ∀ a2' τ' σ' g' j' C', InvB j' σ' τ' P C' → LwA a2' a3 P C' → ShF τ' → cl C' = cl C → j' ≤ j + 50 → g' ≤ g + 820 → k85 (a2', nI X + 1, σ', g') = some 1) :
    g_law_562 sL a0 k85 a2 a3 (nI (pn P)) (nI X) (nI (cw C)) (nI (turnsN P C)) a11 a12 a13 (0, σ, g) = some 1 := by
  have h4 := hL.2.1
  have ho := hL.2.2.2.2.2.2.2
  obtain ⟨w, wc, -⟩ := id hB.1
  have w99 := w.2.1
  obtain ⟨tb1, tb2⟩ := turnsB hL
  unfold g_law_562
  refine wl_to (fun s : Int32 × HS × Nat => ∃ k, k ≤ pn P ∧ s.1 = nI k ∧ PB j s.2.1 τ P C ∧ s.2.2 ≤ g + 70 * k) (fun s => 10 - s.1.toNatClampNeg) _ _ ⟨0, by omega, rfl, hB, Nat.le_refl _⟩ (by show 10 - _ < _; omega) ?_
  rintro k562 ⟨x17, σ1, g1⟩ ⟨k, hk, e1, e2, e3⟩ ih
  have e1 : x17 = nI k := e1
  subst e1
  have e2 : PB j σ1 τ P C := e2
  have e3 : g1 ≤ g + 70 * k := e3
  dsimp only
  unfold g_law_562_b
  by_cases c : pn P ≤ k
  · rw [if_pos (nI_le c (by omega))]
    exact bestL hsL k85 hX hL e2.1 hF h29 h13.1 hj (by omega) (fun a2' τ' σ' g' j' C' z1 z2 z3 z4 z5 z6 => hK a2' τ' σ' g' j' C' z1 z2 z3 z4 z5 (by omega))
  · rw [if_neg (nI_ge (by omega) (by omega))]
    have hkn : k < pn P := by omega
    obtain ⟨p, hp, ep⟩ := place_ex wc hkn
    have hw := (hL.2.2.2.2.2.2.1 k hkn).1
    obtain ⟨-, w1, w3, -⟩ := w.2.2.2 k hkn
    unfold g_law_572
    refine wl_to (fun s : Int32 => ∃ i, i ≤ p ∧ s = nI i) (fun s => 10 - s.toNatClampNeg) _ _ ⟨0, by omega, rfl⟩ (by show 10 - _ < _; omega) ?_
    rintro k572 _ ⟨i, hi, rfl⟩ ih2
    unfold g_law_572_b
    rw [le14, ix_in (by omega) (by omega), nI_clamp (by omega), ho i (by omega)]
    have ci := wc.2.2.2.1 i (by omega)
    by_cases cp : co C i = k
    · have : i = p := wc.2.2.2.2 i p (by omega) hp (cp.trans ep.symm)
      subst this
      have fx : freeX P C i ≤ pj P := (dok w wc (free_ok w wc) i (by omega)).1
      have e13 : a13 (12 + i) = nI (freeX P C i) := (h13.2 i (by omega)).2
      have lo := longest_ok (P := P) (X := freeX P C i) hp ep
      rw [(place_turn (C := C) hp).2, ep] at lo
      rw [if_pos (by rw [cp]), le12, ix_in (by omega) (by omega), le9, ix_in (by omega) (by omega), nI_clamp (by omega), nI_clamp (by omega), e13, hw]
      refine longL k85 k562 hL w hkn (by omega) ?_
      refine awayL k85 k562 hL w wc hS h13 hkn hp ep lo (by omega) (fun a22 a23 q1 q2 => ?_)
      refine oweL k85 k562 hL e2 h13 hkn hp ep q1 q2 (fun σ' hσ => ?_)
      refine dryA k85 k562 hL hσ hS hkn (by omega) (fun σ3 g' h1 h3 => ?_)
      refine ih _ ⟨k + 1, by omega, rfl, h1, ?_⟩ ?_
      · show g' ≤ _; omega
      · show 10 - (nI (k + 1)).toNatClampNeg < 10 - (nI k).toNatClampNeg
        rw [nI_clamp (by omega), nI_clamp (by omega)]; omega
    · rw [if_neg (fun z => cp ((nIc (by omega) (by omega)).mp z)), nI_1]
      refine ih2 _ ⟨i + 1, ?_, rfl⟩ ?_
      · refine Nat.lt_of_le_of_ne hi (fun z => cp ?_)
        rw [z]; exact ep
      · show 10 - (nI (i + 1)).toNatClampNeg < 10 - (nI i).toNatClampNeg
        rw [nI_clamp (by omega), nI_clamp (by omega)]; omega
