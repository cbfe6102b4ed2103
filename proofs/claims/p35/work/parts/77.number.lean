/-! a motion, held against all orders by their numbers, from the last one back -/
def dn (m : Nat) : Int32 := if m = 0 then -1 else nI (m - 1)
theorem dn_0 : dn 0 = -1 := rfl
theorem dn_1 (m : Nat) : dn (m + 1) = nI m := by
  unfold dn
  rw [if_neg (by omega)]
  rfl
theorem dn_s {m : Nat} (hm : m < 1000000) : nI m + (-1) = dn m := by
  unfold dn
  by_cases c : m = 0
  · rw [if_pos c, c]; rfl
  · rw [if_neg c]
    have := pk_sub (a := m) (b := 1) (by omega)
    rw [← this]
    have e : (nI 1 : Int32) = 1 := rfl
    rw [e, Int32.sub_eq_add_neg]
theorem dn_d {m : Nat} (hm : m < 1000000) : nI m - 1 = dn m := by
  rw [← dn_s hm, Int32.sub_eq_add_neg]
theorem m1_neg : ((-1 : Int32) < 0) := by decide
def SoN (P : PP) (C0 : CC) (k q m : Nat) (x : Int32) (a : Nat → Int32) : Prop := (x = 99 ∧ ∀ i R, m ≤ i → (PL (pn P))[i]? = some R → ¬ saidBy P C0 (dgt (pn P) R) k q) ∨ ∃ i0 R0, m ≤ i0 ∧ (PL (pn P))[i0]? = some R0 ∧ saidBy P C0 (dgt (pn P) R0) k q ∧ x = nI (chg P C0 (dgt (pn P) R0) (pn P)) ∧ (∀ p, p < pn P → a p = nI (dgt (pn P) R0 p)) ∧ ∀ i R, m ≤ i → (PL (pn P))[i]? = some R → saidBy P C0 (dgt (pn P) R) k q → chg P C0 (dgt (pn P) R0) (pn P) < chg P C0 (dgt (pn P) R) (pn P) ∨ (chg P C0 (dgt (pn P) R0) (pn P) = chg P C0 (dgt (pn P) R) (pn P) ∧ i0 ≤ i)
/-- what the class said of the motion -/
def MoA (P : PP) (C0 : CC) (k q : Nat) (x : Int32) (a : Nat → Int32) (n : Nat) : Prop := (x = -9 ∧ (∀ p, p < n → a p = -9) ∧ ∀ R, R < pn P ^ pn P → permB (pn P) R = true → ¬ saidBy P C0 (dgt (pn P) R) k q) ∨ ∃ R, MotR P C0 k q R ∧ x = nI (chg P C0 (dgt (pn P) R) (pn P)) ∧ ∀ p, p < n → a p = nI (dgt (pn P) R p)
theorem MotR.uniq {P : PP} {C : CC} {k q R R' : Nat} (h : MotR P C k q R) (h' : MotR P C k q R') : R = R' := by
  have a := h.2.2.2 R' h'.1 h'.2.1 h'.2.2.1
  have b := h'.2.2.2 R h.1 h.2.1 h.2.2.1
  omega
theorem SoN.step {P : PP} {C0 : CC} {k q m R : Nat} {x : Int32} {a : Nat → Int32} (hR : (PL (pn P))[m]? = some R) (h5 : pn P ≤ 5) (h : SoN P C0 k q (m + 1) x a) {x' : Int32} {a' a38 : Nat → Int32} (h38 : ∀ p, p < pn P → a38 p = nI (dgt (pn P) R p)) (hv : (saidBy P C0 (dgt (pn P) R) k q ∧ ¬ x < nI (chg P C0 (dgt (pn P) R) (pn P)) ∧ x' = nI (chg P C0 (dgt (pn P) R) (pn P)) ∧ a' = a38) ∨ (¬ (saidBy P C0 (dgt (pn P) R) k q ∧ ¬ x < nI (chg P C0 (dgt (pn P) R) (pn P))) ∧ x' = x ∧ a' = a)) : SoN P C0 k q m x' a' := by
  have cle : ∀ R, chg P C0 (dgt (pn P) R) (pn P) ≤ 5 := fun R => by have := chg_le P C0 (dgt (pn P) R) (pn P); omega
  have spl : ∀ i R', m ≤ i → (PL (pn P))[i]? = some R' → (i = m ∧ R' = R) ∨ m + 1 ≤ i := by
    intro i R' hi h1
    by_cases c : i = m
    · left
      refine ⟨c, ?_⟩
      rw [c, hR] at h1
      exact (Option.some.inj h1).symm
    · right; omega
  rcases hv with ⟨v1, v2, rfl, rfl⟩ | ⟨v1, rfl, rfl⟩
  · right
    refine ⟨m, R, by omega, hR, v1, rfl, h38, fun i R' hi h1 h3 => ?_⟩
    rcases spl i R' hi h1 with ⟨rfl, rfl⟩ | z
    · right; exact ⟨rfl, Nat.le_refl _⟩
    · rcases h with ⟨rfl, h⟩ | ⟨i0, R0, g1, g2, g3, rfl, g4, g5⟩
      · exact absurd h3 (h i R' z h1)
      · have e := g5 i R' z h1 h3
        have c1 := cle R
        have c0 := cle R0
        have : ¬ chg P C0 (dgt (pn P) R0) (pn P) < chg P C0 (dgt (pn P) R) (pn P) := fun z => v2 (nI_lt z (by omega))
        omega
  · rcases h with ⟨rfl, h⟩ | ⟨i0, R0, g1, g2, g3, rfl, g4, g5⟩
    · left
      refine ⟨rfl, fun i R' hi h1 => ?_⟩
      rcases spl i R' hi h1 with ⟨rfl, rfl⟩ | z
      · intro h3
        have c1 := cle R'
        exact v1 ⟨h3, nI_nlt (a := 99) (by omega) (by omega)⟩
      · exact h i R' z h1
    · right
      refine ⟨i0, R0, by omega, g2, g3, rfl, g4, fun i R' hi h1 h3 => ?_⟩
      rcases spl i R' hi h1 with ⟨rfl, rfl⟩ | z
      · have c1 := cle R'
        have c0 := cle R0
        left
        exact Nat.lt_of_not_le (fun z => v1 ⟨h3, nI_nlt z (by omega)⟩)
      · exact g5 i R' z h1 h3
theorem SoN.done {P : PP} {C0 : CC} {k q : Nat} {x x2 : Int32} {a a2 : Nat → Int32} (h2 : 2 ≤ pn P) (h5 : pn P ≤ 5) (h : SoN P C0 k q 0 x a) (m : MoA P C0 k q x2 a2 (pn P)) : (x = 99 ∧ x2 = -9 ∧ ∀ p, p < pn P → a2 p = -9) ∨ (x ≠ 99 ∧ x2 = x ∧ ∀ p, p < pn P → a2 p = a p) := by
  have fnd : ∀ R, R < pn P ^ pn P → permB (pn P) R = true → ∃ i, (PL (pn P))[i]? = some R := fun R z1 z2 => List.mem_iff_getElem?.mp ((pl_mem h2 h5 R).mpr ⟨z1, z2⟩)
  rcases h with ⟨rfl, h⟩ | ⟨i0, R0, g1, g2, g3, rfl, g4, g5⟩
  · left
    rcases m with ⟨m1, m2, m3⟩ | ⟨R, m1, m2, m3⟩
    · exact ⟨rfl, m1, m2⟩
    · obtain ⟨i, hi⟩ := fnd R m1.1 m1.2.1
      exact absurd m1.2.2.1 (h i R (by omega) hi)
  · right
    have r0 := (pl_mem h2 h5 R0).mp (List.mem_iff_getElem?.mpr ⟨i0, g2⟩)
    have cle := chg_le P C0 (dgt (pn P) R0) (pn P)
    refine ⟨fun z => by have := (nIc (c := 99) (by omega) (by omega)).mp z; omega, ?_⟩
    rcases m with ⟨m1, m2, m3⟩ | ⟨R, m1, m2, m3⟩
    · exact absurd g3 (m3 R0 r0.1 r0.2)
    · have : R = R0 := by
        obtain ⟨i, hi⟩ := fnd R m1.1 m1.2.1
        have e1 := g5 i R (by omega) hi m1.2.2.1
        have e2 := m1.2.2.2 R0 r0.1 r0.2 g3
        have e3 : i ≤ i0 := by
          refine Nat.le_of_not_lt (fun z => ?_)
          have := pl_lt h2 h5 i0 i R0 R g2 hi z
          omega
        have : i = i0 := by omega
        rw [this, g2] at hi
        exact (Option.some.inj hi).symm
      subst this
      exact ⟨m2, fun p hp => by rw [m3 p hp, g4 p hp]⟩
theorem cmpL {sL : Nat} {a0 : Nat → Int32} (k85 : (Nat → Int32) × Int32 × HS × Nat → Option Int32) {a2 a3 : Nat → Int32} {x5 x31 : Int32} {a28 a32 : Nat → Int32} {σ : HS} {g n : Nat} (h4 : n ≤ 4) (hv : (x31 = 99 ∧ ∀ p, p < n → a28 p = -9) ∨ (x31 ≠ 99 ∧ ∀ p, p < n → a28 p = a32 p)) (hK : k85 (a2, x5 + 1, σ, g) = some 1) :
    g_law_2255 sL a0 k85 a2 a3 (nI n) x5 a28 x31 a32 σ g 0 = some 1 := by
  unfold g_law_2255
  refine wl_to (fun p => ∃ k, k ≤ n ∧ p = nI k) (fun p => 10 - p.toNatClampNeg) _ _ ⟨0, by omega, rfl⟩ (by show 10 - _ < _; omega) ?_
  rintro k2255 _ ⟨k, hk, rfl⟩ ih
  unfold g_law_2255_b g_law_2284
  by_cases c : n ≤ k
  · rw [if_pos (nI_le c (by omega))]
    exact hK
  · have nx : k2255 (nI k + 1) = some 1 := by
      rw [nI_1]
      refine ih _ ⟨k + 1, by omega, rfl⟩ ?_
      show 10 - (nI (k + 1)).toNatClampNeg < 10 - (nI k).toNatClampNeg
      rw [nI_clamp (by omega), nI_clamp (by omega)]; omega
    rw [if_neg (nI_ge (by omega) (by omega)), ix_in (by omega) (by omega), nI_clamp (by omega)]
    rcases hv with ⟨v1, v2⟩ | ⟨v1, v2⟩
    · rw [if_pos v1, if_pos (v2 k (by omega))]
      exact nx
    · rw [if_neg v1, ixc (by omega) (by omega), if_pos (v2 k (by omega))]
      exact nx
/-- all orders, from the last number -/
theorem numL {sL : Nat} {a0 : Nat → Int32} (k85 : (Nat → Int32) × Int32 × HS × Nat → Option Int32) {a2 a3 : Nat → Int32} {x5 x27 : Int32} {a28 a30 : Nat → Int32} {σ τ : HS} {g j : Nat} {P : PP} {C0 : CC} {k q : Nat}
    (hB : InvB j σ τ P C0) (hj : j + 24 < 512) (hg : g + 24 < 80000) (hL : LwA a2 a3 P C0) (hS : ShF τ) (hwas : ∀ p, p < pn P → a30 p = nI (co C0 p)) (hk : k < pn P) (hq : q < pw P k) (hm : MoA P C0 k q x27 a28 (pn P))
    (hK : ∀ a2' τ' σ' g' j' C', InvB j' σ' τ' P C' → LwA a2' a3 P C' → ShF τ' → cl C' = cl C0 → j' ≤ j + 24 → g' ≤ g + 24 → k85 (a2', x5 + 1, σ', g') = some 1) :
    g_law_1918 sL a0 k85 a3 (nI (pn P)) x5 (nI (turnsN P C0)) (nI k) (nI q) x27 a28 (nI (fac (pn P))) a30 (a2, 99, (fun _ => 0), nI (fac (pn P)) - 1, σ, g) = some 1 := by
  obtain ⟨w, wc0, -⟩ := id hB
  have h2 := hL.1
  have h4 := hL.2.1
  obtain ⟨f2, f24⟩ := fac_b h2 h4
  have hlen := (pl_len h2 h4).1
  have o0 : ∀ p, p < pn P → co C0 p < pn P := fun p hp => wc0.2.2.2.1 p hp
  have aux : ∀ j f m : Nat, m + 1 ≤ f → j + (f - m) = j + (f - (m + 1)) + 1 := fun _ _ _ _ => by omega
  rw [dn_d (by omega)]
  unfold g_law_1918
  refine wl_to (fun s : (Nat → Int32) × Int32 × (Nat → Int32) × Int32 × HS × Nat => ∃ m o τ1, m ≤ fac (pn P) ∧ s.2.2.2.1 = dn m ∧ InvB (j + (fac (pn P) - m)) s.2.2.2.2.1 τ1 P (cw C0, cl C0, o) ∧ LwA s.1 a3 P (cw C0, cl C0, o) ∧ ShF τ1 ∧ (m < fac (pn P) → τ1.1 0 29 = 0) ∧ s.2.2.2.2.2 = g + (fac (pn P) - m) ∧ SoN P C0 k q m s.2.1 s.2.2.1) (fun s => if s.2.2.2.1 < 0 then 0 else s.2.2.2.1.toNatClampNeg + 1) (some 1) _ ⟨fac (pn P), co C0, τ, Nat.le_refl _, rfl, by rw [Nat.sub_self]; exact hB, hL, hS, fun z => absurd z (Nat.lt_irrefl _), by rw [Nat.sub_self]; rfl, Or.inl ⟨rfl, fun i R hi h1 => by rw [List.getElem?_eq_none (by omega)] at h1; cases h1⟩⟩ (by
    show (if _ then 0 else _) < _
    have := dn_1 (fac (pn P) - 1)
    rw [Nat.sub_add_cancel (by omega)] at this
    rw [this, if_neg (nI_pos (by omega)), nI_clamp (by omega)]; omega) ?_
  rintro k1918 ⟨a, x31, a32, x33, σ1, g1⟩ ⟨m, o, τ1, hm1, e1, i1, i2, i3, i4, e2, i5⟩ ih
  have e1 : x33 = dn m := e1
  have e2 : g1 = g + (fac (pn P) - m) := e2
  subst e1 e2
  have i1 : InvB (j + (fac (pn P) - m)) σ1 τ1 P (cw C0, cl C0, o) := i1
  have i2 : LwA a a3 P (cw C0, cl C0, o) := i2
  have i5 : SoN P C0 k q m x31 a32 := i5
  dsimp only
  unfold g_law_1918_b
  cases m with
  | zero =>
    rw [dn_0, if_pos m1_neg]
    obtain ⟨-, -, -, -, -, -, rl, -⟩ := id i1
    have my := many_5 rl (d := 0) (i4 (by omega)) (by omega)
    have fin : (x31 = 99 ∧ ∀ p, p < pn P → a28 p = -9) ∨ (x31 ≠ 99 ∧ ∀ p, p < pn P → a28 p = a32 p) → g_law_2255 sL a0 k85 a a3 (nI (pn P)) x5 a28 x31 a32 σ1 (g + (fac (pn P) - 0)) 0 = some 1 := by
      intro hv
      exact cmpL k85 h4 hv (hK a τ1 σ1 _ _ _ i1 i2 i3 rfl (by omega) (by omega))
    rcases i5.done h2 (by omega) hm with ⟨d1, d2, d3⟩ | ⟨d1, d2, d3⟩
    · rw [if_pos d1]
      unfold g_law_2239
      rw [if_pos d2, my, bd_s]
      exact fin (Or.inl ⟨d1, d3⟩)
    · rw [if_neg d1]
      unfold g_law_2239
      rw [if_pos d2, my, bd_s]
      exact fin (Or.inr ⟨d1, d3⟩)
  | succ m =>
    rw [dn_1, if_neg (nI_pos (by omega)), if_neg (by omega)]
    obtain ⟨R, hR, htok⟩ := tok_n h2 h4 (N := m) (by omega)
    have hp := (pl_mem h2 (by omega) R).mp (List.mem_iff_getElem?.mpr ⟨m, hR⟩)
    refine orderP k85 k1918 (x29 := 0) (C0 := C0) (N := m) (R := R) i1 i2 i3 hwas o0 hp.2 htok (fun a2' a38 σ' τ' z1 z2 z3 z4 z5 => ?_)
    refine heardL k85 k1918 z1 (by omega) z2 hk hq (fun σ2 y1 x31' a32' hv => ?_)
    rw [dn_s (by omega)]
    refine ih _ ⟨m, dgt (pn P) R, τ', by omega, rfl, ?_, z2, z3, fun _ => z4, ?_, i5.step hR (by omega) z5 hv⟩ ?_
    · have : j + (fac (pn P) - m) = j + (fac (pn P) - (m + 1)) + 1 := aux _ _ _ hm1
      rw [this]; exact y1
    · exact (aux _ _ _ hm1).symm
    · show (if dn m < 0 then 0 else (dn m).toNatClampNeg + 1) < if nI m < 0 then 0 else (nI m).toNatClampNeg + 1
      rw [if_neg (nI_pos (by omega)), nI_clamp (by omega)]
      cases m with
      | zero => rw [dn_0, if_pos m1_neg]; omega
      | succ m => rw [dn_1, if_neg (nI_pos (by omega)), nI_clamp (by omega)]; omega
