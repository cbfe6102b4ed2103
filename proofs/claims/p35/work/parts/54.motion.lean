/-! motion -/
def bitOf (m e : Nat) : Bool := m / 2 ^ e % 2 == 1
theorem bit5 : ∀ (m : Fin 32) (e : Fin 5), (((nI m.1 >>> (nI e.1 &&& 31)) &&& 1) = 1) ↔ bitOf m.1 e.1 = true := by decide +kernel
theorem set5 : ∀ (m : Fin 32) (d : Fin 5), ∃ m' : Fin 32, nI m.1 ||| (1 <<< (nI d.1 &&& 31)) = nI m'.1 ∧ ∀ e : Fin 5, bitOf m'.1 e.1 = true ↔ (e.1 = d.1 ∨ bitOf m.1 e.1 = true) := by decide +kernel
/-- what laying an order may change -/
def FrT (τ τ' : HS) : Prop := (∀ b, b ≠ 6 → τ'.1 b = τ.1 b)
theorem lay_o {τ : HS} {n R : Nat} (h1 : τ.1 0 1 = nI n) (h2 : 2 ≤ n) (h5 : n ≤ 5) (hR : R < 1000000) : ∃ (r : Int32) (τ' : HS), f9_layOrder (nI R) τ = some (r, τ') ∧ FrT τ τ' ∧ ((r = 1 ∧ permB n R = true ∧ ∀ p, p < n → τ'.1 6 p = nI (dgt n R p)) ∨ (r = 0 ∧ ¬ permB n R = true)) := by
  unfold f9_layOrder f9_layOrder_12
  rw [h1, show nI n - 1 = nI (n - 1) by show nI n - nI 1 = _; rw [pk_sub (by omega)]]
  obtain ⟨⟨s1, s2⟩, p1, p2, p3⟩ := wl_fuel (body := fun k12 p => f9_layOrder_12_b k12 p.1 p.2.1 p.2.2.1 p.2.2.2) (fun p : Int32 × Int32 × Int32 × HS => ∃ i m : Nat, i ≤ n ∧ m < 32 ∧ p.1 = nI (R / n ^ i) ∧ p.2.1 = nI m ∧ p.2.2.1 = (if i = n then -1 else nI (n - 1 - i)) ∧ FrT τ p.2.2.2 ∧ (∀ q, n - i ≤ q → q < n → p.2.2.2.1 6 q = nI (dgt n R q)) ∧ (∀ e, e < 5 → (bitOf m e = true ↔ ∃ q, n - i ≤ q ∧ q < n ∧ dgt n R q = e)) ∧ ∀ a b, n - i ≤ a → a < n → n - i ≤ b → b < n → dgt n R a = dgt n R b → a = b) (fun p => if p.2.2.1 = -1 then 0 else p.2.2.1.toNatClampNeg + 1) (fun r : Int32 × HS => FrT τ r.2 ∧ ((r.1 = 1 ∧ permB n R = true ∧ ∀ p, p < n → r.2.1 6 p = nI (dgt n R p)) ∨ (r.1 = 0 ∧ ¬ permB n R = true))) (nI R, 0, nI (n - 1), τ) ⟨0, 0, by omega, by omega, by rw [Nat.pow_zero, Nat.div_one], rfl, by rw [if_neg (by omega)]; rfl, fun _ _ => rfl, fun q y1 y2 => by omega, fun e he => ⟨fun z => absurd z (by unfold bitOf; rw [Nat.zero_div]; decide), fun ⟨q, y1, y2, _⟩ => absurd y1 (by omega)⟩, fun a b y1 y2 => by omega⟩ (by dsimp only; rw [if_neg (nI_m1 (by omega)), nI_clamp (by omega)]; omega) (by
    rintro kk ⟨x2, x3, x4, τ2⟩ ⟨i, m, hi, hm, e2, e3, e4, g1, g2, g3, g4⟩ ih
    have e2 : x2 = nI (R / n ^ i) := e2
    have e3 : x3 = nI m := e3
    have e4 : x4 = (if i = n then -1 else nI (n - 1 - i)) := e4
    subst e2 e3 e4
    have g1 : FrT τ τ2 := g1
    have g2 : ∀ q, n - i ≤ q → q < n → τ2.1 6 q = nI (dgt n R q) := g2
    dsimp only
    unfold f9_layOrder_12_b
    by_cases c : i = n
    · rw [if_pos c, if_pos m1lt0]
      subst c
      refine ⟨_, rfl, g1, Or.inl ⟨rfl, ?_, fun p hp => g2 p (by omega) hp⟩⟩
      unfold permB
      rw [List.all_eq_true]
      intro p hp
      rw [List.all_eq_true]
      intro q hq
      have hp := List.mem_range.mp hp
      have hq := List.mem_range.mp hq
      by_cases ce : p = q
      · simp [ce]
      · have : ¬ dgt i R p = dgt i R q := fun z => ce (g4 p q (by omega) hp (by omega) hq z)
        simp [ce, this]
    · have dl := Nat.div_le_self R (n ^ i)
      have dg : R / n ^ i % n = dgt n R (n - 1 - i) := by unfold dgt; rw [show n - 1 - (n - 1 - i) = i by omega]
      have dlt : dgt n R (n - 1 - i) < n := Nat.mod_lt _ (by omega)
      rw [if_neg c, if_neg (nI_pos (by omega)), g1 0 (by omega), h1, if_neg (nI_ne0 (by omega) (by omega)), ix_in (by omega) (by omega), nI_clamp (by omega), pk_rem (by omega) (by omega) (by omega), dg]
      generalize hτ3 : uI τ2 6 (n - 1 - i) (nI (dgt n R (n - 1 - i))) = τ3
      have g1' : FrT τ τ3 := by subst hτ3; intro b hb; rw [uI_other hb]; exact g1 b hb
      have g2' : ∀ q, n - (i + 1) ≤ q → q < n → τ3.1 6 q = nI (dgt n R q) := by
        subst hτ3
        intro q y1 y2
        rw [uI_at]
        by_cases cq : q = n - 1 - i
        · rw [if_pos ⟨rfl, cq⟩, cq]
        · rw [if_neg (fun z => cq z.2)]; exact g2 q (by omega) y2
      rw [g1' 0 (by omega), h1, if_neg (nI_ne0 (by omega) (by omega)), ixc (by omega) (by omega), g2' (n - 1 - i) (by omega) (by omega)]
      have bt := bit5 ⟨m, hm⟩ ⟨dgt n R (n - 1 - i), by omega⟩
      by_cases cb : bitOf m (dgt n R (n - 1 - i)) = true
      · rw [if_pos (bt.mpr cb)]
        obtain ⟨q, y1, y2, y3⟩ := (g3 _ (by omega)).mp cb
        refine ⟨_, rfl, g1', Or.inr ⟨rfl, fun z => ?_⟩⟩
        have := perm_inj z (show n - 1 - i < n by omega) y2 y3.symm
        omega
      · rw [if_neg (fun z => cb (bt.mp z)), ixc (by omega) (by omega), pk_div (by omega) (by omega) (by omega), Nat.div_div_eq_div_mul, ← Nat.pow_succ]
        obtain ⟨m', hm', hb'⟩ := set5 ⟨m, hm⟩ ⟨dgt n R (n - 1 - i), by omega⟩
        have hm' : nI m ||| (1 <<< (nI (dgt n R (n - 1 - i)) &&& 31)) = nI m'.1 := hm'
        rw [hm']
        refine ih _ ⟨i + 1, m'.1, by omega, m'.2, rfl, rfl, ?_, g1', g2', fun e he => ?_, fun a b a1 a2 b1 b2 ab => ?_⟩ ?_
        · show nI (n - 1 - i) + (-1) = _
          by_cases ce : i + 1 = n
          · rw [if_pos ce, show n - 1 - i = 0 by omega]; rfl
          · rw [if_neg ce]
            have := pk_m1 (n - 1 - (i + 1))
            rw [show n - 1 - (i + 1) + 1 = n - 1 - i by omega] at this
            exact this
        · refine (hb' ⟨e, he⟩).trans ⟨fun z => ?_, fun ⟨q, y1, y2, y3⟩ => ?_⟩
          · rcases z with z | z
            · exact ⟨n - 1 - i, by omega, by omega, z.symm⟩
            · obtain ⟨q, y1, y2, y3⟩ := (g3 e he).mp z
              exact ⟨q, by omega, y2, y3⟩
          · by_cases cq : q = n - 1 - i
            · left; show e = _; rw [← y3, cq]
            · right; exact (g3 e he).mpr ⟨q, by omega, y2, y3⟩
        · have nb : ∀ q, n - i ≤ q → q < n → ¬ dgt n R q = dgt n R (n - 1 - i) := fun q y1 y2 z => cb ((g3 _ (by omega)).mpr ⟨q, y1, y2, z⟩)
          by_cases ca : a = n - 1 - i
          · by_cases cb2 : b = n - 1 - i
            · omega
            · rw [ca] at ab; exact absurd ab.symm (nb b (by omega) b2)
          · by_cases cb2 : b = n - 1 - i
            · rw [cb2] at ab; exact absurd ab (nb a (by omega) a2)
            · exact g4 a b (by omega) a2 (by omega) b2 ab
        · have e5 : (nI (n - 1 - i) + (-1) : Int32) = (if i + 1 = n then -1 else nI (n - 1 - (i + 1))) := by
            by_cases ce : i + 1 = n
            · rw [if_pos ce, show n - 1 - i = 0 by omega]; rfl
            · rw [if_neg ce]
              have := pk_m1 (n - 1 - (i + 1))
              rw [show n - 1 - (i + 1) + 1 = n - 1 - i by omega] at this
              exact this
          dsimp only
          rw [e5, if_neg c, if_neg (nI_m1 (by omega)), nI_clamp (by omega)]
          by_cases ce : i + 1 = n
          · rw [if_pos ce, if_pos rfl]; omega
          · rw [if_neg ce, if_neg (nI_m1 (by omega)), nI_clamp (by omega)]; omega)
  exact ⟨s1, s2, p1, p2, p3⟩
theorem other_c {τ : HS} {P : PP} {C : CC} {R : Nat} (w : WfP P) (wc : WfC P C) (h1 : τ.1 0 1 = nI (pn P)) (h6 : ∀ p, p < pn P → τ.1 6 p = nI (dgt (pn P) R p)) (h18 : ∀ p, p < pn P → τ.1 18 p = nI (co C p)) : f9_otherPlaces τ = some (nI (chg P C (dgt (pn P) R) (pn P)), τ) := by
  have h5 := w.1
  unfold f9_otherPlaces f9_otherPlaces_4
  refine wl_eq (fun p : Int32 × Int32 × HS => ∃ m, m ≤ pn P ∧ p = (nI (chg P C (dgt (pn P) R) m), nI m, τ)) (fun p => 10 - p.2.1.toNatClampNeg) _ _ ⟨0, by omega, rfl⟩ (by show 10 - _ < _; omega) ?_
  rintro kk _ ⟨m, hm, rfl⟩ ih
  dsimp only
  unfold f9_otherPlaces_4_b f9_otherPlaces_33
  rw [h1]
  by_cases c : pn P ≤ m
  · have : m = pn P := by omega
    subst this
    rw [if_pos (nI_le c (by omega))]
  · have o1 : dgt (pn P) R m < pn P := dgt_lt (by omega)
    have o2 := wc.2.2.2.1 m (by omega)
    have go : ∀ z : Nat, z = chg P C (dgt (pn P) R) (m + 1) → kk (nI z, nI m + 1, τ) = some (nI (chg P C (dgt (pn P) R) (pn P)), τ) := by
      rintro z rfl
      rw [nI_1]
      refine ih _ ⟨m + 1, by omega, rfl⟩ ?_
      show 10 - (nI (m + 1)).toNatClampNeg < 10 - (nI m).toNatClampNeg
      rw [nI_clamp (by omega), nI_clamp (by omega)]; omega
    rw [if_neg (nI_ge (by omega) (by omega)), ix_in (by omega) (by omega), ix_in (by omega) (by omega), nI_clamp (by omega), h6 m (by omega), h18 m (by omega)]
    by_cases c1 : dgt (pn P) R m = co C m
    · rw [if_pos (by rw [c1])]
      have : nI (chg P C (dgt (pn P) R) m) + 0 = nI (chg P C (dgt (pn P) R) m) := nI_add _ 0
      rw [this]
      exact go _ (by rw [chg, if_pos c1, Nat.add_zero])
    · rw [if_neg (fun z => c1 ((nIc (by omega) (by omega)).mp z)), nI_1]
      exact go _ (by rw [chg, if_neg c1])
