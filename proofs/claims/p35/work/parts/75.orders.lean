/-! orders by their numbers, as the law lays them -/
def ysl : Nat → Nat → Nat → Nat → Option Nat
  | 0, _, _, _ => none
  | f + 1, u, t, y => if bitOf u y = true then ysl f u t (y + 1) else if t = 0 then some y else ysl f u (t - 1) (y + 1)
def tok : Nat → Nat → Nat → Nat → Nat → Nat → Nat → Bool
  | 0, _, _, _, _, _, _ => true
  | f + 1, n, p, left, b, u, R => decide (b / (n - p) ≠ 0) && decide (b ≤ 24) && decide (left ≤ 24) && decide (u < 16) && decide (dgt n R p < 4) && (ysl 5 u (left / (b / (n - p))) 0 == some (dgt n R p)) && tok f n (p + 1) (left % (b / (n - p))) (b / (n - p)) (u ||| 2 ^ dgt n R p) R
def fac (n : Nat) : Nat := if n = 2 then 2 else if n = 3 then 6 else 24
theorem tok2 : ∀ N : Fin 2, tok 2 2 0 N.1 2 0 ((PL 2).getD N.1 0) = true := by decide +kernel
theorem tok3 : ∀ N : Fin 6, tok 3 3 0 N.1 6 0 ((PL 3).getD N.1 0) = true := by decide +kernel
theorem tok4 : ∀ N : Fin 24, tok 4 4 0 N.1 24 0 ((PL 4).getD N.1 0) = true := by decide +kernel
theorem pl_len {n : Nat} (h2 : 2 ≤ n) (h4 : n ≤ 4) : (PL n).length = fac n ∧ 2 ≤ fac n ∧ fac n ≤ 24 := by
  have : n = 2 ∨ n = 3 ∨ n = 4 := by omega
  rcases this with rfl | rfl | rfl <;> exact ⟨rfl, by decide, by decide⟩
theorem tok_n {n N : Nat} (h2 : 2 ≤ n) (h4 : n ≤ 4) (hN : N < fac n) : ∃ R, (PL n)[N]? = some R ∧ tok n n 0 N (fac n) 0 R = true := by
  have hl := (pl_len h2 h4).1
  refine ⟨(PL n).getD N 0, ?_, ?_⟩
  · rw [List.getD_eq_getElem?_getD]
    rw [List.getElem?_eq_getElem (by omega)]
    rfl
  · have : n = 2 ∨ n = 3 ∨ n = 4 := by omega
    rcases this with rfl | rfl | rfl
    · exact tok2 ⟨N, hN⟩
    · exact tok3 ⟨N, hN⟩
    · exact tok4 ⟨N, hN⟩
theorem bit0 : ∀ (m : Fin 32) (e : Fin 5), (((nI m.1 >>> (nI e.1 &&& 31)) &&& 1) = 0) ↔ bitOf m.1 e.1 = false := by decide +kernel
theorem setB : ∀ (m : Fin 16) (d : Fin 4), nI m.1 ||| (1 <<< (nI d.1 &&& 31)) = nI (m.1 ||| 2 ^ d.1) := by decide +kernel
theorem ysl_lt : ∀ f u t y y', ysl f u t y = some y' → y ≤ y' ∧ y' < y + f := by
  intro f
  induction f with
  | zero => intro u t y y' h; cases h
  | succ f ih =>
    intro u t y y' h
    unfold ysl at h
    split at h
    · have := ih _ _ _ _ h; omega
    · split at h
      · cases h; omega
      · have := ih _ _ _ _ h; omega
/-- the next speaker in an order: he who is the so-many-th of those not in it yet -/
theorem yloop {sL : Nat} {a0 : Nat → Int32} {k85 : (Nat → Int32) × Int32 × HS × Nat → Option Int32} {k1918 : (Nat → Int32) × Int32 × (Nat → Int32) × Int32 × HS × Nat → Option Int32} {k1945 : (Nat → Int32) × Int32 × Int32 × Int32 × Int32 × (Nat → Int32) × Int32 × HS → Option Int32} {a2 a3 : Nat → Int32} {x4 x5 x10 x25 x26 x27 : Int32} {a28 : Nat → Int32} {x29 : Int32} {a30 : Nat → Int32} {x31 : Int32} {a32 : Nat → Int32} {x33 x34 x35 x37 : Int32} {a38 : Nat → Int32} {x39 : Int32} {σ : HS} {g : Nat} {v : Option Int32}
    {u t y' : Nat} (hu : u < 16) (ht : t < 1000) (h : ysl 5 u t 0 = some y') (hE : ∀ k1979, g_law_1979_b sL a0 k85 k1918 k1945 k1979 a2 a3 x4 x5 x10 x25 x26 x27 a28 x29 a30 x31 a32 x33 x34 x35 (nI u) x37 a38 x39 (nI 0) (nI y') σ g = v) :
    g_law_1979 sL a0 k85 k1918 k1945 a2 a3 x4 x5 x10 x25 x26 x27 a28 x29 a30 x31 a32 x33 x34 x35 (nI u) x37 a38 x39 σ g (nI t, 0) = v := by
  unfold g_law_1979
  refine wl_to (fun p : Int32 × Int32 => ∃ f t y, t < 1000 ∧ p = (nI t, nI y) ∧ ysl f u t y = some y' ∧ y + f = 5) (fun p => 10 - p.2.toNatClampNeg) v _ ⟨5, t, 0, ht, rfl, h, rfl⟩ (by show 10 - _ < _; omega) ?_
  rintro k1979 _ ⟨f, t, y, ht, rfl, hy, hf⟩ ih
  dsimp only
  cases f with
  | zero => cases hy
  | succ f =>
    have b5 := bit5 ⟨u, by omega⟩ ⟨y, by omega⟩
    have b0 := bit0 ⟨u, by omega⟩ ⟨y, by omega⟩
    dsimp only at b5 b0
    have nx : ∀ t2 : Nat, t2 < 1000 → ysl f u t2 (y + 1) = some y' → k1979 (nI t2, nI y + 1) = v := by
      intro t2 h2 h3
      rw [nI_1]
      refine ih _ ⟨f, t2, y + 1, h2, rfl, h3, by omega⟩ ?_
      show 10 - (nI (y + 1)).toNatClampNeg < 10 - (nI y).toNatClampNeg
      rw [nI_clamp (by omega), nI_clamp (by omega)]; omega
    unfold ysl at hy
    by_cases c : bitOf u y = true
    · rw [if_pos c] at hy
      unfold g_law_1979_b g_law_1995 g_law_2012
      rw [if_pos (b5.mpr c), if_neg (fun z => by rw [b0.mp z] at c; cases c), show nI t - (0 : Int32) = nI (t - 0) from pk_sub (b := 0) (by omega)]
      exact nx t ht hy
    · rw [if_neg c] at hy
      by_cases c0 : t = 0
      · rw [if_pos c0] at hy
        cases hy
        subst c0
        exact hE k1979
      · rw [if_neg c0] at hy
        unfold g_law_1979_b g_law_1995 g_law_2012
        rw [if_neg (fun z => c (b5.mp z)), if_neg (nI_nle (by omega) (by omega)), if_pos (b0.mpr (by simpa using c)), show nI t - (1 : Int32) = nI (t - 1) from pk_sub (b := 1) (by omega)]
        exact nx (t - 1) (by omega) hy
/-- speakers change places in the law's row, too -/
theorem zloop {sL : Nat} {a0 : Nat → Int32} {k85 : (Nat → Int32) × Int32 × HS × Nat → Option Int32} {k1918 : (Nat → Int32) × Int32 × (Nat → Int32) × Int32 × HS × Nat → Option Int32} {k1945 : (Nat → Int32) × Int32 × Int32 × Int32 × Int32 × (Nat → Int32) × Int32 × HS → Option Int32} {a2 a3 : Nat → Int32} {x5 x10 x25 x26 x27 : Int32} {a28 : Nat → Int32} {x29 : Int32} {a30 : Nat → Int32} {x31 : Int32} {a32 : Nat → Int32} {x33 x34 x35 x36 x37 : Int32} {a38 : Nat → Int32} {x39 : Int32} {σ : HS} {g n : Nat} {v : Option Int32}
    {h y : Nat} {o : Nat → Nat} (hn : n ≤ 4) (hh : h < 100) (hy : y < 100) (ho : ∀ r, r < n → a2 (14 + r) = nI (o r) ∧ o r < 100)
    (hK : ∀ a2' : Nat → Int32, (∀ r, r < n → a2' (14 + r) = nI (xch h y o r)) → (∀ i, i < 14 → a2' i = a2 i) → k1945 (a2', x34, x35, x36, x37, a38, x39 + 1, σ) = v) :
    g_law_2083 sL a0 k85 k1918 k1945 a3 (nI n) x5 x10 x25 x26 x27 a28 x29 a30 x31 a32 x33 x34 x35 x36 x37 a38 x39 (nI y) (nI h) σ g (a2, 0) = v := by
  unfold g_law_2083
  refine wl_to (fun p : (Nat → Int32) × Int32 => ∃ z, z ≤ n ∧ p.2 = nI z ∧ (∀ r, r < n → p.1 (14 + r) = nI (if r < z then xch h y o r else o r)) ∧ ∀ i, i < 14 → p.1 i = a2 i) (fun p => 10 - p.2.toNatClampNeg) v _ ⟨0, by omega, rfl, fun r hr => by rw [if_neg (by omega)]; exact (ho r hr).1, fun _ _ => rfl⟩ (by show 10 - _ < _; omega) ?_
  rintro k2083 ⟨a, x⟩ ⟨z, hz, e, g1, g2⟩ ih
  have e : x = nI z := e
  subst e
  have g1 : ∀ r, r < n → a (14 + r) = nI (if r < z then xch h y o r else o r) := g1
  have g2 : ∀ i, i < 14 → a i = a2 i := g2
  dsimp only
  unfold g_law_2083_b g_law_2131
  by_cases c : n ≤ z
  · rw [if_pos (nI_le c (by omega))]
    exact hK a (fun r hr => by rw [g1 r hr, if_pos (by omega)]) g2
  · have hoz := (ho z (by omega)).2
    have go : ∀ w : Nat, w = xch h y o z → (bd (some (upd a (14 + z) (nI w))) fun b2 => k2083 (b2, nI z + 1)) = v := by
      rintro w rfl
      rw [bd_s, nI_1]
      refine ih _ ⟨z + 1, by omega, rfl, fun r hr => ?_, fun i hi => ?_⟩ ?_
      · show upd a (14 + z) _ (14 + r) = _
        by_cases cr : r = z
        · subst cr
          rw [upS, if_pos (by omega)]
        · rw [upN (by omega), g1 r hr]
          by_cases c2 : r < z
          · rw [if_pos c2, if_pos (by omega)]
          · rw [if_neg c2, if_neg (by omega)]
      · show upd a (14 + z) _ i = _
        rw [upN (by omega)]; exact g2 i hi
      · show 10 - (nI (z + 1)).toNatClampNeg < 10 - (nI z).toNatClampNeg
        rw [nI_clamp (by omega), nI_clamp (by omega)]; omega
    have gz : a (14 + z) = nI (o z) := by rw [g1 z (by omega), if_neg (Nat.lt_irrefl z)]
    rw [if_neg (nI_ge (by omega) (by omega)), le14, ix_in (by omega) (by omega), nI_clamp (by omega), gz, ixc (by omega) (by omega), ixc (by omega) (by omega), ixc (by omega) (by omega)]
    by_cases c1 : o z = h
    · rw [if_pos (by rw [c1])]
      exact go y (by unfold xch; rw [if_pos c1])
    · rw [if_neg (fun q => c1 ((nIc (by omega) (by omega)).mp q))]
      by_cases c2 : o z = y
      · rw [if_pos (by rw [c2])]
        exact go h (by unfold xch; rw [if_neg c1, if_pos c2])
      · rw [if_neg (fun q => c2 ((nIc (by omega) (by omega)).mp q))]
        exact go (o z) (by unfold xch; rw [if_neg c1, if_neg c2])
