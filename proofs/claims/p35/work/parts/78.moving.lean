/-! a motion, asked row by row -/
theorem wasL {sL : Nat} {a0 : Nat → Int32} (k85 : (Nat → Int32) × Int32 × HS × Nat → Option Int32) {a2 a3 : Nat → Int32} {x5 x10 x25 x26 x27 : Int32} {a28 : Nat → Int32} {x29 : Int32} {σ : HS} {g : Nat} {P : PP} {C : CC} (hL : LwA a2 a3 P C) (hg : g < 80000)
    (hK : ∀ a30, (∀ p, p < pn P → a30 p = nI (co C p)) → g_law_1918 sL a0 k85 a3 (nI (pn P)) x5 x10 x25 x26 x27 a28 x29 a30 (a2, 99, (fun _ => 0), x29 - 1, σ, g + 1) = some 1) :
    g_law_1878 sL a0 k85 a2 a3 (nI (pn P)) x5 x10 x25 x26 x27 a28 x29 σ g ((fun _ => 0), 0) = some 1 := by
  have h4 := hL.2.1
  have ho := hL.2.2.2.2.2.2.2
  unfold g_law_1878
  refine wl_to (fun s : (Nat → Int32) × Int32 => ∃ p, p ≤ pn P ∧ s.2 = nI p ∧ ∀ i, i < p → s.1 i = nI (co C i)) (fun s => 10 - s.2.toNatClampNeg) _ _ ⟨0, by omega, rfl, fun i hi => absurd hi (Nat.not_lt_zero i)⟩ (by show 10 - _ < _; omega) ?_
  rintro k1878 ⟨a30, x31⟩ ⟨p, hp, e1, e2⟩ ih
  have e1 : x31 = nI p := e1
  subst e1
  have e2 : ∀ i, i < p → a30 i = nI (co C i) := e2
  dsimp only
  unfold g_law_1878_b
  by_cases c : pn P ≤ p
  · have : p = pn P := by omega
    subst this
    rw [if_pos (nI_le c (by omega)), if_neg (by omega)]
    exact hK a30 e2
  · rw [if_neg (nI_ge (by omega) (by omega)), le14, ix_in (by omega) (by omega), ix_in (by omega) (by omega), nI_clamp (by omega), nI_clamp (by omega), ho p (by omega), bd_s, nI_1]
    refine ih _ ⟨p + 1, by omega, rfl, fun i hi => ?_⟩ ?_
    · show upd a30 p _ i = _
      by_cases ci : i = p
      · rw [ci, upS]
      · rw [upN ci]; exact e2 i (by omega)
    · show 10 - (nI (p + 1)).toNatClampNeg < 10 - (nI p).toNatClampNeg
      rw [nI_clamp (by omega), nI_clamp (by omega)]; omega
def pfc (i : Nat) : Nat := if i = 2 then 1 else if i = 3 then 2 else if i = 4 then 6 else 24
theorem facL {sL : Nat} {a0 : Nat → Int32} (k85 : (Nat → Int32) × Int32 × HS × Nat → Option Int32) {a2 a3 : Nat → Int32} {x5 x10 x25 x26 x27 : Int32} {a28 : Nat → Int32} {σ : HS} {g n : Nat} (h2 : 2 ≤ n) (h4 : n ≤ 4) (hg : g < 80000)
    (hK : g_law_1878 sL a0 k85 a2 a3 (nI n) x5 x10 x25 x26 x27 a28 (nI (fac n)) σ (g + 1) ((fun _ => 0), 0) = some 1) :
    g_law_1850 sL a0 k85 a2 a3 (nI n) x5 x10 x25 x26 x27 a28 σ g (1, 2) = some 1 := by
  unfold g_law_1850
  refine wl_to (fun s : Int32 × Int32 => ∃ i, 2 ≤ i ∧ i ≤ n + 1 ∧ s = (nI (pfc i), nI i)) (fun s => 10 - s.2.toNatClampNeg) _ _ ⟨2, by omega, by omega, rfl⟩ (by show 10 - _ < _; omega) ?_
  rintro k1850 _ ⟨i, hi2, hi, rfl⟩ ih
  dsimp only
  unfold g_law_1850_b
  by_cases c : n < i
  · have e : i = n + 1 := by omega
    subst e
    rw [if_pos (nI_lt c (by omega)), if_neg (by omega)]
    have : pfc (n + 1) = fac n := by
      have : n = 2 ∨ n = 3 ∨ n = 4 := by omega
      rcases this with rfl | rfl | rfl <;> rfl
    rw [this]
    exact hK
  · rw [if_neg (nI_nlt (by omega) (by omega)), nI_1, pk_mul]
    refine ih _ ⟨i + 1, by omega, by omega, ?_⟩ ?_
    · have : pfc i * i = pfc (i + 1) := by
        have : i = 2 ∨ i = 3 ∨ i = 4 := by omega
        rcases this with rfl | rfl | rfl <;> rfl
      rw [this]
    · show 10 - (nI (i + 1)).toNatClampNeg < 10 - (nI i).toNatClampNeg
      rw [nI_clamp (by omega), nI_clamp (by omega)]; omega
/-- what it says next is what it said -/
theorem mo_next {j : Nat} {σ τ : HS} {P : PP} {C : CC} (hB : InvB j σ τ P C) (hj : j < 512) (hn : 0 < pn P) {k q : Nat} (hk : k < pn P) (hq : q < pw P k) {x : Int32} {a : Nat → Int32} {p : Nat} (hp : p < pn P) (hm : MoA P C k q x a p) : ∃ v σ', f8_motion (nI k) (nI q) (nI p) σ = some (v, σ') ∧ InvB (j + 1) σ' τ P C ∧ MoA P C k q x (upd a p v) (p + 1) := by
  obtain ⟨σ', h1, h2⟩ := motion_d hB hj hn hk hq
  have key : ∀ (v : Int32) (f : Nat → Int32), f p = v → (∀ i, i < p → a i = f i) → ∀ i, i < p + 1 → upd a p v i = f i := by
    intro v f z1 z2 i hi
    by_cases ci : i = p
    · rw [ci, upS, z1]
    · rw [upN ci]; exact z2 i (by omega)
  rcases h2 with ⟨h3, h4⟩ | ⟨R, h3, h4, h5⟩
  · refine ⟨-9, σ', h3 _ (Or.inr ⟨p, hp, rfl⟩), h1, ?_⟩
    rcases hm with ⟨m1, m2, m3⟩ | ⟨R, m1, m2, m3⟩
    · exact Or.inl ⟨m1, key _ (fun _ => -9) rfl m2, m3⟩
    · exact absurd m1.2.2.1 (h4 R m1.1 m1.2.1)
  · refine ⟨_, σ', h5 p hp, h1, ?_⟩
    rcases hm with ⟨m1, m2, m3⟩ | ⟨R', m1, m2, m3⟩
    · exact absurd h3.2.2.1 (m3 R h3.1 h3.2.1)
    · have := h3.uniq m1
      subst this
      exact Or.inr ⟨R, m1, m2, key _ (fun p => nI (dgt (pn P) R p)) rfl m3⟩
theorem mo_first {j : Nat} {σ τ : HS} {P : PP} {C : CC} (hB : InvB j σ τ P C) (hj : j < 512) (hn : 0 < pn P) {k q : Nat} (hk : k < pn P) (hq : q < pw P k) (a : Nat → Int32) : ∃ v σ', f8_motion (nI k) (nI q) (-1) σ = some (v, σ') ∧ InvB (j + 1) σ' τ P C ∧ MoA P C k q v a 0 := by
  obtain ⟨σ', h1, h2⟩ := motion_d hB hj hn hk hq
  rcases h2 with ⟨h3, h4⟩ | ⟨R, h3, h4, h5⟩
  · exact ⟨-9, σ', h3 _ (Or.inl rfl), h1, Or.inl ⟨rfl, fun i hi => absurd hi (Nat.not_lt_zero i), h4⟩⟩
  · exact ⟨_, σ', h4, h1, Or.inr ⟨R, h3, rfl, fun i hi => absurd hi (Nat.not_lt_zero i)⟩⟩
theorem motL {sL : Nat} {a0 : Nat → Int32} (k85 : (Nat → Int32) × Int32 × HS × Nat → Option Int32) {a2 a3 : Nat → Int32} {x5 x27 : Int32} {σ τ : HS} {g j : Nat} {P : PP} {C0 : CC} {k q : Nat}
    (hB : InvB j σ τ P C0) (hj : j + 30 < 512) (hg : g + 30 < 80000) (hL : LwA a2 a3 P C0) (hS : ShF τ) (hk : k < pn P) (hq : q < pw P k) (hd : τ.1 0 29 = nI 4) (hm : MoA P C0 k q x27 (fun _ => 0) 0)
    (hK : ∀ a2' τ' σ' g' j' C', InvB j' σ' τ' P C' → LwA a2' a3 P C' → ShF τ' → cl C' = cl C0 → j' ≤ j + 30 → g' ≤ g + 30 → k85 (a2', x5 + 1, σ', g') = some 1) :
    g_law_1773 sL a0 k85 a2 a3 (nI (pn P)) x5 (nI (turnsN P C0)) (nI k) (nI q) x27 g ((fun _ => 0), 0, σ) = some 1 := by
  have h2 := hL.1
  have h4 := hL.2.1
  unfold g_law_1773
  refine wl_to (fun s : (Nat → Int32) × Int32 × HS => ∃ p, p ≤ pn P ∧ s.2.1 = nI p ∧ InvB (j + p) s.2.2 τ P C0 ∧ MoA P C0 k q x27 s.1 p) (fun s => 10 - s.2.1.toNatClampNeg) _ _ ⟨0, by omega, rfl, hB, hm⟩ (by show 10 - _ < _; omega) ?_
  rintro k1773 ⟨a28, x29, σ1⟩ ⟨p, hp, e1, e2, e3⟩ ih
  have e1 : x29 = nI p := e1
  subst e1
  have e2 : InvB (j + p) σ1 τ P C0 := e2
  have e3 : MoA P C0 k q x27 a28 p := e3
  dsimp only
  unfold g_law_1773_b
  by_cases c : pn P ≤ p
  · have e : p = pn P := by omega
    subst e
    obtain ⟨w, wc, rp, -, -, -, rl, -⟩ := id e2
    have h3 := (w.2.2.2 k hk).2.2.1
    have hw := (hL.2.2.2.2.2.2.1 k hk).1
    rw [if_pos (nI_le c (by omega)), motion_p rp w hk hq, bd_s, if_pos rfl, le9, ix_in (by omega) (by omega), nI_clamp (by omega), hw, motion_n rp w (Or.inr ⟨k, hk, rfl, Or.inr (by rw [nI_toInt (by omega)]; exact Int.le_refl _)⟩) 0, bd_s, if_pos rfl, many_5 rl hd (by omega), bd_s, if_pos (show (nI 4 : Int32) = 4 from rfl)]
    refine facL k85 h2 h4 (by omega) (wasL k85 hL (by omega) (fun a30 hwas => numL k85 e2 (by omega) (by omega) hL hS hwas hk hq e3 (fun a2' τ' σ' g' j' C' z1 z2 z3 z4 z5 z6 => hK a2' τ' σ' g' j' C' z1 z2 z3 z4 (by omega) (by omega))))
  · obtain ⟨v, σ2, m1, m2, m3⟩ := mo_next e2 (by omega) (by omega) hk hq (p := p) (by omega) e3
    rw [if_neg (nI_ge (by omega) (by omega)), m1, bd_s]
    dsimp only
    rw [ix_in (by omega) (by omega), nI_clamp (by omega), bd_s, nI_1]
    refine ih _ ⟨p + 1, by omega, rfl, m2, m3⟩ ?_
    show 10 - (nI (p + 1)).toNatClampNeg < 10 - (nI p).toNatClampNeg
    rw [nI_clamp (by omega), nI_clamp (by omega)]; omega
