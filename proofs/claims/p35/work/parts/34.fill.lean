/-! opening states, settling them all -/
def OpenInv (σ : HS) (g mk n : Nat) (L : Nat → Nat) : Prop := σ.1 (g + 2) 7 = nI mk ∧ σ.1 (g + 2) 5 = nI n ∧ (∀ i, i < n → σ.1 (g + 5) i = nI (L i) ∧ L i < 600) ∧ (∀ i k, i < n → k < n → L i = L k → i = k) ∧ ∀ s, s < 600 → ∃ c, c ≤ mk ∧ σ.1 (g + 6) s = nI c ∧ (c = mk ↔ ∃ i, i < n ∧ L i = s)
theorem open_600 {n : Nat} {L : Nat → Nat} (h1 : ∀ i, i < n → L i < 600) (h2 : ∀ i k, i < n → k < n → L i = L k → i = k) : n ≤ 600 := by
  rcases Nat.lt_or_ge 600 n with c | c
  · obtain ⟨i, hi, e⟩ := onto 601 L (fun i hi => by have := h1 i (by omega); omega) (fun i k hi hk => h2 i k (by omega) (by omega)) 600 (by omega)
    have := h1 i (by omega)
    omega
  · exact c
/-- only the cells of a plan's making changed -/
def FrP (g : Nat) (σ σ' : HS) : Prop := (∀ b, b ≠ g + 2 → b ≠ g + 5 → b ≠ g + 6 → σ'.1 b = σ.1 b) ∧ σ'.2 = σ.2 ∧ ∀ y, y ≠ 5 → σ'.1 (g + 2) y = σ.1 (g + 2) y
theorem FrP.rfl' (g : Nat) (σ : HS) : FrP g σ σ := ⟨fun _ _ _ _ => rfl, rfl, fun _ _ => rfl⟩
theorem FrP.tr {g : Nat} {a b c : HS} (h : FrP g a b) (h2 : FrP g b c) : FrP g a c := ⟨fun x h7 h8 h9 => (h2.1 x h7 h8 h9).trans (h.1 x h7 h8 h9), h2.2.1.trans h.2.1, fun y hy => (h2.2.2 y hy).trans (h.2.2 y hy)⟩
theorem FrP.rp {g : Nat} {a b : HS} (h : FrP g a b) (hg : 20 ≤ g) {P : PP} (r : RepP a P) : RepP b P := r.congr (fun x z1 z2 => ⟨h.1 x (by omega) (by omega) (by omega), by rw [h.2.1]⟩)
theorem FrP.rc {g : Nat} {a b : HS} (h : FrP g a b) {P : PP} {C : CC} (r : RepC a g P C) : RepC b g P C := r.congr (h.1 g (by omega) (by omega) (by omega)) (h.1 (g + 1) (by omega) (by omega) (by omega))
theorem open_c {σ : HS} {g mk n T t x : Nat} {L : Nat → Nat} (hI : OpenInv σ g mk n L) (hm : mk < 1000000) (h8 : σ.1 (g + 2) 8 = nI T) (hT : T ≤ 6) (hx : x ≤ 99) (ht : t ≤ 6) : ∃ (σ' : HS) (n' : Nat) (L' : Nat → Nat), f5_openState g (nI t) (nI x) σ = some σ' ∧ FrP g σ σ' ∧ OpenInv σ' g mk n' L' ∧ n ≤ n' ∧ n' ≤ n + 1 ∧ (∀ i, i < n → L' i = L i) ∧ (t < T → ∃ i, i < n' ∧ L' i = 100 * t + x) ∧ (∀ i, n ≤ i → i < n' → L' i = 100 * t + x ∧ t < T) := by
  unfold f5_openState
  rw [e100s, bd_s, h8]
  by_cases c : T ≤ t
  · rw [if_pos (nI_le c (by omega))]
    exact ⟨σ, n, L, rfl, FrP.rfl' _ _, hI, Nat.le_refl _, by omega, fun _ _ => rfl, fun h => absurd h (by omega), fun i h1 h2 => absurd h1 (by omega)⟩
  · obtain ⟨o1, o2, o3, o4, o5⟩ := hI
    obtain ⟨cc, q1, q2, q3⟩ := o5 (100 * t + x) (by omega)
    rw [if_neg (nI_ge (by omega) (by omega)), at_in (by omega) (by omega), bd_s, q2, o1]
    by_cases ce : cc = mk
    · rw [if_pos (by rw [ce])]
      exact ⟨σ, n, L, rfl, FrP.rfl' _ _, ⟨o1, o2, o3, o4, o5⟩, Nat.le_refl _, by omega, fun _ _ => rfl, fun h => q3.mp ce, fun i h1 h2 => absurd h1 (by omega)⟩
    · have nn : ¬ ∃ i, i < n ∧ L i = 100 * t + x := fun z => ce (q3.mpr z)
      have n6 : n + 1 ≤ 600 := open_600 (L := fun i => if i = n then 100 * t + x else L i) (fun i hi => by
          split
          · omega
          · exact (o3 i (by omega)).2) (fun i k hi hk e => by
          split at e <;> split at e
          · omega
          · exact absurd ⟨k, by omega, e.symm⟩ nn
          · exact absurd ⟨i, by omega, e⟩ nn
          · exact o4 i k (by omega) (by omega) e)
      rw [if_neg (fun z => ce ((nIc (by omega) (by omega)).mp z)), set_in (by omega) (by omega), bd_s, show (uI σ (g + 6) (100 * t + x) (nI mk)).1 (g + 2) 5 = nI n by rw [uI_other (by omega)]; exact o2, set_in (by omega) (by omega), bd_s]
      rw [show (uI (uI σ (g + 6) (100 * t + x) (nI mk)) (g + 5) n (nI (100 * t + x))).1 (g + 2) 5 = nI n by rw [uI_other (by omega), uI_other (by omega)]; exact o2, nI_1]
      refine ⟨_, n + 1, fun i => if i = n then 100 * t + x else L i, rfl, ⟨fun b h2 h5 h6 => by rw [uI_other h2, uI_other h5, uI_other h6], rfl, fun y hy => by rw [uI_at, if_neg (fun z => hy z.2), uI_other (by omega), uI_other (by omega)]⟩, ⟨?_, ?_, fun i hi => ?_, fun i k hi hk e => ?_, fun s hs => ?_⟩, by omega, Nat.le_refl _, fun i hi => if_neg (by omega), fun _ => ⟨n, by omega, if_pos rfl⟩, fun i h1 h2 => ⟨if_pos (by omega), by omega⟩⟩
      · rw [uI_at, if_neg (by omega), uI_other (by omega), uI_other (by omega)]; exact o1
      · rw [uI_at, if_pos ⟨rfl, rfl⟩]
      · rw [uI_other (by omega), uI_at]
        by_cases ci : i = n
        · subst ci; simp; omega
        · simp [ci, uI_at]; exact o3 i (by omega)
      · dsimp only at e
        split at e <;> split at e
        · omega
        · exact absurd ⟨k, by omega, e.symm⟩ nn
        · exact absurd ⟨i, by omega, e⟩ nn
        · exact o4 i k (by omega) (by omega) e
      · rw [uI_other (by omega), uI_other (by omega), uI_at]
        by_cases cs : s = 100 * t + x
        · refine ⟨mk, Nat.le_refl _, by rw [if_pos ⟨rfl, cs⟩], fun _ => ⟨n, by omega, by rw [cs]; exact if_pos rfl⟩, fun _ => rfl⟩
        · obtain ⟨c2, r1, r2, r3⟩ := o5 s hs
          refine ⟨c2, r1, by rw [if_neg (fun z => cs z.2)]; exact r2, fun z => ?_, fun z => ?_⟩
          · obtain ⟨i, y1, y2⟩ := r3.mp z
            exact ⟨i, by omega, by dsimp only; rw [if_neg (by omega)]; exact y2⟩
          · obtain ⟨i, y1, y2⟩ := z
            dsimp only at y2
            split at y2
            · omega
            · exact r3.mpr ⟨i, by omega, y2⟩
theorem beginMk {σ : HS} {g m : Nat} {P : PP} {C : CC} (hg : 20 ≤ g) (rp : RepP σ P) (rc : RepC σ g P C) (w : WfP P) (wc : WfC P C) (hm : MkAt σ g m) : ∃ (σ' : HS) (a : Nat), a ≤ m ∧ f5_beginMaking g σ = some σ' ∧ OpenInv σ' g (a + 1) 0 (fun _ => 0) ∧ σ'.1 (g + 2) 8 = nI (turnsN P C) ∧ (∀ b, b ≠ g + 2 → σ'.1 b = σ.1 b) ∧ σ'.2 = σ.2 ∧ ∀ y, y ≠ 5 → y ≠ 7 → y ≠ 8 → σ'.1 (g + 2) y = σ.1 (g + 2) y := by
  obtain ⟨a, h1, h2, h3⟩ := hm
  unfold f5_beginMaking
  rw [h2, nI_1]
  have f : ∀ b, b ≠ g + 2 → (uI (uI σ (g + 2) 7 (nI (a + 1))) (g + 2) 5 0).1 b = σ.1 b := fun b hb => by rw [uI_other hb, uI_other hb]
  rw [turns_g (P := P) (C := C) (rp.congr (fun x z1 z2 => ⟨f x (by omega), rfl⟩)) (rc.congr (f g (by omega)) (f (g + 1) (by omega))) w wc, bd_s]
  refine ⟨_, a, h1, rfl, ⟨?_, ?_, fun i hi => absurd hi (Nat.not_lt_zero i), fun i k hi => absurd hi (Nat.not_lt_zero i), fun s hs => ?_⟩, ?_, fun b hb => by rw [uI_other hb]; exact f b hb, rfl, fun y h5 h7 h8 => ?_⟩
  · simp [uI_at]
  · simp [uI_at]; rfl
  · obtain ⟨c, c1, c2⟩ := h3 s hs
    refine ⟨c, by omega, ?_, fun z => absurd z (by omega), fun z => ?_⟩
    · rw [uI_other (by omega), f _ (by omega)]; exact c2
    · obtain ⟨i, hi, _⟩ := z
      exact absurd hi (Nat.not_lt_zero i)
  · simp [uI_at]
  · simp [uI_at, h5, h7, h8]
theorem OpenInv.mk {σ : HS} {g mk n : Nat} {L : Nat → Nat} (h : OpenInv σ g mk n L) : MkAt σ g mk := ⟨mk, Nat.le_refl _, h.1, fun s hs => by obtain ⟨c, c1, c2, _⟩ := h.2.2.2.2 s hs; exact ⟨c, c1, c2⟩⟩
/-- what is opened: levels in order; what can come behind is opened too -/
def Closed (P : PP) (C : CC) (n : Nat) (L : Nat → Nat) : Prop := (∀ i, i < n → L i / 100 < turnsN P C ∧ L i % 100 ≤ pj P) ∧ (∀ i k, i ≤ k → k < n → L i / 100 ≤ L k / 100) ∧ ∀ i, i < n → L i / 100 + 1 < turnsN P C → ∀ y, Succ P C (who P C (L i / 100)) (L i % 100) y → ∃ k, k < n ∧ L k = 100 * (L i / 100 + 1) + y
def EntAt (σ : HS) (g m : Nat) (P : PP) (C : CC) (s : Nat) : Prop := σ.1 (g + 3) s = cd (plan m P C (turnsN P C - s / 100) (s % 100)).1 ∧ σ.2 (g + 4) s = lN (pkw (plan m P C (turnsN P C - s / 100) (s % 100)).2 5)
theorem settleAll_c {σ : HS} {g m mk n : Nat} {P : PP} {C : CC} {L : Nat → Nat} (hg : 20 ≤ g) (rp : RepP σ P) (rc : RepC σ g P C) (w : WfP P) (wc : WfC P C) (hm : m = 0 ∨ m = 1) (hO : OpenInv σ g mk n L) (h8 : σ.1 (g + 2) 8 = nI (turnsN P C)) (hC : Closed P C n L) : ∃ σ', f5_settleAll g (nI m) σ = some σ' ∧ (∀ b, b ≠ g + 3 → σ'.1 b = σ.1 b) ∧ (∀ b, b ≠ g + 4 → σ'.2 b = σ.2 b) ∧ ∀ i, i < n → EntAt σ' g m P C (L i) := by
  have h99 := w.2.1
  have h6 := turns_le C w
  have n6 : n ≤ 600 := open_600 (fun i hi => (hO.2.2.1 i hi).2) hO.2.2.2.1
  unfold f5_settleAll f5_settleAll_7
  rw [hO.2.1]
  have start : nI n - 1 = if n = 0 then -1 else nI (n - 1) := by
    by_cases c : n = 0
    · rw [if_pos c, c]; rfl
    · rw [if_neg c]; show nI n - nI 1 = _; rw [pk_sub (by omega)]
  rw [start]
  refine wl_fuel (body := fun k7 p => f5_settleAll_7_b g k7 (nI m) p.1 p.2) (fun p : Int32 × HS => ∃ r, r ≤ n ∧ p.1 = (if r = 0 then -1 else nI (r - 1)) ∧ (∀ b, b ≠ g + 3 → p.2.1 b = σ.1 b) ∧ (∀ b, b ≠ g + 4 → p.2.2 b = σ.2 b) ∧ ∀ i, r ≤ i → i < n → EntAt p.2 g m P C (L i)) (fun p => if p.1 = -1 then 0 else p.1.toNatClampNeg + 1) _ _ ⟨n, Nat.le_refl _, rfl, fun _ _ => rfl, fun _ _ => rfl, fun i h1 h2 => absurd h1 (by omega)⟩ ?_ ?_
  · dsimp only
    by_cases c : n = 0
    · rw [if_pos (by rw [if_pos c])]; omega
    · rw [if_neg c, if_neg (nI_m1 (by omega)), nI_clamp (by omega)]; omega
  · rintro kk ⟨x2, σ2⟩ ⟨r, hr, e, g1, g2, g3⟩ ih
    have e : x2 = (if r = 0 then -1 else nI (r - 1)) := e
    subst e
    have g1 : ∀ b, b ≠ g + 3 → σ2.1 b = σ.1 b := g1
    have g2 : ∀ b, b ≠ g + 4 → σ2.2 b = σ.2 b := g2
    have g3 : ∀ i, r ≤ i → i < n → EntAt σ2 g m P C (L i) := g3
    show ∃ s, f5_settleAll_7_b g kk (nI m) (if r = 0 then -1 else nI (r - 1)) σ2 = some s ∧ _
    unfold f5_settleAll_7_b
    by_cases c : r = 0
    · rw [if_pos c, if_pos m1lt0]
      exact ⟨σ2, rfl, g1, g2, fun i hi => g3 i (by omega) hi⟩
    · obtain ⟨L1, L2⟩ := hO.2.2.1 (r - 1) (by omega)
      obtain ⟨D1, D2⟩ := hC.1 (r - 1) (by omega)
      have rp2 : RepP σ2 P := rp.congr (fun x z1 z2 => ⟨g1 x (by omega), g2 x (by omega)⟩)
      have rc2 : RepC σ2 g P C := rc.congr (g1 g (by omega)) (g1 (g + 1) (by omega))
      have hb := fun y j (hj : j < 5) => (plan_b (m := m) (C := C) w wc (turnsN P C - (L (r - 1) / 100 + 1)) y (by omega)).1 j
      have st := settle_c (t := L (r - 1) / 100) (x := L (r - 1) % 100) (Vn := fun y => (plan m P C (turnsN P C - (L (r - 1) / 100 + 1)) y).2) hg rp2 rc2 w wc hm D1 D2 (fun y j hj => by have := hb y j hj; omega) (fun y hy => by
        unfold f5_worthsFrom
        rw [g1 (g + 2) (by omega), h8]
        by_cases ct : turnsN P C ≤ L (r - 1) / 100 + 1
        · rw [if_pos (nI_le ct (by omega)), show turnsN P C - (L (r - 1) / 100 + 1) = 0 by omega]
          show some ((0 : Int64), σ2) = some (lN (pkw (fun _ => 0) 5), σ2)
          rw [pkw5]; rfl
        · obtain ⟨k, hk, ek⟩ := hC.2.2 (r - 1) (by omega) (by omega) y hy
          have hkr : r ≤ k := by
            rcases Nat.lt_or_ge k r with z | z
            · have := hC.2.1 k (r - 1) (by omega) (by omega)
              rw [ek] at this
              omega
            · exact z
          have hy2 : y ≤ pj P := by
            rcases hy with z | ⟨q, q1, q2, z⟩
            · rw [z]; exact bh_le D2
            · rw [z]; exact bh_le (by omega)
          have en := (g3 k hkr hk).2
          rw [ek, show (100 * (L (r - 1) / 100 + 1) + y) / 100 = L (r - 1) / 100 + 1 by omega, show (100 * (L (r - 1) / 100 + 1) + y) % 100 = y by omega] at en
          rw [if_neg (nI_ge (by omega) (by omega)), e100s, bd_s, lat_in (by omega) (by omega), bd_s, en])
      rw [if_neg c, if_neg (nI_pos (by omega)), at_in (by omega) (by omega), bd_s, g1 (g + 5) (by omega), L1]
      dsimp only
      have ed : nI (L (r - 1)) / (100 : Int32) = nI (L (r - 1) / 100) := pk_div (d := 100) (by omega) (by omega) (by omega)
      have em : nI (L (r - 1)) - nI (L (r - 1)) / (100 : Int32) * (100 : Int32) = nI (L (r - 1) % 100) := pk_rem (d := 100) (by omega) (by omega) (by omega)
      rw [em, ed, st, bd_s, show nI (r - 1) + (-1) = (if r - 1 = 0 then -1 else nI (r - 1 - 1)) by
        by_cases c2 : r - 1 = 0
        · rw [if_pos c2, c2]; rfl
        · rw [if_neg c2]
          have := pk_m1 (r - 1 - 1)
          rw [show r - 1 - 1 + 1 = r - 1 by omega] at this
          exact this]
      refine ih _ ⟨r - 1, by omega, rfl, fun b hb2 => ?_, fun b hb2 => ?_, fun i h1 h2 => ?_⟩ ?_
      · show (uL _ _ _ _).1 b = _
        rw [uL_1, uI_other hb2]; exact g1 b hb2
      · show (uL _ _ _ _).2 b = _
        rw [uL_other hb2, uI_2]; exact g2 b hb2
      · have step : (plan m P C (turnsN P C - L (r - 1) / 100) (L (r - 1) % 100)) = ((pbest m P C (fun y => (plan m P C (turnsN P C - (L (r - 1) / 100 + 1)) y).2) (who P C (L (r - 1) / 100)) (L (r - 1) % 100) (nWords m P (who P C (L (r - 1) / 100)))).1, (pbest m P C (fun y => (plan m P C (turnsN P C - (L (r - 1) / 100 + 1)) y).2) (who P C (L (r - 1) / 100)) (L (r - 1) % 100) (nWords m P (who P C (L (r - 1) / 100)))).2.2) := by
          have e1 : turnsN P C - L (r - 1) / 100 = (turnsN P C - (L (r - 1) / 100 + 1)) + 1 := by omega
          rw [e1]
          rw [plan]
          rw [show turnsN P C - (turnsN P C - (L (r - 1) / 100 + 1) + 1) = L (r - 1) / 100 by omega]
        have sp : 100 * (L (r - 1) / 100) + L (r - 1) % 100 = L (r - 1) := by omega
        show EntAt (uL _ _ _ _) g m P C (L i)
        unfold EntAt
        rw [uL_1, uL_at, uI_at, uI_2, sp]
        by_cases ci : L i = L (r - 1)
        · rw [ci, if_pos ⟨rfl, rfl⟩, if_pos ⟨rfl, rfl⟩, step]; exact ⟨rfl, rfl⟩
        · rw [if_neg (fun z => ci z.2), if_neg (fun z => ci z.2)]
          refine g3 i ?_ h2
          rcases Nat.lt_or_ge i r with z | z
          · exact absurd (by rw [show i = r - 1 by omega]) ci
          · exact z
      · dsimp only
        rw [if_neg c, if_neg (nI_m1 (by omega)), nI_clamp (by omega)]
        by_cases c2 : r - 1 = 0
        · rw [if_pos c2]
          rw [if_pos rfl]; omega
        · rw [if_neg c2, if_neg (nI_m1 (by omega)), nI_clamp (by omega)]; omega
