/-! seeking the motions -/
theorem chg_c {σ : HS} {P : PP} {C : CC} {od : Nat → Nat} (w : WfP P) (rp : RepP σ P) (rc : RepC σ 20 P C) (ho : Ord σ (pn P) od) (hb : ∀ p, p < pn P → od p < pn P) (wc : WfC P C) : f0_changesFrom σ = some (nI (chg P C od (pn P)), σ) := by
  have h5 := w.1
  unfold f0_changesFrom f0_changesFrom_4
  refine wl_eq (fun p : Int32 × Int32 × HS => ∃ m, m ≤ pn P ∧ p = (nI (chg P C od m), nI m, σ)) (fun p => 10 - p.2.1.toNatClampNeg) _ _ ⟨0, by omega, rfl⟩ (by show 10 - _ < _; omega) ?_
  rintro kk _ ⟨m, hm, rfl⟩ ih
  dsimp only
  unfold f0_changesFrom_4_b f0_changesFrom_36
  rw [rp.1]
  by_cases c : pn P ≤ m
  · have : m = pn P := by omega
    subst this
    rw [if_pos (nI_le c (by omega))]
  · have o1 := hb m (by omega)
    have o2 := wc.2.2.2.1 m (by omega)
    have go : ∀ z : Nat, z = chg P C od (m + 1) → kk (nI z, nI m + 1, σ) = some (nI (chg P C od (pn P)), σ) := by
      rintro z rfl
      rw [nI_1]
      refine ih _ ⟨m + 1, by omega, rfl⟩ ?_
      show 10 - (nI (m + 1)).toNatClampNeg < 10 - (nI m).toNatClampNeg
      rw [nI_clamp (by omega), nI_clamp (by omega)]; omega
    rw [if_neg (nI_ge (by omega) (by omega)), if_neg (show ¬ (5 : Int32) ≤ nI m from nI_ge (b := 5) (by omega) (by omega)), who30 ho h5 (by omega), bd_s, whoAt_g rc w (by omega), bd_s]
    by_cases c1 : od m = co C m
    · rw [if_pos (by rw [c1])]
      exact go _ (by rw [chg, if_pos c1, Nat.add_zero])
    · rw [if_neg (fun z => c1 ((nIc (by omega) (by omega)).mp z)), nI_1]
      exact go _ (by rw [chg, if_neg c1])
def pack (od : Nat → Nat) : Nat → Nat
  | 0 => 0
  | p + 1 => pack od p + od p * 8 ^ p
theorem pack_b (od : Nat → Nat) (h : ∀ p, p < 5 → od p < 8) : ∀ m, m ≤ 5 → pack od m < 8 ^ m ∧ ∀ p, p < m → pack od m / 8 ^ p % 8 = od p := by
  intro m
  induction m with
  | zero => intro _; exact ⟨Nat.one_pos, fun p hp => absurd hp (Nat.not_lt_zero p)⟩
  | succ m ih =>
    intro hm
    obtain ⟨i1, i2⟩ := ih (by omega)
    have hm8 := h m (by omega)
    have pp : 0 < 8 ^ m := Nat.pow_pos (by omega)
    have mm : od m * 8 ^ m ≤ 7 * 8 ^ m := Nat.mul_le_mul_right _ (by omega)
    unfold pack
    refine ⟨by rw [Nat.pow_succ]; omega, fun p hp => ?_⟩
    by_cases c : p = m
    · rw [c, Nat.add_mul_div_right _ _ pp, Nat.div_eq_of_lt i1, Nat.zero_add, Nat.mod_eq_of_lt hm8]
    · have e : 8 ^ m = 8 ^ p * (8 * 8 ^ (m - p - 1)) := by
        rw [← Nat.mul_assoc, Nat.mul_comm (8 ^ p), ← Nat.pow_succ', ← Nat.pow_add]
        congr 1; omega
      rw [e, show od m * (8 ^ p * (8 * 8 ^ (m - p - 1))) = 8 ^ p * (8 * (od m * 8 ^ (m - p - 1))) by
        rw [Nat.mul_left_comm, Nat.mul_left_comm (od m) 8], Nat.add_mul_div_left _ _ (Nat.pow_pos (by omega)), Nat.add_mul_mod_self_left]
      exact i2 p (by omega)
theorem pack_c {σ : HS} {od : Nat → Nat} (ho : Ord σ 5 od) (hb : ∀ p, p < 5 → od p < 8) : f3_packedOrder σ = some (nI (pack od 5), σ) := by
  unfold f3_packedOrder f3_packedOrder_4
  refine wl_eq (fun p : Int32 × Int32 × HS => ∃ m, m ≤ 5 ∧ p = (nI (pack od m), nI m, σ)) (fun p => 10 - p.2.1.toNatClampNeg) _ _ ⟨0, by omega, rfl⟩ (by show 10 - _ < _; omega) ?_
  rintro kk _ ⟨m, hm, rfl⟩ ih
  dsimp only
  unfold f3_packedOrder_4_b
  by_cases c : 5 ≤ m
  · have : m = 5 := by omega
    subst this
    rw [if_pos (show (5 : Int32) ≤ nI 5 by decide)]
  · have o1 := hb m (by omega)
    have pb := (pack_b od hb m (by omega)).1
    have pb2 := (pack_b od hb (m + 1) (by omega)).1
    have e8 : (8 : Nat) ^ m = 2 ^ (3 * m) := by rw [Nat.pow_mul]
    have p15 : (8 : Nat) ^ (m + 1) ≤ 8 ^ 5 := Nat.pow_le_pow_right (by omega) (by omega)
    have e3m : nI m * (3 : Int32) = nI (3 * m) := by show nI m * nI 3 = _; rw [pk_mul, Nat.mul_comm]
    unfold pack at pb2
    rw [e8] at pb pb2
    rw [if_neg (show ¬ (5 : Int32) ≤ nI m from nI_ge (b := 5) (by omega) (by omega)), who30 ho (by omega) (by omega), bd_s, e3m]
    dsimp only
    rw [shl1 (by omega) (by omega), or32 pb (by omega), nI_1]
    refine ih _ ⟨m + 1, by omega, by rw [pack, e8]⟩ ?_
    show 10 - (nI (m + 1)).toNatClampNeg < 10 - (nI m).toNatClampNeg
    rw [nI_clamp (by omega), nI_clamp (by omega)]; omega
/-- noting the words of a day, where it has fewer changes than what stands -/
theorem note_c {σ : HS} {P : PP} {C : CC} {sd : Nat → Nat → Nat} {x r : Nat} {o : Nat → Nat} (w : WfP P) (wc : WfC P C) (rp : RepP σ P) (rc : RepC σ 30 P C) (hs : SaidOk P C sd) (dc : DayC σ 30 P C sd (turnsN P C)) (hx : x ≤ 6) (ho : ∀ k q, k < pn P → q < pw P k → σ.1 45 (3 * k + q) = nI (o (3 * k + q)) ∧ o (3 * k + q) ≤ 6) : ∃ σ', f3_noteWords (nI x) (nI r) σ = some σ' ∧ (∀ b, b ≠ 45 → b ≠ 46 → σ'.1 b = σ.1 b) ∧ σ'.2 = σ.2 ∧ ∀ k q, k < pn P → q < pw P k → (SaidDay P C sd k q (turnsN P C) ∧ x < o (3 * k + q) → σ'.1 45 (3 * k + q) = nI x ∧ σ'.1 46 (3 * k + q) = nI r) ∧ (¬ (SaidDay P C sd k q (turnsN P C) ∧ x < o (3 * k + q)) → σ'.1 45 (3 * k + q) = σ.1 45 (3 * k + q) ∧ σ'.1 46 (3 * k + q) = σ.1 46 (3 * k + q)) := by
  have h5 := w.1
  have h6 := turns_le C w
  unfold f3_noteWords f3_noteWords_2
  refine wl_fuel (body := fun k2 p => f3_noteWords_2_b k2 (nI x) (nI r) p.1 p.2) (fun p : Int32 × HS => ∃ t, t ≤ turnsN P C ∧ p.1 = nI t ∧ (∀ b, b ≠ 45 → b ≠ 46 → p.2.1 b = σ.1 b) ∧ p.2.2 = σ.2 ∧ ∀ k q, k < pn P → q < pw P k → (SaidDay P C sd k q t ∧ x < o (3 * k + q) → p.2.1 45 (3 * k + q) = nI x ∧ p.2.1 46 (3 * k + q) = nI r) ∧ (¬ (SaidDay P C sd k q t ∧ x < o (3 * k + q)) → p.2.1 45 (3 * k + q) = σ.1 45 (3 * k + q) ∧ p.2.1 46 (3 * k + q) = σ.1 46 (3 * k + q))) (fun p => 10 - p.1.toNatClampNeg) _ (0, σ) ⟨0, by omega, rfl, fun _ _ _ => rfl, rfl, fun k q _ _ => ⟨fun ⟨⟨t, ht, _⟩, _⟩ => absurd ht (Nat.not_lt_zero t), fun _ => ⟨rfl, rfl⟩⟩⟩ (by show 10 - _ < _; omega) ?_
  rintro kk ⟨x3, σ2⟩ ⟨t, ht, e, g1, g2, g3⟩ ih
  have e : x3 = nI t := e
  subst e
  have g1 : ∀ b, b ≠ 45 → b ≠ 46 → σ2.1 b = σ.1 b := g1
  have g2 : σ2.2 = σ.2 := g2
  have g3 : ∀ k q, k < pn P → q < pw P k → (SaidDay P C sd k q t ∧ x < o (3 * k + q) → σ2.1 45 (3 * k + q) = nI x ∧ σ2.1 46 (3 * k + q) = nI r) ∧ (¬ (SaidDay P C sd k q t ∧ x < o (3 * k + q)) → σ2.1 45 (3 * k + q) = σ.1 45 (3 * k + q) ∧ σ2.1 46 (3 * k + q) = σ.1 46 (3 * k + q)) := g3
  dsimp only
  unfold f3_noteWords_2_b f3_noteWords_84 f1_saidIn
  have rp2 : RepP σ2 P := rp.congr (fun y z1 z2 => ⟨g1 y (by omega) (by omega), by rw [g2]⟩)
  have rc2 : RepC σ2 30 P C := rc.congr (g1 30 (by omega) (by omega)) (g1 31 (by omega) (by omega))
  rw [turns_g rp2 rc2 w wc, bd_s]
  by_cases cT : turnsN P C ≤ t
  · have : t = turnsN P C := by omega
    subst this
    rw [if_pos (nI_le cT (by omega))]
    exact ⟨_, rfl, g1, g2, g3⟩
  · have hw := who_lt wc (show t < turnsN P C by omega)
    have h3 := (w.2.2.2 _ hw).2.2.1
    have h1 := hs t _ (by omega) (dok w wc hs t ht).1
    have sa : σ2.1 (30 + 8) t = cd (sd t (dday P C sd t).1) := by rw [g1 38 (by omega) (by omega)]; exact (dc.2.2.2.2.2 t (by omega)).1
    rw [if_neg (nI_ge (by omega) (by omega)), if_neg (show ¬ (6 : Int32) ≤ nI t from nI_ge (b := 6) (by omega) (by omega)), at_in (by omega) (by omega), bd_s, bd_s, sa]
    dsimp only
    rw [whoIn_g rp2 rc2 w wc (by omega), bd_s]
    have up : ∀ k q, SaidDay P C sd k q (t + 1) ↔ SaidDay P C sd k q t ∨ (who P C t = k ∧ sd t (dday P C sd t).1 = q) := fun k q => by
      constructor
      · rintro ⟨i, hi, e1, e2⟩
        rcases Nat.lt_or_ge i t with z | z
        · exact Or.inl ⟨i, z, e1, e2⟩
        · rw [show i = t by omega] at e1 e2; exact Or.inr ⟨e1, e2⟩
      · rintro (⟨i, hi, e1, e2⟩ | ⟨e1, e2⟩)
        · exact ⟨i, by omega, e1, e2⟩
        · exact ⟨t, by omega, e1, e2⟩
    have go : ∀ σ3 : HS, (∀ b, b ≠ 45 → b ≠ 46 → σ3.1 b = σ.1 b) → σ3.2 = σ.2 → (∀ k q, k < pn P → q < pw P k → (SaidDay P C sd k q (t + 1) ∧ x < o (3 * k + q) → σ3.1 45 (3 * k + q) = nI x ∧ σ3.1 46 (3 * k + q) = nI r) ∧ (¬ (SaidDay P C sd k q (t + 1) ∧ x < o (3 * k + q)) → σ3.1 45 (3 * k + q) = σ.1 45 (3 * k + q) ∧ σ3.1 46 (3 * k + q) = σ.1 46 (3 * k + q))) → ∃ r_1, kk (nI t + 1, σ3) = some r_1 ∧ (∀ b, b ≠ 45 → b ≠ 46 → r_1.1 b = σ.1 b) ∧ r_1.2 = σ.2 ∧ ∀ k q, k < pn P → q < pw P k → (SaidDay P C sd k q (turnsN P C) ∧ x < o (3 * k + q) → r_1.1 45 (3 * k + q) = nI x ∧ r_1.1 46 (3 * k + q) = nI r) ∧ (¬ (SaidDay P C sd k q (turnsN P C) ∧ x < o (3 * k + q)) → r_1.1 45 (3 * k + q) = σ.1 45 (3 * k + q) ∧ r_1.1 46 (3 * k + q) = σ.1 46 (3 * k + q)) := by
      intro σ3 f1 f2 f3
      rw [nI_1]
      refine ih _ ⟨t + 1, by omega, rfl, f1, f2, f3⟩ ?_
      show 10 - (nI (t + 1)).toNatClampNeg < 10 - (nI t).toNatClampNeg
      rw [nI_clamp (by omega), nI_clamp (by omega)]; omega
    by_cases c9 : sd t (dday P C sd t).1 = 9
    · have eP : ∃ y, f4_placeOfWord (nI (who P C t)) (cd (sd t (dday P C sd t).1)) σ2 = some (y, σ2) := ⟨_, rfl⟩
      obtain ⟨y, ey⟩ := eP
      rw [ey, bd_s, if_pos (by rw [c9]; rfl)]
      refine go σ2 g1 g2 (fun k q hk hq => ?_)
      have hq3 := (w.2.2.2 k hk).2.2.1
      have : SaidDay P C sd k q (t + 1) ↔ SaidDay P C sd k q t := by
        rw [up]; exact ⟨fun z => by rcases z with z | z; exact z; omega, Or.inl⟩
      rw [this]; exact g3 k q hk hq
    · have hqs : sd t (dday P C sd t).1 < pw P (who P C t) := by omega
      rw [cd_z (by omega), pow3, bd_s, if_neg (n9n _ (by omega)), at_in (by omega) (by omega), bd_s]
      dsimp only
      obtain ⟨o1, o2⟩ := ho _ _ hw hqs
      have old := g3 _ _ hw hqs
      by_cases cs : SaidDay P C sd (who P C t) (sd t (dday P C sd t).1) t ∧ x < o (3 * who P C t + sd t (dday P C sd t).1)
      · rw [(old.1 cs).1, if_pos (nI_le (Nat.le_refl _) (by omega))]
        refine go σ2 g1 g2 (fun k q hk hq => ?_)
        have : SaidDay P C sd k q (t + 1) ↔ SaidDay P C sd k q t := by
          rw [up]; exact ⟨fun z => by rcases z with z | ⟨z1, z2⟩; exact z; subst z1 z2; exact cs.1, Or.inl⟩
        rw [this]; exact g3 k q hk hq
      · rw [(old.2 cs).1, o1]
        by_cases co : o (3 * who P C t + sd t (dday P C sd t).1) ≤ x
        · rw [if_pos (nI_le co (by omega))]
          refine go σ2 g1 g2 (fun k q hk hq => ?_)
          have e : (SaidDay P C sd k q (t + 1) ∧ x < o (3 * k + q)) ↔ (SaidDay P C sd k q t ∧ x < o (3 * k + q)) := by
            rw [up]
            refine ⟨fun ⟨z, z3⟩ => ⟨?_, z3⟩, fun ⟨z, z3⟩ => ⟨Or.inl z, z3⟩⟩
            rcases z with z | ⟨z1, z2⟩
            · exact z
            · subst z1 z2; omega
          rw [e]; exact g3 k q hk hq
        · rw [if_neg (nI_ge (by omega) (by omega)), set_in (by omega) (by omega), bd_s, set_in (by omega) (by omega), bd_s]
          refine go _ (fun b b1 b2 => by rw [uI_other b2, uI_other b1]; exact g1 b b1 b2) g2 (fun k q hk hq => ?_)
          have hq3 := (w.2.2.2 k hk).2.2.1
          by_cases ce : who P C t = k ∧ sd t (dday P C sd t).1 = q
          · obtain ⟨z1, z2⟩ := ce
            subst z1 z2
            refine ⟨fun _ => ⟨?_, ?_⟩, fun z => absurd ⟨(up _ _).mpr (Or.inr ⟨rfl, rfl⟩), by omega⟩ z⟩
            · rw [uI_other (by omega), uI_at, if_pos ⟨rfl, rfl⟩]
            · rw [uI_at, if_pos ⟨rfl, rfl⟩]
          · have ne : ¬ 3 * k + q = 3 * who P C t + sd t (dday P C sd t).1 := fun z => ce ⟨by omega, by omega⟩
            have e : SaidDay P C sd k q (t + 1) ↔ SaidDay P C sd k q t := by
              rw [up]; exact ⟨fun z => by rcases z with z | z; exact z; exact absurd z ce, Or.inl⟩
            have a1 : ∀ (a b : Nat) (y1 y2 : Int32), (uI (uI σ2 45 a y1) 46 a y2).1 45 b = if b = a then y1 else σ2.1 45 b := fun a b y1 y2 => by
              rw [uI_other (by omega), uI_at]; by_cases c : b = a <;> simp [c]
            have a2 : ∀ (a b : Nat) (y1 y2 : Int32), (uI (uI σ2 45 a y1) 46 a y2).1 46 b = if b = a then y2 else σ2.1 46 b := fun a b y1 y2 => by
              rw [uI_at, uI_other (by omega)]; by_cases c : b = a <;> simp [c]
            rw [a1, a2, if_neg ne, if_neg ne, e]
            exact g3 k q hk hq
