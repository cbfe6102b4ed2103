/-! bits; guess -/
theorem or32 {a d k : Nat} (h : a < 2 ^ k) (hb : a + d * 2 ^ k < 2 ^ 32) : nI a ||| nI (d * 2 ^ k) = nI (a + d * 2 ^ k) := by
  apply Int32.toBitVec_inj.mp
  apply BitVec.eq_of_toNat_eq
  rw [Int32.toBitVec_or, BitVec.toNat_or, pk_tn (by omega), pk_tn (by omega), pk_tn hb, Nat.or_comm, Nat.mul_comm d, ← Nat.two_pow_add_eq_or_of_lt h, Nat.add_comm]
theorem sm32 : ∀ L : Fin 32, ((nI L.1).toBitVec.smod 32).toNat = L.1 := by decide
theorem and31 {L : Nat} (h : L < 32) : nI L &&& 31 = nI L := by
  rw [pk_andN (by omega) 5 (m := 31) (by decide), Nat.mod_eq_of_lt (by omega)]
theorem shl1 {a L : Nat} (h : L < 32) (hb : a * 2 ^ L < 2 ^ 32) : nI a <<< (nI L &&& 31) = nI (a * 2 ^ L) := by
  rw [and31 h]; exact pk_shlN (nI L) L (sm32 ⟨L, h⟩) hb
theorem shr1 {a L : Nat} (h : L < 32) (ha : a < 2 ^ 31) : nI a >>> (nI L &&& 31) = nI (a / 2 ^ L) := by
  rw [and31 h]; exact pk_shrN ha (nI L) L (sm32 ⟨L, h⟩)
def mB (b : Nat → Bool) : Nat → Nat
  | 0 => 0
  | n + 1 => mB b n + (if b n = true then 1 else 0) * 2 ^ n
theorem mB_lt (b : Nat → Bool) : ∀ n, mB b n < 2 ^ n := by
  intro n
  induction n with
  | zero => exact Nat.one_pos
  | succ n ih =>
    unfold mB
    rw [Nat.pow_succ]
    split <;> omega
theorem mB_bit (b : Nat → Bool) : ∀ n L, L < n → mB b n / 2 ^ L % 2 = if b L = true then 1 else 0 := by
  intro n
  induction n with
  | zero => intro L h; exact absurd h (Nat.not_lt_zero L)
  | succ n ih =>
    intro L h
    have lt := mB_lt b n
    have pp : 0 < 2 ^ n := Nat.two_pow_pos n
    unfold mB
    by_cases c : L = n
    · subst c
      rw [Nat.add_mul_div_right _ _ pp, Nat.div_eq_of_lt lt]
      split <;> rfl
    · have e : 2 ^ n = 2 ^ L * (2 * 2 ^ (n - L - 1)) := by
        rw [← Nat.mul_assoc, Nat.mul_comm (2 ^ L), ← Nat.pow_succ', ← Nat.pow_add]
        congr 1; omega
      have i := ih L (by omega)
      generalize (if b n = true then 1 else 0) = z
      rw [e, show z * (2 ^ L * (2 * 2 ^ (n - L - 1))) = 2 ^ L * (2 * (z * 2 ^ (n - L - 1))) by
        rw [Nat.mul_left_comm, Nat.mul_left_comm z 2], Nat.add_mul_div_left _ _ (Nat.two_pow_pos L), Nat.add_mul_mod_self_left]
      exact i
/-- what the days of the log say -/
def LogS (P : PP) (C : CC) (d : Nat) (lg : Nat → Nat → Nat) : Prop := ∀ i, i < d → SaidOk P C (fun t _ => lg i t)
def Ends (P : PP) (C : CC) (lg : Nat → Nat → Nat) (en : Nat → Nat) (i L : Nat) : Bool := decide ((dday P (cw C, L, co C) (fun t _ => lg i t) (turnsN P C)).1 = en i)
theorem goBy_c {σ : HS} {P : PP} {C : CC} {lg : Nat → Nat → Nat} {i : Nat} (rp : RepP σ P) (rc : RepC σ 30 P C) (w : WfP P) (wc : WfC P C) (hi : i < 6) (hs : SaidOk P C (fun t _ => lg i t)) (hl : ∀ t, t < turnsN P C → σ.1 41 (6 * i + t) = cd (lg i t)) : ∃ σ', f2_goBy (nI i) σ = some σ' ∧ FrC 30 σ σ' ∧ DayC σ' 30 P C (fun t _ => lg i t) (turnsN P C) := by
  have h6 := turns_le C w
  unfold f2_goBy
  obtain ⟨σ1, q1, q2, q3⟩ := begin_c (g := 30) (by omega) rp rc w wc (fun t _ => lg i t)
  rw [q1, bd_s]
  unfold f2_goBy_6
  refine wl_fuel (body := fun k6 p => f2_goBy_6_b k6 (nI i) p.1 p.2) (fun p : Int32 × HS => ∃ t, t ≤ turnsN P C ∧ p.1 = nI t ∧ FrC 30 σ p.2 ∧ DayC p.2 30 P C (fun t _ => lg i t) t) (fun p => 10 - p.1.toNatClampNeg) (fun r : HS => FrC 30 σ r ∧ DayC r 30 P C (fun t _ => lg i t) (turnsN P C)) (0, σ1) ⟨0, by omega, rfl, q2, q3⟩ (by show 10 - _ < _; omega) ?_
  rintro kk ⟨x3, σ2⟩ ⟨t, ht, e, g1, g3⟩ ih
  have e : x3 = nI t := e
  subst e
  have g1 : FrC 30 σ σ2 := g1
  have g3 : DayC σ2 30 P C (fun t _ => lg i t) t := g3
  show ∃ r, f2_goBy_6_b kk (nI i) (nI t) σ2 = some r ∧ _
  unfold f2_goBy_6_b
  have rp2 := g1.rp (by omega) rp
  have rc2 := g1.rc rc
  rw [turns_g rp2 rc2 w wc, bd_s]
  by_cases cT : turnsN P C ≤ t
  · have : t = turnsN P C := by omega
    subst this
    rw [if_pos (nI_le cT (by omega))]
    exact ⟨_, rfl, g1, g3⟩
  · obtain ⟨σ3, v1, v2, v3⟩ := speak_c (g := 30) (t := t) (by omega) rp2 rc2 w wc hs (by omega) g3
    have v1 : f1_speak 30 (cd (lg i t)) σ2 = some σ3 := v1
    rw [if_neg (nI_ge (by omega) (by omega)), if_neg (show ¬ (6 : Int32) ≤ nI t from nI_ge (b := 6) (by omega) (by omega)), e6', at_in (by omega) (by omega), bd_s]
    dsimp only
    rw [g1.1 41 (by omega) (by omega) (by omega), hl t (by omega), v1, bd_s, nI_1]
    refine ih _ ⟨t + 1, by omega, rfl, g1.tr v2, v3⟩ ?_
    show 10 - (nI (t + 1)).toNatClampNeg < 10 - (nI t).toNatClampNeg
    rw [nI_clamp (by omega), nI_clamp (by omega)]; omega
def FrG (σ σ' : HS) : Prop := (∀ b, b ≠ 30 → b ≠ 37 → b ≠ 38 → b ≠ 39 → b ≠ 43 → σ'.1 b = σ.1 b) ∧ σ'.1 30 2 = σ.1 30 2 ∧ ∀ b, b ≠ 37 → σ'.2 b = σ.2 b
theorem FrG.tr {a b c : HS} (h : FrG a b) (h2 : FrG b c) : FrG a c := ⟨fun x h3 h4 h5 h6 h7 => (h2.1 x h3 h4 h5 h6 h7).trans (h.1 x h3 h4 h5 h6 h7), h2.2.1.trans h.2.1, fun x hx => (h2.2.2 x hx).trans (h.2.2 x hx)⟩
theorem FrG.rp {a b : HS} (h : FrG a b) {P : PP} (r : RepP a P) : RepP b P := r.congr (fun x z1 z2 => ⟨h.1 x (by omega) (by omega) (by omega) (by omega) (by omega), h.2.2 x (by omega)⟩)
theorem leak_rc {σ : HS} {P : PP} {C : CC} {L : Nat} (h2 : σ.1 30 2 = nI (cw C)) (h31 : ∀ p, p < pn P → σ.1 31 p = nI (co C p)) : RepC (uI σ 30 3 (nI L)) 30 P (cw C, L, co C) := ⟨by simp [uI_at]; exact h2, by simp [uI_at], fun p hp => by simp [uI_at]; exact h31 p hp⟩
theorem comp_c {σ : HS} {P : PP} {C : CC} {d : Nat} {lg : Nat → Nat → Nat} {en : Nat → Nat} (rp : RepP σ P) (w : WfP P) (wc : WfC P C) (h2 : σ.1 30 2 = nI (cw C)) (h31 : ∀ p, p < pn P → σ.1 31 p = nI (co C p)) (hd : d ≤ 6) (h40 : σ.1 40 3 = nI d) (hs : LogS P C d lg) (hl : ∀ i t, i < d → t < turnsN P C → σ.1 41 (6 * i + t) = cd (lg i t)) (he : ∀ i, i < d → σ.1 42 i = nI (en i) ∧ en i ≤ 99) : ∃ σ', f2_compare σ = some σ' ∧ FrG σ σ' ∧ ∀ i, i < d → σ'.1 43 i = nI (mB (Ends P C lg en i) 10) := by
  have h99 := w.2.1
  have h6 := turns_le C w
  unfold f2_compare f2_compare_2
  refine wl_fuel (body := fun k2 p => f2_compare_2_b k2 p.1 p.2) (fun p : Int32 × HS => ∃ i, i ≤ d ∧ p.1 = nI i ∧ FrG σ p.2 ∧ ∀ i', i' < i → p.2.1 43 i' = nI (mB (Ends P C lg en i') 10)) (fun p => 10 - p.1.toNatClampNeg) (fun r : HS => FrG σ r ∧ ∀ i, i < d → r.1 43 i = nI (mB (Ends P C lg en i) 10)) (0, σ) ⟨0, by omega, rfl, ⟨fun _ _ _ _ _ _ => rfl, rfl, fun _ _ => rfl⟩, fun i h => absurd h (Nat.not_lt_zero i)⟩ (by show 10 - _ < _; omega) ?_
  rintro k2 ⟨x3, σ2⟩ ⟨i, hi, e, g1, g2⟩ ih
  have e : x3 = nI i := e
  subst e
  have g1 : FrG σ σ2 := g1
  have g2 : ∀ i', i' < i → σ2.1 43 i' = nI (mB (Ends P C lg en i') 10) := g2
  show ∃ r, f2_compare_2_b k2 (nI i) σ2 = some r ∧ _
  unfold f2_compare_2_b
  rw [g1.1 40 (by omega) (by omega) (by omega) (by omega) (by omega), h40]
  by_cases c : d ≤ i
  · have : i = d := by omega
    subst this
    rw [if_pos (nI_le c (by omega))]
    exact ⟨_, rfl, g1, g2⟩
  · rw [if_neg (nI_ge (by omega) (by omega)), if_neg (show ¬ (6 : Int32) ≤ nI i from nI_ge (b := 6) (by omega) (by omega))]
    unfold f2_compare_22
    refine wl_fuel (body := fun k22 p => f2_compare_22_b k2 k22 (nI i) p.1 p.2.1 p.2.2) (fun p : Int32 × Int32 × HS => ∃ L, L ≤ 10 ∧ p.1 = nI (mB (Ends P C lg en i) L) ∧ p.2.1 = nI L ∧ FrG σ p.2.2 ∧ ∀ i', i' < i → p.2.2.1 43 i' = nI (mB (Ends P C lg en i') 10)) (fun p => 20 - p.2.1.toNatClampNeg) _ (0, 0, σ2) ⟨0, by omega, rfl, rfl, g1, g2⟩ (by show 20 - _ < _; omega) ?_
    rintro k22 ⟨x4, x5, σ3⟩ ⟨L, hL, e1, e2, f1, f2⟩ ih2
    have e1 : x4 = nI (mB (Ends P C lg en i) L) := e1
    have e2 : x5 = nI L := e2
    subst e1 e2
    have f1 : FrG σ σ3 := f1
    have f2 : ∀ i', i' < i → σ3.1 43 i' = nI (mB (Ends P C lg en i') 10) := f2
    show ∃ r, f2_compare_22_b k2 k22 (nI i) _ (nI L) σ3 = some r ∧ _
    unfold f2_compare_22_b f2_compare_65
    by_cases cL : 9 < L
    · have : L = 10 := by omega
      subst this
      rw [if_pos (show (9 : Int32) < nI 10 by decide), set_in (by omega) (by omega), bd_s, nI_1]
      refine ih _ ⟨i + 1, by omega, rfl, f1.tr ⟨fun b b1 b2 b3 b4 b5 => uI_other b5 _ _, by rw [uI_other (by omega)], fun _ _ => rfl⟩, fun i' hi' => ?_⟩ ?_
      · show (uI σ3 43 i _).1 43 i' = _
        rw [uI_at]
        by_cases c1 : i' = i
        · rw [if_pos ⟨rfl, c1⟩, c1]
        · rw [if_neg (fun z => c1 z.2)]; exact f2 i' (by omega)
      · show 10 - (nI (i + 1)).toNatClampNeg < 10 - (nI i).toNatClampNeg
        rw [nI_clamp (by omega), nI_clamp (by omega)]; omega
    · have wc2 : WfC P (cw C, L, co C) := ⟨wc.1, by show L ≤ 9; omega, wc.2.2⟩
      have fu : FrG σ3 (uI σ3 30 3 (nI L)) := ⟨fun b b1 b2 b3 b4 b5 => uI_other b1 _ _, by rw [uI_at, if_neg (by omega)], fun _ _ => rfl⟩
      have fa := f1.tr fu
      obtain ⟨σ4, v1, v2, v3⟩ := goBy_c (C := (cw C, L, co C)) (lg := lg) (i := i) (fa.rp rp) (leak_rc (by rw [f1.2.1]; exact h2) (fun p hp => by rw [f1.1 31 (by omega) (by omega) (by omega) (by omega) (by omega)]; exact h31 p hp)) w wc2 (by omega) (hs i (by omega)) (fun t ht => by rw [fa.1 41 (by omega) (by omega) (by omega) (by omega) (by omega)]; exact hl i t (by omega) ht)
      have v3 : DayC σ4 30 P (cw C, L, co C) (fun t _ => lg i t) (turnsN P C) := v3
      have f4 : FrG σ σ4 := fa.tr ⟨fun b b1 b2 b3 b4 b5 => v2.1 b b2 b3 b4, by rw [v2.1 30 (by omega) (by omega) (by omega)], fun b hb => v2.2 b hb⟩
      have m1 := mB_lt (Ends P C lg en i) L
      have m2 := mB_lt (Ends P C lg en i) (L + 1)
      have m3 : 2 ^ (L + 1) ≤ 2 ^ 10 := Nat.pow_le_pow_right (by omega) (by omega)
      have m4 : 2 ^ L ≤ 2 ^ 10 := Nat.pow_le_pow_right (by omega) (by omega)
      have ok := (dok w wc2 (sd := fun t _ => lg i t) (hs i (by omega)) (turnsN P C) (Nat.le_refl _)).1
      have he2 := he i (by omega)
      have go : ∀ m : Int32, m = nI (mB (Ends P C lg en i) (L + 1)) → ∃ r, k22 (m, nI L + 1, σ4) = some r ∧ FrG σ r ∧ ∀ i, i < d → r.1 43 i = nI (mB (Ends P C lg en i) 10) := by
        rintro m rfl
        rw [nI_1]
        refine ih2 _ ⟨L + 1, by omega, rfl, rfl, f4, fun i' hi' => ?_⟩ ?_
        · show σ4.1 43 i' = _
          rw [v2.1 43 (by omega) (by omega) (by omega), uI_other (by omega)]; exact f2 i' hi'
        · show 20 - (nI (L + 1)).toNatClampNeg < 20 - (nI L).toNatClampNeg
          rw [nI_clamp (by omega), nI_clamp (by omega)]; omega
      rw [if_neg (show ¬ (9 : Int32) < nI L from nI_nlt (a := 9) (by omega) (by omega)), v1, bd_s, at_in (by omega) (by omega), bd_s]
      dsimp only
      rw [v3.2.1, f4.1 42 (by omega) (by omega) (by omega) (by omega) (by omega), he2.1]
      by_cases ce : (dday P (cw C, L, co C) (fun t _ => lg i t) (turnsN P C)).1 = en i
      · rw [if_pos (by rw [ce])]
        refine go _ ?_
        have bt : Ends P C lg en i L = true := by unfold Ends; simpa using ce
        have s1 : (1 : Int32) <<< (nI L &&& 31) = nI (1 * 2 ^ L) := shl1 (a := 1) (by omega) (by omega)
        rw [s1, or32 m1 (by omega), mB, if_pos bt]
      · rw [if_neg (fun z => ce ((nIc (by omega) (by omega)).mp z))]
        refine go _ ?_
        have bt : ¬ Ends P C lg en i L = true := by unfold Ends; simpa using ce
        rw [mB, if_neg bt, Nat.zero_mul, Nat.add_zero]
/-- whether k days at the leak 0 and the others at L fit -/
def FitP (b : Nat → Nat → Bool) (d k L : Nat) : Prop := ∀ i, i < d → b i (if k ≤ i then L else 0) = true
theorem fits_c {σ : HS} {d k L : Nat} {b : Nat → Nat → Bool} (hd : d ≤ 6) (h40 : σ.1 40 3 = nI d) (hk : k ≤ 7) (hL : L < 10) (h43 : ∀ i, i < d → σ.1 43 i = nI (mB (b i) 10)) : ∃ r : Int32, f2_fits (nI k) (nI L) σ = some (r, σ) ∧ ((r = 1 ∧ FitP b d k L) ∨ (r = 0 ∧ ¬ FitP b d k L)) := by
  unfold f2_fits f2_fits_2
  obtain ⟨⟨s1, s2⟩, p1, p2, p3⟩ := wl_fuel (body := fun k2 p => f2_fits_2_b k2 (nI k) (nI L) p.1 p.2) (fun p : Int32 × HS => ∃ i, i ≤ d ∧ p = (nI i, σ) ∧ ∀ i', i' < i → b i' (if k ≤ i' then L else 0) = true) (fun p => 10 - p.1.toNatClampNeg) (fun r : Int32 × HS => r.2 = σ ∧ ((r.1 = 1 ∧ FitP b d k L) ∨ (r.1 = 0 ∧ ¬ FitP b d k L))) (0, σ) ⟨0, by omega, rfl, fun i h => absurd h (Nat.not_lt_zero i)⟩ (by show 10 - _ < _; omega) (by
    rintro k2 _ ⟨i, hi, rfl, g⟩ ih
    dsimp only
    unfold f2_fits_2_b
    rw [h40]
    by_cases c : d ≤ i
    · have : i = d := by omega
      subst this
      rw [if_pos (nI_le c (by omega))]
      exact ⟨_, rfl, rfl, Or.inl ⟨rfl, g⟩⟩
    · have m1 := mB_lt (b i) 10
      have run : ∀ z : Nat, z = (if k ≤ i then L else 0) → ∃ r, f2_fits_36 k2 (nI k) (nI L) (nI i) (nI (mB (b i) 10)) (nI z) σ = some r ∧ r.2 = σ ∧ ((r.1 = 1 ∧ FitP b d k L) ∨ (r.1 = 0 ∧ ¬ FitP b d k L)) := by
        intro z hz
        have hz10 : z < 10 := by rw [hz]; split <;> omega
        unfold f2_fits_36
        rw [shr1 (by omega) (by omega), pk_andN (by have := Nat.div_le_self (mB (b i) 10) (2 ^ z); omega) 1 (m := 1) (by decide), show (2 : Nat) ^ 1 = 2 from rfl, mB_bit (b i) 10 z hz10, hz]
        by_cases cb : b i (if k ≤ i then L else 0) = true
        · rw [if_pos cb, if_neg (show ¬ nI 1 = 0 from n10), nI_1]
          refine ih _ ⟨i + 1, by omega, rfl, fun i' hi' => ?_⟩ ?_
          · by_cases c1 : i' = i
            · rw [c1]; exact cb
            · exact g i' (by omega)
          · show 10 - (nI (i + 1)).toNatClampNeg < 10 - (nI i).toNatClampNeg
            rw [nI_clamp (by omega), nI_clamp (by omega)]; omega
        · rw [if_neg cb, if_pos (show nI 0 = 0 from rfl)]
          exact ⟨_, rfl, rfl, Or.inr ⟨rfl, fun z => cb (z i (by omega))⟩⟩
      rw [if_neg (nI_ge (by omega) (by omega)), if_neg (show ¬ (6 : Int32) ≤ nI i from nI_ge (b := 6) (by omega) (by omega)), at_in (by omega) (by omega), bd_s]
      dsimp only
      rw [h43 i (by omega)]
      by_cases ck : k ≤ i
      · rw [if_pos (nI_le ck (by omega))]
        exact run L (by rw [if_pos ck])
      · rw [if_neg (nI_ge (by omega) (by omega))]
        exact run 0 (by rw [if_neg ck]))
  have p2 : s2 = σ := p2
  subst p2
  exact ⟨s1, p1, p3⟩
/-- how many fit, and the first -/
def gs (ok : Nat → Bool) : Nat → Nat × Int32
  | 0 => (0, -9)
  | n + 1 => if ok n = true then ((gs ok n).1 + 1, if (gs ok n).2 = -9 then nI n else (gs ok n).2) else gs ok n
theorem gs_b (ok : Nat → Bool) : ∀ n, (gs ok n).1 ≤ n ∧ ((gs ok n).2 = -9 ∨ ∃ m, m < n ∧ (gs ok n).2 = nI m) := by
  intro n
  induction n with
  | zero => exact ⟨Nat.le_refl _, Or.inl rfl⟩
  | succ n ih =>
    unfold gs
    split
    · refine ⟨by dsimp only; omega, ?_⟩
      dsimp only
      split
      · exact Or.inr ⟨n, by omega, rfl⟩
      · rcases ih.2 with z | ⟨m, m1, m2⟩
        · exact Or.inl z
        · exact Or.inr ⟨m, by omega, m2⟩
    · rcases ih.2 with z | ⟨m, m1, m2⟩
      · exact ⟨by omega, Or.inl z⟩
      · exact ⟨by omega, Or.inr ⟨m, by omega, m2⟩⟩
theorem e10 (k L : Nat) : (10 : Int32) * nI k + nI L = nI (10 * k + L) := by show nI 10 * nI k + nI L = _; rw [pk_mul, nI_add]
theorem guessC {σ : HS} {d : Nat} {b : Nat → Nat → Bool} {ok : Nat → Bool} (hok : ∀ k L, L < 10 → (ok (10 * k + L) = true ↔ FitP b d k L)) (hd : d ≤ 6) (h40 : σ.1 40 3 = nI d) (h43 : ∀ i, i < d → σ.1 43 i = nI (mB (b i) 10)) (x1 : Int32) : f8_guess_59 x1 (0, -9, 0, σ) = some (if x1 = 0 then nI (gs ok (10 * (d + 1))).1 else (gs ok (10 * (d + 1))).2, σ) := by
  unfold f8_guess_59
  refine wl_eq (fun p : Int32 × Int32 × Int32 × HS => ∃ k, k ≤ d + 1 ∧ p = (nI (gs ok (10 * k)).1, (gs ok (10 * k)).2, nI k, σ)) (fun p => 10 - p.2.2.1.toNatClampNeg) _ _ ⟨0, by omega, rfl⟩ (by show 10 - _ < _; omega) ?_
  rintro k59 _ ⟨k, hk, rfl⟩ ih
  dsimp only
  unfold f8_guess_59_b f8_guess_136
  rw [h40]
  by_cases c : d < k
  · have : k = d + 1 := by omega
    subst this
    rw [if_pos (nI_lt c (by omega))]
    by_cases cx : x1 = 0
    · rw [if_pos cx, if_pos cx]
    · rw [if_neg cx, if_neg cx]
  · rw [if_neg (nI_nlt (by omega) (by omega)), if_neg (show ¬ (6 : Int32) < nI k from nI_nlt (a := 6) (by omega) (by omega))]
    unfold f8_guess_81
    refine wl_eq (fun p : Int32 × Int32 × Int32 × HS => ∃ L, L ≤ 10 ∧ p = (nI (gs ok (10 * k + L)).1, (gs ok (10 * k + L)).2, nI L, σ)) (fun p => 20 - p.2.2.1.toNatClampNeg) _ _ ⟨0, by omega, rfl⟩ (by show 20 - _ < _; omega) ?_
    rintro k81 _ ⟨L, hL, rfl⟩ ih2
    dsimp only
    unfold f8_guess_81_b f8_guess_124 f8_guess_123
    by_cases cL : 9 < L
    · have : L = 10 := by omega
      subst this
      rw [if_pos (show (9 : Int32) < nI 10 by decide), nI_1]
      refine ih _ ⟨k + 1, by omega, rfl⟩ ?_
      show 10 - (nI (k + 1)).toNatClampNeg < 10 - (nI k).toNatClampNeg
      rw [nI_clamp (by omega), nI_clamp (by omega)]; omega
    · have gb := gs_b ok (10 * k + L)
      have go : ∀ z : Nat × Int32, z = gs ok (10 * k + L + 1) → k81 (nI z.1, z.2, nI L + 1, σ) = some (if x1 = 0 then nI (gs ok (10 * (d + 1))).1 else (gs ok (10 * (d + 1))).2, σ) := by
        rintro z rfl
        rw [nI_1]
        refine ih2 _ ⟨L + 1, by omega, rfl⟩ ?_
        show 20 - (nI (L + 1)).toNatClampNeg < 20 - (nI L).toNatClampNeg
        rw [nI_clamp (by omega), nI_clamp (by omega)]; omega
      obtain ⟨r, r1, r2⟩ := fits_c (L := L) hd h40 (show k ≤ 7 by omega) (by omega) h43
      rw [if_neg (show ¬ (9 : Int32) < nI L from nI_nlt (a := 9) (by omega) (by omega)), r1, bd_s]
      rcases r2 with ⟨rfl, y⟩ | ⟨rfl, y⟩
      · have bt := (hok k L (by omega)).mpr y
        rw [if_neg n10, nI_1]
        by_cases c9 : (gs ok (10 * k + L)).2 = -9
        · rw [if_pos c9]
          unfold f8_guess_124
          rw [e10]
          exact go ((gs ok (10 * k + L)).1 + 1, nI (10 * k + L)) (by rw [gs, if_pos bt, if_pos c9])
        · rw [if_neg c9]
          unfold f8_guess_124
          exact go ((gs ok (10 * k + L)).1 + 1, (gs ok (10 * k + L)).2) (by rw [gs, if_pos bt, if_neg c9])
      · rw [if_pos rfl]
        exact go _ (by rw [gs, if_neg (fun z => y ((hok k L (by omega)).mp z))])
theorem endsM {τ : HS} {P : PP} {C : CC} {d i L : Nat} {lg : Nat → Nat → Nat} {en : Nat → Nat} (rm : RepM τ P C) (w : WfP P) (wc : WfC P C) (hd : d ≤ 6) (hi : i < d) (hL : L < 10) (hs : LogS P C d lg) (hl : ∀ t, t < turnsN P C → τ.1 19 (6 * i + t) = cd (lg i t)) (he : τ.1 20 i = nI (en i)) (he2 : en i ≤ 99) : ∃ (r : Int32) (τ' : HS), f9_endsSo (nI i) (nI L) τ = some (r, τ') ∧ FrM τ τ' ∧ ((r = 1 ∧ Ends P C lg en i L = true) ∨ (r = 0 ∧ ¬ Ends P C lg en i L = true)) := by
  have h99 := w.2.1
  have h6 := turns_le C w
  have wc2 : WfC P (cw C, L, co C) := ⟨wc.1, by show L ≤ 9; omega, wc.2.2⟩
  have sok : SaidOk P C (fun t _ => lg i t) := hs i hi
  have ok := (dok w wc2 (sd := fun t _ => lg i t) sok (turnsN P C) (Nat.le_refl _)).1
  unfold f9_endsSo
  obtain ⟨τ1, q1, q2, q3⟩ := begin_m rm w wc L (fun t _ => lg i t)
  rw [q1, bd_s]
  unfold f9_endsSo_6
  obtain ⟨⟨s1, s2⟩, p1, p2⟩ := wl_fuel (body := fun k6 p => f9_endsSo_6_b k6 (nI i) (nI L) p.1 p.2) (fun p : Int32 × HS => ∃ t, t ≤ turnsN P C ∧ p.1 = nI t ∧ FrM τ p.2 ∧ DayM p.2 P (cw C, L, co C) (fun t _ => lg i t) t) (fun p => 10 - p.1.toNatClampNeg) (fun r : Int32 × HS => FrM τ r.2 ∧ ((r.1 = 1 ∧ Ends P C lg en i L = true) ∨ (r.1 = 0 ∧ ¬ Ends P C lg en i L = true))) (0, τ1) ⟨0, by omega, rfl, q2, q3⟩ (by show 10 - _ < _; omega) (by
    rintro kk ⟨x3, τ2⟩ ⟨t, ht, e, g1, g3⟩ ih
    have e : x3 = nI t := e
    subst e
    have g1 : FrM τ τ2 := g1
    have g3 : DayM τ2 P (cw C, L, co C) (fun t _ => lg i t) t := g3
    show ∃ r, f9_endsSo_6_b kk (nI i) (nI L) (nI t) τ2 = some r ∧ _
    unfold f9_endsSo_6_b
    have rm2 := g1.rm rm
    rw [turns_m rm2 w wc, bd_s]
    by_cases cT : turnsN P C ≤ t
    · have : t = turnsN P C := by omega
      subst this
      rw [if_pos (nI_le cT (by omega))]
      dsimp only
      rw [turns_m rm2 w wc, bd_s, ix_in (by omega) (by omega), ix_in (by omega) (by omega), nI_clamp (by omega), nI_clamp (by omega)]
      dsimp only
      rw [g3.1, g1.1 20 (by omega) (by omega) (by omega) (by omega), he]
      by_cases ce : (dday P (cw C, L, co C) (fun t _ => lg i t) (turnsN P C)).1 = en i
      · rw [if_pos (by rw [ce])]
        exact ⟨_, rfl, g1, Or.inl ⟨rfl, by unfold Ends; simpa using ce⟩⟩
      · rw [if_neg (fun z => ce ((nIc (by omega) (by omega)).mp z))]
        exact ⟨_, rfl, g1, Or.inr ⟨rfl, by unfold Ends; simpa using ce⟩⟩
    · obtain ⟨τ3, v1, v2, v3⟩ := turn_m (t := t) (L := L) rm2 w wc (by omega) sok (by omega) g3
      have v1 : f9_goTurn (nI t) (cd (lg i t)) (nI L) τ2 = some τ3 := v1
      rw [if_neg (nI_ge (by omega) (by omega)), e6, ix_in (by omega) (by omega), nI_clamp (by omega)]
      dsimp only
      rw [g1.1 19 (by omega) (by omega) (by omega) (by omega), hl t (by omega), v1, bd_s, nI_1]
      refine ih _ ⟨t + 1, by omega, rfl, g1.tr v2, v3⟩ ?_
      show 10 - (nI (t + 1)).toNatClampNeg < 10 - (nI t).toNatClampNeg
      rw [nI_clamp (by omega), nI_clamp (by omega)]; omega)
  exact ⟨s1, s2, p1, p2⟩
theorem guessM {τ : HS} {P : PP} {C : CC} {d : Nat} {lg : Nat → Nat → Nat} {en : Nat → Nat} {ok : Nat → Bool} (hok : ∀ k L, L < 10 → (ok (10 * k + L) = true ↔ FitP (Ends P C lg en) d k L)) (rm : RepM τ P C) (w : WfP P) (wc : WfC P C) (hd : d ≤ 6) (h29 : τ.1 0 29 = nI d) (hs : LogS P C d lg) (hl : ∀ i t, i < d → t < turnsN P C → τ.1 19 (6 * i + t) = cd (lg i t)) (he : ∀ i, i < d → τ.1 20 i = nI (en i) ∧ en i ≤ 99) (x1 : Int32) : ∃ τ', f9_guess_31 x1 (0, -9, 0, τ) = some (if x1 = 0 then nI (gs ok (10 * (d + 1))).1 else (gs ok (10 * (d + 1))).2, τ') ∧ FrM τ τ' := by
  unfold f9_guess_31
  obtain ⟨⟨s1, s2⟩, p1, p2, p3⟩ := wl_fuel (body := fun k31 p => f9_guess_31_b k31 x1 p.1 p.2.1 p.2.2.1 p.2.2.2) (fun p : Int32 × Int32 × Int32 × HS => ∃ k, k ≤ d + 1 ∧ p.1 = nI (gs ok (10 * k)).1 ∧ p.2.1 = (gs ok (10 * k)).2 ∧ p.2.2.1 = nI k ∧ FrM τ p.2.2.2) (fun p => 10 - p.2.2.1.toNatClampNeg) (fun r : Int32 × HS => r.1 = (if x1 = 0 then nI (gs ok (10 * (d + 1))).1 else (gs ok (10 * (d + 1))).2) ∧ FrM τ r.2) (0, -9, 0, τ) ⟨0, by omega, rfl, rfl, rfl, FrM.rfl' _⟩ (by show 10 - _ < _; omega) (by
    rintro k31 ⟨x2, x3, x4, τ2⟩ ⟨k, hk, e2', e3', e4', g1⟩ ih
    have e2' : x2 = nI (gs ok (10 * k)).1 := e2'
    have e3' : x3 = (gs ok (10 * k)).2 := e3'
    have e4' : x4 = nI k := e4'
    subst e2' e3' e4'
    have g1 : FrM τ τ2 := g1
    dsimp only
    unfold f9_guess_31_b
    rw [g1.2 29 (by omega) (by omega), h29]
    by_cases c : d < k
    · have : k = d + 1 := by omega
      subst this
      rw [if_pos (nI_lt c (by omega))]
      by_cases cx : x1 = 0
      · rw [if_pos cx]; exact ⟨_, rfl, by rw [if_pos cx], g1⟩
      · rw [if_neg cx]; exact ⟨_, rfl, by rw [if_neg cx], g1⟩
    · rw [if_neg (nI_nlt (by omega) (by omega))]
      unfold f9_guess_43
      refine wl_fuel (body := fun k43 p => f9_guess_43_b k31 k43 x1 p.1 p.2.1 (nI k) p.2.2.1 p.2.2.2) (fun p : Int32 × Int32 × Int32 × HS => ∃ L, L ≤ 10 ∧ p.1 = nI (gs ok (10 * k + L)).1 ∧ p.2.1 = (gs ok (10 * k + L)).2 ∧ p.2.2.1 = nI L ∧ FrM τ p.2.2.2) (fun p => 20 - p.2.2.1.toNatClampNeg) _ _ ⟨0, by omega, rfl, rfl, rfl, g1⟩ (by show 20 - _ < _; omega) ?_
      rintro k43 ⟨x2, x3, x5, τ3⟩ ⟨L, hL, e2', e3', e5', g2⟩ ih2
      have e2' : x2 = nI (gs ok (10 * k + L)).1 := e2'
      have e3' : x3 = (gs ok (10 * k + L)).2 := e3'
      have e5' : x5 = nI L := e5'
      subst e2' e3' e5'
      have g2 : FrM τ τ3 := g2
      dsimp only
      unfold f9_guess_43_b
      by_cases cL : 10 ≤ L
      · have : L = 10 := by omega
        subst this
        rw [if_pos (show (10 : Int32) ≤ nI 10 by decide), nI_1]
        refine ih _ ⟨k + 1, by omega, rfl, rfl, rfl, g2⟩ ?_
        show 10 - (nI (k + 1)).toNatClampNeg < 10 - (nI k).toNatClampNeg
        rw [nI_clamp (by omega), nI_clamp (by omega)]; omega
      · rw [if_neg (show ¬ (10 : Int32) ≤ nI L from nI_ge (b := 10) (by omega) (by omega))]
        unfold f9_guess_56
        refine wl_fuel (body := fun k56 p => f9_guess_56_b k31 k43 k56 x1 (nI (gs ok (10 * k + L)).1) (gs ok (10 * k + L)).2 (nI k) (nI L) p.1 p.2.1 p.2.2) (fun p : Int32 × Int32 × HS => ∃ i, i ≤ d ∧ p.2.1 = nI i ∧ FrM τ p.2.2 ∧ ((p.1 = 1 ∧ ∀ i', i' < i → Ends P C lg en i' (if k ≤ i' then L else 0) = true) ∨ (p.1 = 0 ∧ ¬ FitP (Ends P C lg en) d k L))) (fun p => 10 - p.2.1.toNatClampNeg) _ (1, 0, τ3) ⟨0, by omega, rfl, g2, Or.inl ⟨rfl, fun i h => absurd h (Nat.not_lt_zero i)⟩⟩ (by show 10 - _ < _; omega) ?_
        rintro k56 ⟨x6, x7, τ4⟩ ⟨i, hi, e7', g3, hf⟩ ih3
        have e7' : x7 = nI i := e7'
        subst e7'
        have g3 : FrM τ τ4 := g3
        have hf : (x6 = 1 ∧ ∀ i', i' < i → Ends P C lg en i' (if k ≤ i' then L else 0) = true) ∨ (x6 = 0 ∧ ¬ FitP (Ends P C lg en) d k L) := hf
        dsimp only
        unfold f9_guess_56_b f9_guess_96 f9_guess_86 f9_guess_97
        rw [g3.2 29 (by omega) (by omega), h29]
        by_cases c7 : d ≤ i
        · have ei : i = d := by omega
          subst ei
          have gb := gs_b ok (10 * k + L)
          have go : ∀ z : Nat × Int32, z = gs ok (10 * k + L + 1) → ∃ r, k43 (nI z.1, z.2, nI L + 1, τ4) = some r ∧ r.1 = (if x1 = 0 then nI (gs ok (10 * (i + 1))).1 else (gs ok (10 * (i + 1))).2) ∧ FrM τ r.2 := by
            rintro z rfl
            rw [nI_1]
            refine ih2 _ ⟨L + 1, by omega, rfl, rfl, rfl, g3⟩ ?_
            show 20 - (nI (L + 1)).toNatClampNeg < 20 - (nI L).toNatClampNeg
            rw [nI_clamp (by omega), nI_clamp (by omega)]; omega
          rw [if_pos (nI_le c7 (by omega))]
          unfold f9_guess_116 f9_guess_138 f9_guess_139
          rcases hf with ⟨rfl, hall⟩ | ⟨rfl, hno⟩
          · have bt := (hok k L (by omega)).mpr hall
            rw [if_neg n10, if_neg n10, nI_1]
            rcases gb.2 with z | ⟨m, m1, m2⟩
            · rw [if_neg (by rw [z]; decide), e10]
              exact go ((gs ok (10 * k + L)).1 + 1, nI (10 * k + L)) (by rw [gs, if_pos bt, if_pos z])
            · rw [if_pos (by rw [m2]; exact nI_pos' (by omega))]
              exact go ((gs ok (10 * k + L)).1 + 1, (gs ok (10 * k + L)).2) (by rw [gs, if_pos bt, if_neg (by rw [m2]; exact n9n m (by omega))])
          · rw [if_pos rfl, if_pos rfl]
            have : nI (gs ok (10 * k + L)).1 + 0 = nI (gs ok (10 * k + L)).1 := nI_add _ 0
            rw [this]
            exact go _ (by rw [gs, if_neg (fun z => hno ((hok k L (by omega)).mp z))])
        · have stp : ∀ (f : Int32) (τ5 : HS), FrM τ τ5 → ((f = 1 ∧ ∀ i', i' < i + 1 → Ends P C lg en i' (if k ≤ i' then L else 0) = true) ∨ (f = 0 ∧ ¬ FitP (Ends P C lg en) d k L)) → ∃ r, k56 (f, nI i + 1, τ5) = some r ∧ r.1 = (if x1 = 0 then nI (gs ok (10 * (d + 1))).1 else (gs ok (10 * (d + 1))).2) ∧ FrM τ r.2 := by
            intro f τ5 h5 hf2
            rw [nI_1]
            refine ih3 _ ⟨i + 1, by omega, rfl, h5, hf2⟩ ?_
            show 10 - (nI (i + 1)).toNatClampNeg < 10 - (nI i).toNatClampNeg
            rw [nI_clamp (by omega), nI_clamp (by omega)]; omega
          rw [if_neg (nI_ge (by omega) (by omega))]
          rcases hf with ⟨rfl, hall⟩ | ⟨rfl, hno⟩
          · rw [if_neg n10]
            have run : ∀ z : Nat, z = (if k ≤ i then L else 0) → ∃ r, (bd (f9_endsSo (nI i) (nI z) τ4) fun r1 => if r1.1 = 0 then k56 (0, nI i + 1, r1.2) else k56 (1, nI i + 1, r1.2)) = some r ∧ r.1 = (if x1 = 0 then nI (gs ok (10 * (d + 1))).1 else (gs ok (10 * (d + 1))).2) ∧ FrM τ r.2 := by
              intro z hz
              have hz10 : z < 10 := by rw [hz]; split <;> omega
              obtain ⟨r, τ5, v1, v2, v3⟩ := endsM (L := z) (en := en) (g3.rm rm) w wc hd (show i < d by omega) hz10 hs (fun t ht => by rw [g3.1 19 (by omega) (by omega) (by omega) (by omega)]; exact hl i t (by omega) ht) (by rw [g3.1 20 (by omega) (by omega) (by omega) (by omega)]; exact (he i (by omega)).1) (he i (by omega)).2
              rw [v1, bd_s]
              rcases v3 with ⟨rfl, y⟩ | ⟨rfl, y⟩
              · rw [if_neg n10]
                refine stp 1 τ5 (g3.tr v2) (Or.inl ⟨rfl, fun i' hi' => ?_⟩)
                by_cases c1 : i' = i
                · rw [c1, ← hz]; exact y
                · exact hall i' (by omega)
              · rw [if_pos rfl]
                refine stp 0 τ5 (g3.tr v2) (Or.inr ⟨rfl, fun hh => ?_⟩)
                have := hh i (by omega)
                rw [← hz] at this
                exact y this
            by_cases ck : k ≤ i
            · rw [if_pos (nI_le ck (by omega))]
              exact run L (by rw [if_pos ck])
            · rw [if_neg (nI_ge (by omega) (by omega))]
              exact run 0 (by rw [if_neg ck])
          · rw [if_pos rfl]
            exact stp 0 τ4 g3 (Or.inr ⟨rfl, hno⟩))
  have p2 : s1 = _ := p2
  subst p2
  exact ⟨s2, p1, p3⟩
theorem op_guess (j : Nat) (σ τ : HS) (a1 : Int32) (hI : Inv j σ τ) (hj : j < 512) : ∃ (r : Int32) (σ1 τ1 : HS), f8_guess a1 σ = some (r, σ1) ∧ f9_guess a1 τ = some (r, τ1) ∧ Inv (j + 1) σ1 τ1 := by
  obtain ⟨P, C, hB⟩ := hI
  obtain ⟨w, wc, rp, rc, rm, rs, rl, a8, a9, b1, b2, b3, b4⟩ := id hB
  have h5 := w.1
  have h6 := turns_le C w
  rcases arg_c a1 2 (by omega) with hx | ⟨x, hx, rfl⟩
  · unfold f8_guess f9_guess
    rw [in_n (by rw [w64]; show _ < (0 : Int) ∨ (1 : Int) < _; omega), bd_s, if_pos rfl, if_neg (fun z => by rw [z] at hx; have : (0 : Int32).toInt = 0 := rfl; omega), if_neg (fun z => by rw [z] at hx; have : (1 : Int32).toInt = 1 := rfl; omega)]
    exact ⟨_, _, _, rfl, rfl, P, C, hB.mono⟩
  · have e8 : f8_guess (nI x) σ = f8_guess_12 (nI x) σ := by
      unfold f8_guess
      by_cases c : nI x = 0
      · rw [if_pos c]
      · rw [if_neg c, if_pos]
        have : x = 1 := by
          rcases Nat.eq_zero_or_pos x with z | z
          · exact absurd (by rw [z]; rfl) c
          · omega
        rw [this]; rfl
    have e9 : f9_guess (nI x) τ = if τ.1 0 1 = 0 then some (-3, τ) else f9_guess_31 (nI x) (0, -9, 0, τ) := by
      unfold f9_guess
      rw [in_y (by rw [w64, nI_toInt (by omega)]; show (0 : Int) ≤ _; omega) (by rw [w64, nI_toInt (by omega)]; show _ ≤ (1 : Int); omega), bd_s, if_neg n10]
    rw [e8, e9]
    unfold f8_guess_12
    rw [rp.1, rm.1]
    by_cases cn : pn P = 0
    · rw [if_pos (by rw [cn]; rfl), if_pos (by rw [cn]; rfl)]
      exact ⟨_, _, _, rfl, rfl, P, C, hB.mono⟩
    · rw [if_neg (nI_ne0 (by omega) (by omega)), if_neg (nI_ne0 (by omega) (by omega))]
      obtain ⟨d, lg, en, l1, l2, l3, l4⟩ := rl
      have hs : LogS P C d lg := fun i hi t _ ht _ => ((l4 i hi).2.2.2 t ht).2.2
      obtain ⟨σ1, q1, q2, q3, q4⟩ := follow_c rc w
      obtain ⟨σ2, r1, r2, r3⟩ := comp_c (σ := σ1) (d := d) (lg := lg) (en := en) (rp.congr (fun x z1 z2 => ⟨q3 x (by omega) (by omega), by rw [q4]⟩)) w wc q2.1 q2.2.2 l1 (by rw [q3 40 (by omega) (by omega)]; exact l2) hs (fun i t hi ht => by rw [q3 41 (by omega) (by omega)]; exact ((l4 i hi).2.2.2 t ht).1) (fun i hi => ⟨by rw [q3 42 (by omega) (by omega)]; exact (l4 i hi).2.1, (l4 i hi).1⟩)
      have hex : ∃ ok : Nat → Bool, ∀ k L, L < 10 → (ok (10 * k + L) = true ↔ FitP (Ends P C lg en) d k L) := ⟨fun n => @decide _ (Classical.propDecidable (FitP (Ends P C lg en) d (n / 10) (n % 10))), fun k L hL => by
        refine (@decide_eq_true_iff _ (Classical.propDecidable _)).trans ?_
        rw [show (10 * k + L) / 10 = k by omega, show (10 * k + L) % 10 = L by omega]⟩
      obtain ⟨ok, hok⟩ := hex
      have gc := guessC hok l1 (by rw [r2.1 40 (by omega) (by omega) (by omega) (by omega) (by omega), q3 40 (by omega) (by omega)]; exact l2) r3 (nI x)
      obtain ⟨τ1, gm, gf⟩ := guessM hok rm w wc l1 l3 hs (fun i t hi ht => ((l4 i hi).2.2.2 t ht).2.1) (fun i hi => ⟨(l4 i hi).2.2.1, (l4 i hi).1⟩) (nI x)
      rw [q1, bd_s, r1, bd_s, gc, gm]
      have fe : ∀ b, b ≠ 30 → b ≠ 31 → b ≠ 37 → b ≠ 38 → b ≠ 39 → b ≠ 43 → σ2.1 b = σ.1 b := fun b b1 b2 b3 b4 b5 b6 => by rw [r2.1 b b1 b3 b4 b5 b6, q3 b b1 b2]
      have fe2 : ∀ b, b ≠ 37 → σ2.2 b = σ.2 b := fun b hb => by rw [r2.2.2 b hb, q4]
      exact ⟨_, _, _, rfl, rfl, P, C, InvB.mono (hB.mk' (fun a ha => fe a (by omega) (by omega) (by omega) (by omega) (by omega) (by omega)) (fe2 11 (by omega)) ⟨by rw [fe 0 (by omega) (by omega) (by omega) (by omega) (by omega) (by omega)], by rw [fe 0 (by omega) (by omega) (by omega) (by omega) (by omega) (by omega)]⟩ (a8.congr (by rw [fe 0 (by omega) (by omega) (by omega) (by omega) (by omega) (by omega)]) (fe _ (by omega) (by omega) (by omega) (by omega) (by omega) (by omega)) (fe2 _ (by omega))) (a9.congr (by rw [fe 44 (by omega) (by omega) (by omega) (by omega) (by omega) (by omega)]) (fe _ (by omega) (by omega) (by omega) (by omega) (by omega) (by omega)) (fe _ (by omega) (by omega) (by omega) (by omega) (by omega) (by omega))) (b1.congr (by rw [fe _ (by omega) (by omega) (by omega) (by omega) (by omega) (by omega)]) (fe _ (by omega) (by omega) (by omega) (by omega) (by omega) (by omega))) (b2.congr (by rw [fe _ (by omega) (by omega) (by omega) (by omega) (by omega) (by omega)]) (fe _ (by omega) (by omega) (by omega) (by omega) (by omega) (by omega))) gf.fb.1 gf.fb.2)⟩
