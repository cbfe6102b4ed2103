/-! becoming a council -/
theorem InvB.rd {j : Nat} {σ τ σ' τ' : HS} {P : PP} {C : CC} (h : InvB j σ τ P C) (f : FrR σ σ') (q : FrQ τ τ') : InvB j σ' τ' P C := by
  obtain ⟨a1, a2, a3, a4, a5, a6, a7, a8, a9, b1, b2, b3, b4⟩ := h
  have e := fun a (ha : a < 12 ∨ 20 ≤ a) => f.1 a (by omega) (by omega)
  refine ⟨a1, a2, a3.congr (fun a h1 _ => ⟨e a (by omega), by rw [f.2]⟩), a4.congr (e _ (by omega)) (e _ (by omega)), a5.congr ⟨q.2 _ (by omega), q.2 _ (by omega), q.2 _ (by omega), q.2 _ (by omega)⟩ (fun a h1 _ => q.1 a (by omega)), a6.congr ⟨e _ (by omega), e _ (by omega), e _ (by omega)⟩ ⟨q.1 _ (by omega), q.1 _ (by omega), q.1 _ (by omega)⟩, a7.congr ⟨by rw [e _ (by omega)], e _ (by omega), e _ (by omega)⟩ ⟨q.2 _ (by omega), q.1 _ (by omega), q.1 _ (by omega)⟩, a8.congr (by rw [e _ (by omega)]) (e _ (by omega)) (by rw [f.2]), a9.congr (by rw [e _ (by omega)]) (e _ (by omega)) (e _ (by omega)), b1.congr (by rw [e _ (by omega)]) (e _ (by omega)), b2.congr (by rw [e _ (by omega)]) (e _ (by omega)), by rw [e 0 (by omega), q.2 36 (by omega)]; exact b3, by rw [e 0 (by omega), q.2 0 (by omega)]; exact b4⟩
theorem tn64 {n : Nat} (h : n < 2 ^ 64) : (lN n).toBitVec.toNat = n := Nat.mod_eq_of_lt h
theorem or64 {a d k : Nat} (h : a < 2 ^ k) (hb : a + d * 2 ^ k < 2 ^ 64) : lN a ||| lN (d * 2 ^ k) = lN (a + d * 2 ^ k) := by
  apply Int64.toBitVec_inj.mp
  apply BitVec.eq_of_toNat_eq
  rw [Int64.toBitVec_or, BitVec.toNat_or, tn64 (by omega), tn64 (by omega), tn64 hb, Nat.or_comm, Nat.mul_comm d, ← Nat.two_pow_add_eq_or_of_lt h, Nat.add_comm]
theorem shl64 {n : Nat} (s : Int64) (k : Nat) (hs : (s.toBitVec.smod 64).toNat = k) (h : n * 2 ^ k < 2 ^ 64) : lN n <<< s = lN (n * 2 ^ k) := by
  apply Int64.toBitVec_inj.mp
  apply BitVec.eq_of_toNat_eq
  have hn : n < 2 ^ 64 := Nat.lt_of_le_of_lt (Nat.le_mul_of_pos_right n (Nat.two_pow_pos k)) h
  show ((lN n).toBitVec <<< (s.toBitVec.smod 64).toNat).toNat = _
  rw [hs, BitVec.toNat_shiftLeft, Nat.shiftLeft_eq, tn64 hn, tn64 h, Nat.mod_eq_of_lt h]
theorem s8 : ∀ j : Fin 5, ((((nI j.1 * 8) : Int32).toInt64 &&& 63).toBitVec.smod 64).toNat = 8 * j.1 := by decide
theorem pkw_lt (V : Nat → Nat) (h : ∀ j, V j < 256) : ∀ n, pkw V n < 2 ^ (8 * n) := by
  intro n
  induction n with
  | zero => exact Nat.one_pos
  | succ n ih =>
    have e : (256 : Nat) ^ n = 2 ^ (8 * n) := by rw [Nat.pow_mul]
    have e2 : 2 ^ (8 * (n + 1)) = 2 ^ (8 * n) * 256 := by rw [Nat.mul_add, Nat.pow_add]
    unfold pkw
    rw [e, e2]
    have : V n * 2 ^ (8 * n) ≤ 255 * 2 ^ (8 * n) := Nat.mul_le_mul_right _ (by have := h n; omega)
    omega
theorem gain_c {σ : HS} {c k s : Nat} (h : σ.1 5 0 = nI c) (hc : c ≤ 5) (hs : s < 15) (hk : k < 5) : ∃ g : Int64, f4_gainOf (nI k) (nI s) σ = some (g, σ) ∧ ∀ a b : Nat, σ.1 9 s = nI a → σ.1 10 s = nI b → a ≤ 9 → b ≤ 9 → g = lN (pkw (fun j => if j < c then (if j = k then a else b) else 0) 5) := by
  unfold f4_gainOf f4_gainOf_5
  obtain ⟨⟨r1, r2⟩, p1, p2, p3⟩ := wl_fuel (body := fun k5 p => f4_gainOf_5_b k5 (nI k) (nI s) p.1 p.2.1 p.2.2) (fun p : Int64 × Int32 × HS => ∃ j, j ≤ c ∧ p.2.1 = nI j ∧ p.2.2 = σ ∧ ∀ a b : Nat, σ.1 9 s = nI a → σ.1 10 s = nI b → a ≤ 9 → b ≤ 9 → p.1 = lN (pkw (fun j => if j < c then (if j = k then a else b) else 0) j)) (fun p => 10 - p.2.1.toNatClampNeg) (fun r : Int64 × HS => r.2 = σ ∧ ∀ a b : Nat, σ.1 9 s = nI a → σ.1 10 s = nI b → a ≤ 9 → b ≤ 9 → r.1 = lN (pkw (fun j => if j < c then (if j = k then a else b) else 0) 5)) (0, 0, σ) ⟨0, by omega, rfl, rfl, fun _ _ _ _ _ _ => rfl⟩ (by show 10 - _ < _; omega) (by
    rintro k5 ⟨x3, x5, σ2⟩ ⟨j, hj, e1, e2, g⟩ ih
    have e1 : x5 = nI j := e1
    have e2 : σ2 = σ := e2
    subst e1 e2
    have g : ∀ a b : Nat, σ2.1 9 s = nI a → σ2.1 10 s = nI b → a ≤ 9 → b ≤ 9 → x3 = lN (pkw (fun j => if j < c then (if j = k then a else b) else 0) j) := g
    dsimp only
    unfold f4_gainOf_5_b f4_gainOf_47
    rw [h]
    by_cases cj : c ≤ j
    · have : j = c := by omega
      subst this
      rw [if_pos (nI_le cj (by omega))]
      refine ⟨_, rfl, rfl, fun a b ha hb ha9 hb9 => ?_⟩
      rw [g a b ha hb ha9 hb9]
      have : ∀ m, j ≤ m → pkw (fun i => if i < j then (if i = k then a else b) else 0) m = pkw (fun i => if i < j then (if i = k then a else b) else 0) j := by
        intro m
        induction m with
        | zero => intro hm; rw [show j = 0 by omega]
        | succ m ihm =>
          intro hm
          by_cases cm : j = m + 1
          · rw [cm]
          · rw [← ihm (by omega)]
            show pkw _ m + (if m < j then _ else 0) * _ = _
            rw [if_neg (by omega), Nat.zero_mul, Nat.add_zero]
      rw [this 5 hc]
    · have step : ∀ (z : Int32), (∀ a b : Nat, σ2.1 9 s = nI a → σ2.1 10 s = nI b → a ≤ 9 → b ≤ 9 → z = nI (if j = k then a else b)) → ∃ r, k5 ((x3 ||| (z.toInt64 <<< (((nI j * 8) : Int32).toInt64 &&& 63))), nI j + 1, σ2) = some r ∧ r.2 = σ2 ∧ ∀ a b : Nat, σ2.1 9 s = nI a → σ2.1 10 s = nI b → a ≤ 9 → b ≤ 9 → r.1 = lN (pkw (fun j => if j < c then (if j = k then a else b) else 0) 5) := by
        intro z hz
        rw [nI_1]
        refine ih _ ⟨j + 1, by omega, rfl, rfl, fun a b ha hb ha9 hb9 => ?_⟩ ?_
        · have v9 : (if j = k then a else b) ≤ 9 := by split <;> omega
          have lt := pkw_lt (fun j => if j < c then (if j = k then a else b) else 0) (fun i => by show (if i < c then (if i = k then a else b) else 0) < 256; split <;> (try split) <;> omega) j
          have e : (256 : Nat) ^ j = 2 ^ (8 * j) := by rw [Nat.pow_mul]
          have pj : 2 ^ (8 * j) ≤ 2 ^ 32 := Nat.pow_le_pow_right (by omega) (by omega)
          have mm : (if j = k then a else b) * 2 ^ (8 * j) ≤ 9 * 2 ^ (8 * j) := Nat.mul_le_mul_right _ v9
          dsimp only
          rw [g a b ha hb ha9 hb9, hz a b ha hb ha9 hb9, nI_l (by omega), shl64 _ (8 * j) (s8 ⟨j, by omega⟩) (by omega), or64 lt (by omega)]
          show _ = lN (pkw _ j + (if j < c then (if j = k then a else b) else 0) * 256 ^ j)
          rw [show (if j < c then (if j = k then a else b) else 0) = (if j = k then a else b) from if_pos (by omega), e]
        · show 10 - (nI (j + 1)).toNatClampNeg < 10 - (nI j).toNatClampNeg
          rw [nI_clamp (by omega), nI_clamp (by omega)]; omega
      rw [if_neg (nI_ge (by omega) (by omega)), if_neg (show ¬ (5 : Int32) ≤ nI j from nI_ge (b := 5) (by omega) (by omega))]
      by_cases ck : j = k
      · rw [if_pos (by rw [ck]), at_in (by omega) (by omega), bd_s]
        exact step _ (fun a b ha hb _ _ => by rw [if_pos ck]; exact ha)
      · rw [if_neg (fun z => ck ((nIc (by omega) (by omega)).mp z)), at_in (by omega) (by omega), bd_s]
        exact step _ (fun a b ha hb _ _ => by rw [if_neg ck]; exact hb))
  have p2 : r2 = σ := p2
  subst p2
  exact ⟨r1, p1, p3⟩
def SpB (σ : HS) (P : PP) (k m : Nat) : Prop := σ.1 6 k = nI (pk P k) ∧ σ.1 7 k = nI m ∧ ∀ q, q < m → σ.1 8 (3 * k + q) = nI (pl P (3 * k + q)) ∧ σ.1 9 (3 * k + q) = nI (po P (3 * k + q)) ∧ σ.1 10 (3 * k + q) = nI (pt P (3 * k + q))
def SpD (σ : HS) (P : PP) (k : Nat) : Prop := σ.1 13 k = nI (pk P k) ∧ σ.1 14 k = nI (pw P k) ∧ ∀ q, q < pw P k → σ.1 15 (3 * k + q) = nI (pl P (3 * k + q)) ∧ σ.1 16 (3 * k + q) = nI (po P (3 * k + q)) ∧ σ.1 17 (3 * k + q) = nI (pt P (3 * k + q))
def FrBe (σ σ' : HS) : Prop := (∀ b, (b < 5 ∨ 11 ≤ b) → σ'.1 b = σ.1 b) ∧ ∀ b, b ≠ 11 → σ'.2 b = σ.2 b
theorem become_c {σ : HS} {P : PP} {l : Nat} (w : WfP P) (h0 : σ.1 12 0 = nI (pn P)) (h1 : σ.1 12 1 = nI (pj P)) (h2 : σ.1 12 2 = nI l) (hd : ∀ k, k < pn P → SpD σ P k) : ∃ σ', f4_become σ = some σ' ∧ RepP σ' P ∧ σ'.1 5 2 = nI l ∧ FrBe σ σ' := by
  have h5 := w.1
  unfold f4_become f4_begin
  rw [h1, h2, bd_s]
  unfold f4_become_14
  refine wl_fuel (body := fun k14 p => f4_become_14_b k14 p.1 p.2) (fun p : Int32 × HS => ∃ t, t ≤ pn P ∧ p.1 = nI t ∧ (∀ b, (b < 5 ∨ 11 ≤ b) → p.2.1 b = σ.1 b) ∧ p.2.2 = σ.2 ∧ p.2.1 5 0 = nI t ∧ p.2.1 5 1 = nI (pj P) ∧ p.2.1 5 2 = nI l ∧ ∀ k, k < t → SpB p.2 P k (pw P k)) (fun p => 10 - p.1.toNatClampNeg) (fun r : HS => RepP r P ∧ r.1 5 2 = nI l ∧ FrBe σ r) (0, uI (uI (uI σ 5 0 0) 5 1 (nI (pj P))) 5 2 (nI l)) ⟨0, by omega, rfl, fun b hb => by show (uI (uI (uI σ _ _ _) _ _ _) _ _ _).1 b = _; rw [uI_other (by omega), uI_other (by omega), uI_other (by omega)], rfl, by simp [uI_at]; rfl, by simp [uI_at], by simp [uI_at], fun k hk => absurd hk (Nat.not_lt_zero k)⟩ (by show 10 - _ < _; omega) ?_
  rintro k14 ⟨x2, σ2⟩ ⟨t, ht, e, g1, g2, g3, g4, g5, g6⟩ ih
  have e : x2 = nI t := e
  subst e
  have g1 : ∀ b, (b < 5 ∨ 11 ≤ b) → σ2.1 b = σ.1 b := g1
  have g2 : σ2.2 = σ.2 := g2
  have g3 : σ2.1 5 0 = nI t := g3
  have g4 : σ2.1 5 1 = nI (pj P) := g4
  have g5 : σ2.1 5 2 = nI l := g5
  have g6 : ∀ k, k < t → SpB σ2 P k (pw P k) := g6
  dsimp only
  unfold f4_become_14_b
  rw [g1 12 (by omega), h0]
  by_cases c : pn P ≤ t
  · have : t = pn P := by omega
    subst this
    rw [if_pos (nI_le c (by omega))]
    unfold f4_become_86 f4_become_88
    refine wl_fuel (body := fun k88 p => f4_become_88_b k88 p.1 p.2) (fun p : Int32 × HS => ∃ s, s ≤ 15 ∧ p.1 = nI s ∧ p.2.1 = σ2.1 ∧ (∀ b, b ≠ 11 → p.2.2 b = σ2.2 b) ∧ ∀ k q, k < pn P → q < pw P k → 3 * k + q < s → p.2.2 11 (3 * k + q) = lN (pkw (gn P k q) 5)) (fun p => 20 - p.1.toNatClampNeg) _ (0, σ2) ⟨0, by omega, rfl, rfl, fun _ _ => rfl, fun k q _ _ h => absurd h (Nat.not_lt_zero _)⟩ (by show 20 - _ < _; omega) ?_
    rintro k88 ⟨x3, σ3⟩ ⟨s, hs, e, f1, f2, f3⟩ ih2
    have e : x3 = nI s := e
    subst e
    have f1 : σ3.1 = σ2.1 := f1
    have f2 : ∀ b, b ≠ 11 → σ3.2 b = σ2.2 b := f2
    have f3 : ∀ k q, k < pn P → q < pw P k → 3 * k + q < s → σ3.2 11 (3 * k + q) = lN (pkw (gn P k q) 5) := f3
    dsimp only
    unfold f4_become_88_b
    by_cases cs : 15 ≤ s
    · rw [if_pos (show (15 : Int32) ≤ nI s from nI_le cs (by omega))]
      refine ⟨σ3, rfl, ⟨by rw [f1]; exact g3, by rw [f1]; exact g4, fun k hk => ?_⟩, by rw [f1]; exact g5, fun b hb => by rw [f1]; exact g1 b hb, fun b hb => by rw [f2 b hb, g2]⟩
      obtain ⟨s1, s2, s3⟩ := g6 k hk
      have h3 := (w.2.2.2 k hk).2.2.1
      refine ⟨by rw [f1]; exact s1, by rw [f1]; exact s2, fun q hq => ⟨by rw [f1]; exact (s3 q hq).1, by rw [f1]; exact (s3 q hq).2.1, by rw [f1]; exact (s3 q hq).2.2, f3 k q hk hq (by omega)⟩⟩
    · obtain ⟨gv, v1, v2⟩ := gain_c (σ := σ3) (k := s / 3) (s := s) (by rw [f1]; exact g3) h5 (by omega) (by omega)
      have ed : nI s / (3 : Int32) = nI (s / 3) := pk_div (d := 3) (by omega) (by omega) (by omega)
      rw [if_neg (show ¬ (15 : Int32) ≤ nI s from nI_ge (b := 15) (by omega) (by omega)), ed, v1, bd_s, lset_in (by omega) (by omega), bd_s, nI_1]
      refine ih2 _ ⟨s + 1, by omega, rfl, f1, fun b hb => by show (uL σ3 11 s gv).2 b = _; rw [uL_other hb]; exact f2 b hb, fun k q hk hq hlt => ?_⟩ ?_
      · show (uL σ3 11 s gv).2 11 (3 * k + q) = _
        rw [uL_at]
        have h3 := (w.2.2.2 k hk).2.2.1
        have hq9 := (w.2.2.2 k hk).2.2.2 q hq
        by_cases c1 : 3 * k + q = s
        · rw [if_pos ⟨rfl, c1⟩]
          have sp := (g6 k hk).2.2 q hq
          rw [v2 (po P (3 * k + q)) (pt P (3 * k + q)) (by rw [f1, ← c1]; exact sp.2.1) (by rw [f1, ← c1]; exact sp.2.2) hq9.2.2.1 hq9.2.2.2]
          have ek : s / 3 = k := by omega
          rw [ek]; rfl
        · rw [if_neg (fun z => c1 z.2)]; exact f3 k q hk hq (by omega)
      · show 20 - (nI (s + 1)).toNatClampNeg < 20 - (nI s).toNatClampNeg
        rw [nI_clamp (by omega), nI_clamp (by omega)]; omega
  · obtain ⟨d1, d2, d3⟩ := hd t (by omega)
    have h3 := (w.2.2.2 t (by omega)).2.2.1
    rw [if_neg (nI_ge (by omega) (by omega)), if_neg (show ¬ (5 : Int32) ≤ nI t from nI_ge (b := 5) (by omega) (by omega))]
    unfold f4_kindOf f4_addSpeaker
    rw [at_in (by omega) (by omega), bd_s, bd_s]
    dsimp only
    rw [show σ2.1 (12 + 1) t = nI (pk P t) by rw [g1 13 (by omega)]; exact d1, g3, if_neg (show ¬ (5 : Int32) ≤ nI t from nI_ge (b := 5) (by omega) (by omega)), set_in (by omega) (by omega), bd_s]
    rw [show (uI σ2 (5 + 1) t (nI (pk P t))).1 5 0 = nI t by rw [uI_other (by omega)]; exact g3, set_in (by omega) (by omega), bd_s]
    rw [show (uI (uI σ2 (5 + 1) t (nI (pk P t))) (5 + 2) t 0).1 5 0 = nI t by rw [uI_other (by omega), uI_other (by omega)]; exact g3, nI_1, bd_s]
    unfold f4_become_38
    refine wl_fuel (body := fun k38 p => f4_become_38_b k14 k38 (nI t) p.1 p.2) (fun p : Int32 × HS => ∃ m, m ≤ pw P t ∧ p.1 = nI m ∧ (∀ b, (b < 5 ∨ 11 ≤ b) → p.2.1 b = σ.1 b) ∧ p.2.2 = σ.2 ∧ p.2.1 5 0 = nI (t + 1) ∧ p.2.1 5 1 = nI (pj P) ∧ p.2.1 5 2 = nI l ∧ (∀ k, k < t → SpB p.2 P k (pw P k)) ∧ SpB p.2 P t m) (fun p => 10 - p.1.toNatClampNeg) _ (0, uI (uI (uI σ2 (5 + 1) t (nI (pk P t))) (5 + 2) t 0) 5 0 (nI (t + 1))) ⟨0, by omega, rfl, fun b hb => by show (uI (uI (uI σ2 _ _ _) _ _ _) _ _ _).1 b = _; rw [uI_other (by omega), uI_other (by omega), uI_other (by omega)]; exact g1 b hb, g2, by simp [uI_at], by simp [uI_at]; exact g4, by simp [uI_at]; exact g5, fun k hk => ?_, ?_⟩ (by show 10 - _ < _; omega) ?_
    · have := g6 k hk
      have ne : ¬ k = t := by omega
      unfold SpB at this ⊢
      simp [uI_at, ne]; exact this
    · refine ⟨by simp [uI_at], by simp [uI_at]; rfl, fun q hq => absurd hq (Nat.not_lt_zero q)⟩
    · rintro k38 ⟨x3, σ3⟩ ⟨m, hm, e, f1, f2, f3, f4, f5, f6, f7⟩ ih2
      have e : x3 = nI m := e
      subst e
      have f1 : ∀ b, (b < 5 ∨ 11 ≤ b) → σ3.1 b = σ.1 b := f1
      have f2 : σ3.2 = σ.2 := f2
      have f3 : σ3.1 5 0 = nI (t + 1) := f3
      have f4 : σ3.1 5 1 = nI (pj P) := f4
      have f5 : σ3.1 5 2 = nI l := f5
      have f6 : ∀ k, k < t → SpB σ3 P k (pw P k) := f6
      have f7 : SpB σ3 P t m := f7
      dsimp only
      unfold f4_become_38_b f4_become_80 f4_wordsOf f4_lengthOf f4_ownOf f4_othersOf
      rw [at_in (by omega) (by omega), bd_s, bd_s]
      dsimp only
      rw [show σ3.1 (12 + 2) t = nI (pw P t) by rw [f1 14 (by omega)]; exact d2]
      by_cases cm : pw P t ≤ m
      · have : m = pw P t := by omega
        subst this
        rw [if_pos (nI_le cm (by omega)), nI_1]
        refine ih _ ⟨t + 1, by omega, rfl, f1, f2, f3, f4, f5, fun k hk => ?_⟩ ?_
        · by_cases ck : k = t
          · rw [ck]; exact f7
          · exact f6 k (by omega)
        · show 10 - (nI (t + 1)).toNatClampNeg < 10 - (nI t).toNatClampNeg
          rw [nI_clamp (by omega), nI_clamp (by omega)]; omega
      · have dd := d3 m (by omega)
        rw [if_neg (nI_ge (by omega) (by omega)), if_neg (show ¬ (3 : Int32) ≤ nI m from nI_ge (b := 3) (by omega) (by omega)), pow3, bd_s, at_in (by omega) (by omega), bd_s, bd_s]
        dsimp only
        rw [pow3, bd_s, at_in (by omega) (by omega), bd_s, bd_s]
        dsimp only
        rw [pow3, bd_s, at_in (by omega) (by omega), bd_s, bd_s]
        dsimp only
        rw [show σ3.1 (12 + 3) (3 * t + m) = nI (pl P (3 * t + m)) by rw [f1 15 (by omega)]; exact dd.1, show σ3.1 (12 + 4) (3 * t + m) = nI (po P (3 * t + m)) by rw [f1 16 (by omega)]; exact dd.2.1, show σ3.1 (12 + 5) (3 * t + m) = nI (pt P (3 * t + m)) by rw [f1 17 (by omega)]; exact dd.2.2]
        unfold f4_addWord f4_wordsOf
        rw [f3, show nI (t + 1) - 1 = nI t from nI_pred t, at_in (by omega) (by omega), bd_s, bd_s]
        dsimp only
        rw [show σ3.1 (5 + 2) t = nI m from f7.2.1, if_neg (nI_pos (by omega)), if_neg (show ¬ (3 : Int32) ≤ nI m from nI_ge (b := 3) (by omega) (by omega)), pow3, bd_s, set_in (by omega) (by omega), bd_s, set_in (by omega) (by omega), bd_s, set_in (by omega) (by omega), bd_s, nI_1, set_in (by omega) (by omega), bd_s, bd_s]
        refine ih2 _ ⟨m + 1, by omega, rfl, fun b hb => by show (uI (uI (uI (uI σ3 _ _ _) _ _ _) _ _ _) _ _ _).1 b = _; rw [uI_other (by omega), uI_other (by omega), uI_other (by omega), uI_other (by omega)]; exact f1 b hb, f2, by simp [uI_at]; exact f3, by simp [uI_at]; exact f4, by simp [uI_at]; exact f5, fun k hk => ?_, ?_⟩ ?_
        · obtain ⟨u1, u2, u3⟩ := f6 k hk
          have ne : ¬ k = t := by omega
          have hk3 := (w.2.2.2 k (by omega)).2.2.1
          refine ⟨by simp [uI_at]; exact u1, by simp [uI_at, ne]; exact u2, fun q hq => ?_⟩
          have ne2 : ¬ 3 * k + q = 3 * t + m := by omega
          simp [uI_at, ne2]; exact u3 q hq
        · obtain ⟨u1, u2, u3⟩ := f7
          refine ⟨by simp [uI_at]; exact u1, by simp [uI_at], fun q hq => ?_⟩
          by_cases cq : q = m
          · subst cq; simp [uI_at]
          · simp [uI_at, cq]; exact u3 q (by omega)
        · show 10 - (nI (m + 1)).toNatClampNeg < 10 - (nI m).toNatClampNeg
          rw [nI_clamp (by omega), nI_clamp (by omega)]; omega
theorem first_c (g : Nat) (σ : HS) : ∃ σ', f0_takeFirstOrder g σ = some σ' ∧ (∀ b, b ≠ g + 1 → σ'.1 b = σ.1 b) ∧ σ'.2 = σ.2 ∧ ∀ p, p < 5 → σ'.1 (g + 1) p = nI p := by
  unfold f0_takeFirstOrder f0_takeFirstOrder_2
  refine wl_fuel (body := fun k2 p => f0_takeFirstOrder_2_b g k2 p.1 p.2) (fun p : Int32 × HS => ∃ i, i ≤ 5 ∧ p.1 = nI i ∧ (∀ b, b ≠ g + 1 → p.2.1 b = σ.1 b) ∧ p.2.2 = σ.2 ∧ ∀ q, q < i → p.2.1 (g + 1) q = nI q) (fun p => 10 - p.1.toNatClampNeg) _ (0, σ) ⟨0, by omega, rfl, fun _ _ => rfl, rfl, fun q h => absurd h (Nat.not_lt_zero q)⟩ (by show 10 - _ < _; omega) ?_
  rintro k2 ⟨x1, σ2⟩ ⟨i, hi, e, g1, g2, g3⟩ ih
  have e : x1 = nI i := e
  subst e
  have g1 : ∀ b, b ≠ g + 1 → σ2.1 b = σ.1 b := g1
  have g3 : ∀ q, q < i → σ2.1 (g + 1) q = nI q := g3
  dsimp only
  unfold f0_takeFirstOrder_2_b
  by_cases c : 5 ≤ i
  · rw [if_pos (show (5 : Int32) ≤ nI i from nI_le c (by omega))]
    exact ⟨_, rfl, g1, g2, fun p hp => g3 p (by omega)⟩
  · rw [if_neg (show ¬ (5 : Int32) ≤ nI i from nI_ge (b := 5) (by omega) (by omega)), set_in (by omega) (by omega), bd_s, nI_1]
    refine ih _ ⟨i + 1, by omega, rfl, fun b hb => by show (uI σ2 _ _ _).1 b = _; rw [uI_other hb]; exact g1 b hb, g2, fun q hq => ?_⟩ ?_
    · show (uI σ2 (g + 1) i (nI i)).1 (g + 1) q = _
      rw [uI_at]
      by_cases c1 : q = i
      · rw [if_pos ⟨rfl, c1⟩, c1]
      · rw [if_neg (fun z => c1 z.2)]; exact g3 q (by omega)
    · show 10 - (nI (i + 1)).toNatClampNeg < 10 - (nI i).toNatClampNeg
      rw [nI_clamp (by omega), nI_clamp (by omega)]; omega
/-- the model's copying -/
theorem copyM {τ : HS} {c : Nat} (hc : c ≤ 5) (h1 : τ.1 0 1 = nI c) : ∃ τ', f9_council_84 (0, τ) = some (nI c, τ') ∧ (∀ b, (b = 0 ∨ 7 ≤ b) → b ≠ 0 → τ'.1 b = τ.1 b) ∧ (∀ y, τ'.1 0 y = if y = 0 then 0 else τ.1 0 y) ∧ (∀ k, k < c → τ'.1 1 k = τ.1 7 k ∧ τ'.1 2 k = τ.1 8 k ∧ τ'.1 6 k = nI k) ∧ ∀ s, s < 15 → τ'.1 3 s = τ.1 9 s ∧ τ'.1 4 s = τ.1 10 s ∧ τ'.1 5 s = τ.1 11 s := by
  unfold f9_council_84
  obtain ⟨⟨r1, r2⟩, p1, p2, p3⟩ := wl_fuel (body := fun k84 p => f9_council_84_b k84 p.1 p.2) (fun p : Int32 × HS => ∃ i, i ≤ c ∧ p.1 = nI i ∧ (∀ b, (b = 0 ∨ 7 ≤ b) → p.2.1 b = τ.1 b) ∧ ∀ k, k < i → p.2.1 1 k = τ.1 7 k ∧ p.2.1 2 k = τ.1 8 k ∧ p.2.1 6 k = nI k) (fun p => 10 - p.1.toNatClampNeg) (fun r : Int32 × HS => r.1 = nI c ∧ (∀ b, (b = 0 ∨ 7 ≤ b) → b ≠ 0 → r.2.1 b = τ.1 b) ∧ (∀ y, r.2.1 0 y = if y = 0 then 0 else τ.1 0 y) ∧ (∀ k, k < c → r.2.1 1 k = τ.1 7 k ∧ r.2.1 2 k = τ.1 8 k ∧ r.2.1 6 k = nI k) ∧ ∀ s, s < 15 → r.2.1 3 s = τ.1 9 s ∧ r.2.1 4 s = τ.1 10 s ∧ r.2.1 5 s = τ.1 11 s) (0, τ) ⟨0, by omega, rfl, fun _ _ => rfl, fun k h => absurd h (Nat.not_lt_zero k)⟩ (by show 10 - _ < _; omega) (by
    rintro k84 ⟨x6, τ2⟩ ⟨i, hi, e, g1, g3⟩ ih
    have e : x6 = nI i := e
    subst e
    have g1 : ∀ b, (b = 0 ∨ 7 ≤ b) → τ2.1 b = τ.1 b := g1
    have g3 : ∀ k, k < i → τ2.1 1 k = τ.1 7 k ∧ τ2.1 2 k = τ.1 8 k ∧ τ2.1 6 k = nI k := g3
    dsimp only
    unfold f9_council_84_b
    rw [g1 0 (by omega), h1]
    by_cases cc : c ≤ i
    · have : i = c := by omega
      subst this
      rw [if_pos (nI_le cc (by omega))]
      unfold f9_council_139
      refine wl_fuel (body := fun k139 p => f9_council_139_b k139 p.1 p.2) (fun p : Int32 × HS => ∃ s, s ≤ 15 ∧ p.1 = nI s ∧ (∀ b, b ≠ 3 → b ≠ 4 → b ≠ 5 → p.2.1 b = τ2.1 b) ∧ ∀ s', s' < s → p.2.1 3 s' = τ.1 9 s' ∧ p.2.1 4 s' = τ.1 10 s' ∧ p.2.1 5 s' = τ.1 11 s') (fun p => 20 - p.1.toNatClampNeg) _ (0, τ2) ⟨0, by omega, rfl, fun _ _ _ _ => rfl, fun k h => absurd h (Nat.not_lt_zero k)⟩ (by show 20 - _ < _; omega) ?_
      rintro k139 ⟨x7, τ3⟩ ⟨s, hs, e, f1, f3⟩ ih2
      have e : x7 = nI s := e
      subst e
      have f1 : ∀ b, b ≠ 3 → b ≠ 4 → b ≠ 5 → τ3.1 b = τ2.1 b := f1
      have f3 : ∀ s', s' < s → τ3.1 3 s' = τ.1 9 s' ∧ τ3.1 4 s' = τ.1 10 s' ∧ τ3.1 5 s' = τ.1 11 s' := f3
      dsimp only
      unfold f9_council_139_b f9_refused
      by_cases cs : 15 ≤ s
      · rw [if_pos (show (15 : Int32) ≤ nI s from nI_le cs (by omega)), f1 0 (by omega) (by omega) (by omega), g1 0 (by omega), h1, bd_s]
        refine ⟨_, rfl, rfl, fun b hb hb0 => ?_, fun y => ?_, fun k hk => ?_, fun s' hs' => ?_⟩
        · show (uI τ3 0 0 0).1 b = _
          rw [uI_other hb0, f1 b (by omega) (by omega) (by omega), g1 b hb]
        · show (uI τ3 0 0 0).1 0 y = _
          rw [uI_at, f1 0 (by omega) (by omega) (by omega), g1 0 (by omega)]; by_cases c : y = 0 <;> simp [c]
        · show (uI τ3 0 0 0).1 1 k = _ ∧ (uI τ3 0 0 0).1 2 k = _ ∧ (uI τ3 0 0 0).1 6 k = _
          rw [uI_other (by omega), uI_other (by omega), uI_other (by omega), f1 1 (by omega) (by omega) (by omega), f1 2 (by omega) (by omega) (by omega), f1 6 (by omega) (by omega) (by omega)]
          exact g3 k hk
        · show (uI τ3 0 0 0).1 3 s' = _ ∧ (uI τ3 0 0 0).1 4 s' = _ ∧ (uI τ3 0 0 0).1 5 s' = _
          rw [uI_other (by omega), uI_other (by omega), uI_other (by omega)]
          exact f3 s' (by omega)
      · rw [if_neg (show ¬ (15 : Int32) ≤ nI s from nI_ge (b := 15) (by omega) (by omega)), ix_in (by omega) (by omega), ix_in (by omega) (by omega), ix_in (by omega) (by omega), ix_in (by omega) (by omega), ix_in (by omega) (by omega), ix_in (by omega) (by omega), nI_clamp (by omega), nI_1]
        refine ih2 _ ⟨s + 1, by omega, rfl, fun b b3 b4 b5 => by show (uI (uI (uI τ3 _ _ _) _ _ _) _ _ _).1 b = _; rw [uI_other b5, uI_other b4, uI_other b3]; exact f1 b b3 b4 b5, fun s' hs' => ?_⟩ ?_
        · by_cases c1 : s' = s
          · rw [c1]
            simp [uI_at, f1 9 (by omega) (by omega) (by omega), f1 10 (by omega) (by omega) (by omega), f1 11 (by omega) (by omega) (by omega), g1 9 (by omega), g1 10 (by omega), g1 11 (by omega)]
          · simp [uI_at, c1]; exact f3 s' (by omega)
        · show 20 - (nI (s + 1)).toNatClampNeg < 20 - (nI s).toNatClampNeg
          rw [nI_clamp (by omega), nI_clamp (by omega)]; omega
    · rw [if_neg (nI_ge (by omega) (by omega)), ix_in (by omega) (by omega), ix_in (by omega) (by omega), ix_in (by omega) (by omega), ix_in (by omega) (by omega), ix_in (by omega) (by omega), nI_clamp (by omega), nI_1]
      refine ih _ ⟨i + 1, by omega, rfl, fun b hb => by show (uI (uI (uI τ2 _ _ _) _ _ _) _ _ _).1 b = _; rw [uI_other (by omega), uI_other (by omega), uI_other (by omega)]; exact g1 b hb, fun k hk => ?_⟩ ?_
      · by_cases c1 : k = i
        · rw [c1]
          simp [uI_at, g1 7 (by omega), g1 8 (by omega)]
        · simp [uI_at, c1]; exact g3 k (by omega)
      · show 10 - (nI (i + 1)).toNatClampNeg < 10 - (nI i).toNatClampNeg
        rw [nI_clamp (by omega), nI_clamp (by omega)]; omega)
  have p2 : r1 = nI c := p2
  subst p2
  exact ⟨r2, p1, p3⟩
