/-! reading, in step -/
/-- the text: n codes, v, on sheet k from i on -/
def Cs (σ : HS) (k i n : Nat) (v : Nat → Int32) (p : Nat) : Prop := σ.1 19 2 = nI (100 * k + i) ∧ True ∧ σ.1 19 3 = nI n ∧ σ.1 19 4 = nI p ∧ σ.1 19 5 = -1 ∧ p ≤ n ∧ ∀ q, q < n → σ.1 4 (100 * k + (i + q)) = v q
def Ms (τ : HS) (k i n : Nat) (v : Nat → Int32) (p : Nat) : Prop := τ.1 0 11 = nI p ∧ ∀ q, q < n → τ.1 23 (100 * k + i + q) = v q
def Fr19 (σ σ' : HS) : Prop := (∀ b, b ≠ 19 → σ'.1 b = σ.1 b) ∧ σ'.2 = σ.2
def Fr11 (τ τ' : HS) : Prop := (∀ b, b ≠ 0 → τ'.1 b = τ.1 b) ∧ ∀ y, y ≠ 11 → τ'.1 0 y = τ.1 0 y
theorem Fr19.tr {a b c : HS} (h : Fr19 a b) (h2 : Fr19 b c) : Fr19 a c := ⟨fun x hx => (h2.1 x hx).trans (h.1 x hx), h2.2.trans h.2⟩
theorem Fr11.tr {a b c : HS} (h : Fr11 a b) (h2 : Fr11 b c) : Fr11 a c := ⟨fun x hx => (h2.1 x hx).trans (h.1 x hx), fun y hy => (h2.2 y hy).trans (h.2 y hy)⟩
theorem fr19 (σ : HS) (y : Nat) (x : Int32) : Fr19 σ (uI σ 19 y x) := ⟨fun b hb => uI_other hb _ _, rfl⟩
theorem fr11 (τ : HS) (x : Int32) : Fr11 τ (uI τ 0 11 x) := ⟨fun b hb => uI_other hb _ _, fun y hy => by rw [uI_at, if_neg (fun z => hy z.2)]⟩
theorem Cs.to {σ : HS} {k i n : Nat} {v : Nat → Int32} {p q : Nat} (h : Cs σ k i n v p) (hq : q ≤ n) : Cs (uI σ 19 4 (nI q)) k i n v q := by
  obtain ⟨h1, h2, h3, h4, h5, h6, h7⟩ := h
  exact ⟨by simp [uI_at]; exact h1, trivial, by simp [uI_at]; exact h3, by simp [uI_at], by simp [uI_at]; exact h5, hq, fun r hr => by rw [uI_other (by omega)]; exact h7 r hr⟩
theorem Ms.to {τ : HS} {k i n : Nat} {v : Nat → Int32} {p q : Nat} (h : Ms τ k i n v p) : Ms (uI τ 0 11 (nI q)) k i n v q := ⟨by simp [uI_at], fun r hr => by rw [uI_other (by omega)]; exact h.2 r hr⟩
/-- both stop at f -/
def Fail (σ' τ' : HS) (f : Nat) : Prop := σ'.1 19 5 = nI f ∧ τ'.1 0 11 = nI f ∧ f ≤ 200
theorem next_c {σ : HS} {k i n p : Nat} {v : Nat → Int32} (h : Cs σ k i n v p) (hk : k < 4) (hi : i + n ≤ 100) (c : Int32) : (p < n ∧ v p = c ∧ f6_isNext c σ = some (1, σ)) ∨ (¬ (p < n ∧ v p = c) ∧ f6_isNext c σ = some (0, σ)) := by
  obtain ⟨h1, h2, h3, h4, h5, h6, h7⟩ := h
  unfold f6_isNext f6_isNext_35
  rw [h1, h3, h4]
  by_cases c1 : n ≤ p
  · rw [if_pos (nI_le c1 (by omega))]; exact Or.inr ⟨fun z => by omega, rfl⟩
  · rw [if_neg (nI_ge (by omega) (by omega)), nI_add, show 100 * k + i + p = 100 * k + (i + p) by omega, at_in (by omega) (by omega), bd_s]
    dsimp only
    rw [h7 p (by omega)]
    by_cases c2 : v p = c
    · rw [if_pos c2]; exact Or.inl ⟨by omega, c2, rfl⟩
    · rw [if_neg c2]; exact Or.inr ⟨fun z => c2 z.2, rfl⟩
theorem sign_j {σ τ : HS} {k i n p : Nat} {v : Nat → Int32} (h : Cs σ k i n v p) (m : Ms τ k i n v p) (hk : k < 4) (hi : i + n ≤ 100) (c : Int32) : (p < n ∧ v p = c ∧ f6_readSign c σ = some (1, uI σ 19 4 (nI (p + 1))) ∧ f9_takes c (nI (100 * k + i)) (nI n) τ = some (1, uI τ 0 11 (nI (p + 1))) ∧ Cs (uI σ 19 4 (nI (p + 1))) k i n v (p + 1) ∧ Ms (uI τ 0 11 (nI (p + 1))) k i n v (p + 1)) ∨ (¬ (p < n ∧ v p = c) ∧ f6_readSign c σ = some (0, uI σ 19 5 (nI p)) ∧ f9_takes c (nI (100 * k + i)) (nI n) τ = some (0, uI τ 0 11 (nI p)) ∧ Fail (uI σ 19 5 (nI p)) (uI τ 0 11 (nI p)) p) := by
  have hp := h.2.2.2.2.2.1
  have tk : f9_takes c (nI (100 * k + i)) (nI n) τ = if p < n ∧ v p = c then some (1, uI τ 0 11 (nI (p + 1))) else some (0, uI τ 0 11 (nI p)) := by
    unfold f9_takes f9_takes_27 f9_takes_28 f9_takes_45
    rw [m.1]
    have z0 : nI p + 0 = nI p := nI_add p 0
    by_cases c1 : n ≤ p
    · rw [if_pos (nI_le c1 (by omega)), if_pos rfl, if_pos (Or.inl rfl), z0, if_neg (fun z => absurd z.1 (by omega))]
    · rw [if_neg (nI_ge (by omega) (by omega)), nI_add, ix_in (by omega) (by omega), nI_clamp (by omega), m.2 p (by omega)]
      by_cases c2 : v p = c
      · rw [if_pos c2, if_neg n10, if_pos (Or.inr rfl), nI_1, if_pos ⟨by omega, c2⟩]
      · rw [if_neg c2, if_pos rfl, if_pos (Or.inl rfl), z0, if_neg (fun z => c2 z.2)]
  unfold f6_readSign
  rw [tk]
  rcases next_c h hk hi c with ⟨a1, a2, a3⟩ | ⟨a1, a3⟩
  · left
    rw [a3, bd_s, if_neg n10, if_pos ⟨a1, a2⟩]
    dsimp only
    rw [h.2.2.2.1, nI_1]
    exact ⟨a1, a2, rfl, rfl, h.to (by omega), m.to⟩
  · right
    rw [a3, bd_s, if_pos rfl, if_neg a1]
    dsimp only
    rw [h.2.2.2.1]
    exact ⟨a1, rfl, rfl, by simp [uI_at], by simp [uI_at], by omega⟩
theorem dig_c (x : Int32) : (∃ d, d < 10 ∧ x = nI (48 + d)) ∨ (x.toInt < 48 ∨ 57 < x.toInt) := by
  by_cases c : x.toInt < 48 ∨ 57 < x.toInt
  · exact Or.inr c
  · left
    refine ⟨x.toInt.toNat - 48, by omega, ?_⟩
    rw [← Int32.toInt_inj, nI_toInt (by omega)]
    omega
theorem digit_cl {σ : HS} {k i n p : Nat} {v : Nat → Int32} (h : Cs σ k i n v p) (hk : k < 4) (hi : i + n ≤ 100) : (∃ d, d < 10 ∧ p < n ∧ v p = nI (48 + d) ∧ f6_readDigit σ = some (nI d, uI σ 19 4 (nI (p + 1)))) ∨ (¬ (p < n ∧ ∃ d, d < 10 ∧ v p = nI (48 + d)) ∧ f6_readDigit σ = some (-1, uI σ 19 5 (nI p))) := by
  obtain ⟨h1, h2, h3, h4, h5, h6, h7⟩ := h
  unfold f6_readDigit f6_readDigit_40
  rw [h1, h4, nI_add, show 100 * k + i + p = 100 * k + (i + p) by omega]
  by_cases c1 : n ≤ p
  · have : ∃ y, f8_at 4 400 (nI (100 * k + (i + p))) σ = some (y, σ) := by
      by_cases c2 : 100 * k + (i + p) < 400
      · exact ⟨_, at_in c2 (by omega)⟩
      · exact ⟨_, at_out (by omega) (by omega)⟩
    obtain ⟨y, ey⟩ := this
    right
    rw [ey, bd_s]
    dsimp only
    rw [h3, h4, if_pos (nI_le c1 (by omega))]
    exact ⟨fun z => by omega, rfl⟩
  · rw [at_in (by omega) (by omega), bd_s]
    dsimp only
    rw [h3, h4, if_neg (nI_ge (by omega) (by omega)), h7 p (by omega)]
    rcases dig_c (v p) with ⟨d, hd, e⟩ | hc
    · left
      rw [e, if_neg (show ¬ nI (48 + d) < (48 : Int32) from nI_nlt (b := 48) (by omega) (by omega)), if_pos (show nI (48 + d) ≤ (57 : Int32) from nI_le (b := 57) (by omega) (by omega)), show nI (48 + d) - (48 : Int32) = nI d by show nI (48 + d) - nI 48 = _; rw [pk_sub (by omega)]; congr 1; omega, nI_1]
      exact ⟨d, hd, by omega, rfl, rfl⟩
    · right
      refine ⟨fun ⟨z, d, hd, e⟩ => by rw [e, nI_toInt (by omega)] at hc; omega, ?_⟩
      by_cases c2 : v p < 48
      · rw [if_pos c2]
      · rw [if_neg c2, if_neg]
        rw [Int32.lt_iff_toInt_lt, tp48] at c2
        rw [Int32.le_iff_toInt_le, tp57]
        omega
theorem figAt_c {τ : HS} {k i n q : Nat} {v : Nat → Int32} (hv : ∀ q, q < n → τ.1 23 (100 * k + i + q) = v q) (hk : k < 4) (hi : i + n ≤ 100) (hq : q ≤ 200) : (∃ d, d < 10 ∧ q < n ∧ v q = nI (48 + d) ∧ f9_figureAt (nI (100 * k + i)) (nI n) (nI q) τ = some (nI d, τ)) ∨ (¬ (q < n ∧ ∃ d, d < 10 ∧ v q = nI (48 + d)) ∧ f9_figureAt (nI (100 * k + i)) (nI n) (nI q) τ = some (-9, τ)) := by
  unfold f9_figureAt f9_figureAt_21
  by_cases c1 : n ≤ q
  · right
    rw [if_pos (nI_le c1 (by omega)), in_n (by rw [w64]; show (-9 : Int) < (0 : Int) ∨ _; omega), bd_s, if_pos rfl]
    exact ⟨fun z => by omega, rfl⟩
  · rw [if_neg (nI_ge (by omega) (by omega)), nI_add, ix_in (by omega) (by omega), nI_clamp (by omega), hv q (by omega)]
    rcases dig_c (v q) with ⟨d, hd, e⟩ | hc
    · left
      rw [e, show nI (48 + d) - (48 : Int32) = nI d by show nI (48 + d) - nI 48 = _; rw [pk_sub (by omega)]; congr 1; omega, in_y (by rw [w64, nI_toInt (by omega)]; show (0 : Int) ≤ _; omega) (by rw [w64, nI_toInt (by omega)]; show _ ≤ (9 : Int); omega), bd_s, if_neg n10]
      exact ⟨d, hd, by omega, rfl, rfl⟩
    · right
      have hs : (v q - 48).toInt < 0 ∨ 9 < (v q - 48).toInt := by
        have r := fa_rng (v q)
        have e48 : (48 : Int32).toInt = 48 := rfl
        by_cases big : -2147483648 ≤ (v q).toInt - 48
        · rw [sub32 _ _ (by rw [e48]; omega) (by rw [e48]; omega), e48]; omega
        · have : (v q - 48).toInt = (v q).toInt - 48 + 4294967296 := by
            rw [Int32.toInt_sub, e48]
            rw [show (2 : Nat) ^ 32 = 4294967296 from rfl, Int.bmod_def]
            split <;> omega
          omega
      rw [in_n (by rw [w64]; show _ < (0 : Int) ∨ (9 : Int) < _; omega), bd_s, if_pos rfl]
      exact ⟨fun ⟨z, d, hd, e⟩ => by rw [e, nI_toInt (by omega)] at hc; omega, rfl⟩
theorem digit_j {σ τ : HS} {k i n p : Nat} {v : Nat → Int32} (h : Cs σ k i n v p) (m : Ms τ k i n v p) (hk : k < 4) (hi : i + n ≤ 100) : (∃ (d : Nat) (σ' τ' : HS), d < 10 ∧ f6_readDigit σ = some (nI d, σ') ∧ f9_figure (nI (100 * k + i)) (nI n) τ = some (nI d, τ') ∧ Fr19 σ σ' ∧ Fr11 τ τ' ∧ Cs σ' k i n v (p + 1) ∧ Ms τ' k i n v (p + 1)) ∨ (∃ σ' τ' : HS, f6_readDigit σ = some (-1, σ') ∧ f9_figure (nI (100 * k + i)) (nI n) τ = some (-9, τ') ∧ Fr19 σ σ' ∧ Fr11 τ τ' ∧ Fail σ' τ' p) := by
  have hp := h.2.2.2.2.2.1
  unfold f9_figure f9_figure_25
  rw [m.1]
  rcases digit_cl h hk hi with ⟨d, hd, hpn, e, a⟩ | ⟨e, a⟩
  · rcases figAt_c (q := p) m.2 hk hi (by omega) with ⟨d2, hd2, _, e2, a2⟩ | ⟨e2, a2⟩
    · have : d2 = d := by
        rw [e] at e2
        have := (nIc (by omega) (by omega)).mp e2
        omega
      subst this
      left
      rw [a, a2, bd_s, if_pos (nI_pos' (by omega))]
      dsimp only
      rw [m.1, nI_1]
      exact ⟨d2, _, _, hd, rfl, rfl, fr19 _ _ _, fr11 _ _, h.to (by omega), m.to⟩
    · exact absurd ⟨hpn, d, hd, e⟩ e2
  · rcases figAt_c (q := p) m.2 hk hi (by omega) with ⟨d2, hd2, hpn, e2, a2⟩ | ⟨e2, a2⟩
    · exact absurd ⟨hpn, d2, hd2, e2⟩ e
    · right
      rw [a, a2, bd_s, if_neg m9nle]
      dsimp only
      rw [m.1]
      have z0 : nI p + 0 = nI p := nI_add p 0
      rw [z0]
      exact ⟨_, _, rfl, rfl, fr19 _ _ _, fr11 _ _, by simp [uI_at], by simp [uI_at], by omega⟩
theorem number_j {σ τ : HS} {k i n p M : Nat} {v : Nat → Int32} (h : Cs σ k i n v p) (m : Ms τ k i n v p) (hk : k < 4) (hi : i + n ≤ 100) (hM : M ≤ 99) (hM2 : 10 ≤ M) : (∃ (x : Nat) (σ' τ' : HS), 1 ≤ x ∧ x ≤ M ∧ f6_readNumber (nI M) σ = some (nI x, σ') ∧ f9_two (nI (100 * k + i)) (nI n) (nI M) τ = some (nI x, τ') ∧ Fr19 σ σ' ∧ Fr11 τ τ' ∧ Cs σ' k i n v (p + 2) ∧ Ms τ' k i n v (p + 2)) ∨ (∃ (f : Nat) (σ' τ' : HS), f6_readNumber (nI M) σ = some (-1, σ') ∧ f9_two (nI (100 * k + i)) (nI n) (nI M) τ = some (-9, τ') ∧ Fr19 σ σ' ∧ Fr11 τ τ' ∧ Fail σ' τ' f) := by
  have hp := h.2.2.2.2.2.1
  have h5 := h.2.2.2.1
  unfold f6_readNumber f6_readNumber_65 f9_two f9_two_95
  rw [m.1, h5]
  have dM : nI M / (10 : Int32) = nI (M / 10) := pk_div (d := 10) (by omega) (by omega) (by omega)
  rw [dM]
  rcases digit_cl h hk hi with ⟨d, hd, hpn, e, a⟩ | ⟨e, a⟩
  · have a2 : f9_figureAt (nI (100 * k + i)) (nI n) (nI p) τ = some (nI d, τ) := by
      rcases figAt_c (q := p) m.2 hk hi (by omega) with ⟨d2, hd2, _, e2, a2⟩ | ⟨e2, a2⟩
      · have : d2 = d := by
          rw [e] at e2
          have := (nIc (by omega) (by omega)).mp e2
          omega
        subst this
        exact a2
      · exact absurd ⟨hpn, d, hd, e⟩ e2
    have m10 : (10 : Int32) * nI d = nI (10 * d) := pk_mul 10 d
    rw [a, bd_s, if_pos (nI_pos' (by omega)), a2, bd_s, if_neg (nI_pos (by omega))]
    dsimp only
    rw [m10]
    by_cases cd : d ≤ M / 10
    · rw [if_pos (nI_le cd (by omega)), if_pos (nI_le (by omega) (by omega)), m.1, nI_1]
      have h1 := h.to (q := p + 1) (by omega)
      rcases digit_cl h1 hk hi with ⟨d', hd', hpn', e', a'⟩ | ⟨e', a'⟩
      · have a2' : f9_figureAt (nI (100 * k + i)) (nI n) (nI (p + 1)) τ = some (nI d', τ) := by
          rcases figAt_c (q := p + 1) m.2 hk hi (by omega) with ⟨d2, hd2, _, e2, a2⟩ | ⟨e2, a2⟩
          · have : d2 = d' := by
              rw [e'] at e2
              have := (nIc (by omega) (by omega)).mp e2
              omega
            subst this
            exact a2
          · exact absurd ⟨hpn', d', hd', e'⟩ e2
        rw [a', bd_s, if_pos (nI_pos' (by omega)), a2', bd_s, if_pos (nI_pos' (by omega))]
        dsimp only
        rw [nI_add]
        have h2 := h1.to (q := p + 2) (by omega)
        have t64 : ((10 : Int64) * (nI d).toInt64 + (nI d').toInt64).toInt = ((10 * d + d' : Nat) : Int) := by
          rw [nI_l (by omega), nI_l (by omega)]
          show (lN 10 * lN d + lN d').toInt = _
          rw [lN_mul, lN_add, pk_lT (by omega)]
        by_cases cr : 1 ≤ 10 * d + d' ∧ 10 * d + d' ≤ M
        · left
          rw [if_neg (show ¬ nI (10 * d + d') < (1 : Int32) from nI_nlt (b := 1) (by omega) (by omega)), if_pos (nI_le (by omega) (by omega)), in_y (by rw [t64]; show (1 : Int) ≤ _; omega) (by rw [t64, w64, nI_toInt (by omega)]; omega), bd_s, if_neg n10]
          dsimp only
          rw [if_neg n10, m.1, show nI p + 2 = nI (p + 2) from nI_add p 2]
          exact ⟨10 * d + d', _, _, by omega, by omega, rfl, rfl, (fr19 _ _ _).tr (fr19 _ _ _), fr11 _ _, h2, m.to⟩
        · right
          have cl : (if nI (10 * d + d') < (1 : Int32) then some (((-1 : Int32)), uI (uI (uI σ 19 4 (nI (p + 1))) 19 4 (nI (p + 1 + 1))) 19 5 (nI p)) else if nI (10 * d + d') ≤ nI M then some (nI (10 * d + d'), uI (uI σ 19 4 (nI (p + 1))) 19 4 (nI (p + 1 + 1))) else some (-1, uI (uI (uI σ 19 4 (nI (p + 1))) 19 4 (nI (p + 1 + 1))) 19 5 (nI p))) = some ((-1 : Int32), uI (uI (uI σ 19 4 (nI (p + 1))) 19 4 (nI (p + 1 + 1))) 19 5 (nI p)) := by
            by_cases c0 : nI (10 * d + d') < (1 : Int32)
            · rw [if_pos c0]
            · have : ¬ 10 * d + d' < 1 := fun z => c0 (nI_lt (b := 1) z (by omega))
              rw [if_neg c0, if_neg (nI_ge (by omega) (by omega))]
          rw [in_n (by rw [t64, w64, nI_toInt (by omega)]; show _ < (1 : Int) ∨ _; omega), bd_s, if_pos rfl]
          dsimp only
          have z0 : nI p + 0 = nI p := nI_add p 0
          rw [if_pos rfl, m.1, z0]
          exact ⟨p, _, _, cl, rfl, ((fr19 _ _ _).tr (fr19 _ _ _)).tr (fr19 _ _ _), fr11 _ _, by simp [uI_at], by simp [uI_at], by omega⟩
      · have a2' : f9_figureAt (nI (100 * k + i)) (nI n) (nI (p + 1)) τ = some (-9, τ) := by
          rcases figAt_c (q := p + 1) m.2 hk hi (by omega) with ⟨d2, hd2, hq, e2, a2⟩ | ⟨e2, a2⟩
          · exact absurd ⟨hq, d2, hd2, e2⟩ e'
          · exact a2
        right
        rw [a', bd_s, if_neg (show ¬ (0 : Int32) ≤ -1 by decide), a2', bd_s, if_neg m9nle]
        dsimp only
        rw [m.1, nI_1]
        exact ⟨p + 1, _, _, rfl, rfl, (fr19 _ _ _).tr (fr19 _ _ _), fr11 _ _, by simp [uI_at], by simp [uI_at], by omega⟩
    · right
      rw [if_neg (nI_ge (by omega) (by omega)), if_neg (nI_ge (by omega) (by omega))]
      exact ⟨p, _, _, rfl, rfl, (fr19 _ _ _).tr (fr19 _ _ _), ⟨fun _ _ => rfl, fun _ _ => rfl⟩, by simp [uI_at], m.1, by omega⟩
  · have a2 : f9_figureAt (nI (100 * k + i)) (nI n) (nI p) τ = some (-9, τ) := by
      rcases figAt_c (q := p) m.2 hk hi (by omega) with ⟨d2, hd2, hq, e2, a2⟩ | ⟨e2, a2⟩
      · exact absurd ⟨hq, d2, hd2, e2⟩ e
      · exact a2
    right
    rw [a, bd_s, if_neg (show ¬ (0 : Int32) ≤ -1 by decide), a2, bd_s, if_pos m9lt]
    exact ⟨p, _, _, rfl, rfl, fr19 _ _ _, ⟨fun _ _ => rfl, fun _ _ => rfl⟩, by simp [uI_at], m.1, by omega⟩
/-! the draft -/
def WDe (σ τ : HS) (s : Nat) : Prop := ∃ l a b : Nat, σ.1 15 s = nI l ∧ σ.1 16 s = nI a ∧ σ.1 17 s = nI b ∧ τ.1 9 s = nI l ∧ τ.1 10 s = nI a ∧ τ.1 11 s = nI b ∧ 1 ≤ l ∧ l ≤ 60 ∧ a ≤ 9 ∧ b ≤ 9
def SDe (σ τ : HS) (k m : Nat) : Prop := m ≤ 3 ∧ (∃ kd : Nat, kd ≤ 2 ∧ σ.1 13 k = nI kd ∧ τ.1 7 k = nI kd) ∧ σ.1 14 k = nI m ∧ τ.1 8 k = nI m ∧ ∀ q, q < m → WDe σ τ (3 * k + q)
theorem WDe.fr {σ τ σ' τ' : HS} {s : Nat} (h : WDe σ τ s) (a : Fr19 σ σ') (b : Fr11 τ τ') : WDe σ' τ' s := by
  unfold WDe at h ⊢
  rw [a.1 15 (by omega), a.1 16 (by omega), a.1 17 (by omega), b.1 9 (by omega), b.1 10 (by omega), b.1 11 (by omega)]; exact h
theorem SDe.fr {σ τ σ' τ' : HS} {k m : Nat} (h : SDe σ τ k m) (a : Fr19 σ σ') (b : Fr11 τ τ') : SDe σ' τ' k m := by
  obtain ⟨h1, h2, h3, h4, h5⟩ := h
  refine ⟨h1, by rw [a.1 13 (by omega), b.1 7 (by omega)]; exact h2, by rw [a.1 14 (by omega)]; exact h3, by rw [b.1 8 (by omega)]; exact h4, fun q hq => (h5 q hq).fr a b⟩
/-- what reading may change -/
def FrR (σ σ' : HS) : Prop := (∀ b, (b < 12 ∨ 18 ≤ b) → b ≠ 19 → σ'.1 b = σ.1 b) ∧ σ'.2 = σ.2
def FrQ (τ τ' : HS) : Prop := (∀ b, (1 ≤ b ∧ b < 7) ∨ 12 ≤ b → τ'.1 b = τ.1 b) ∧ ∀ y, (y < 11 ∨ 15 ≤ y) → τ'.1 0 y = τ.1 0 y
theorem FrR.tr {a b c : HS} (h : FrR a b) (h2 : FrR b c) : FrR a c := ⟨fun x hx h9 => (h2.1 x hx h9).trans (h.1 x hx h9), h2.2.trans h.2⟩
theorem FrQ.tr {a b c : HS} (h : FrQ a b) (h2 : FrQ b c) : FrQ a c := ⟨fun x hx => (h2.1 x hx).trans (h.1 x hx), fun y hy => (h2.2 y hy).trans (h.2 y hy)⟩
theorem Fr19.r {a b : HS} (h : Fr19 a b) : FrR a b := ⟨fun x _ h9 => h.1 x h9, h.2⟩
theorem Fr11.q {a b : HS} (h : Fr11 a b) : FrQ a b := ⟨fun x hx => h.1 x (by omega), fun y hy => h.2 y (by omega)⟩
theorem Cs.fr {σ σ' : HS} {k i n p : Nat} {v : Nat → Int32} (h : Cs σ k i n v p) (e4 : σ'.1 4 = σ.1 4) (e19 : σ'.1 19 = σ.1 19) : Cs σ' k i n v p := by
  unfold Cs at h ⊢; rw [e4, e19]; exact h
theorem Ms.fr {τ τ' : HS} {k i n p : Nat} {v : Nat → Int32} (h : Ms τ k i n v p) (e0 : τ'.1 0 11 = τ.1 0 11) (e : τ'.1 23 = τ.1 23) : Ms τ' k i n v p := by
  unfold Ms at h ⊢; rw [e0, e]; exact h
/-- a word, behind its w: what both do with it -/
theorem word_j {σ τ : HS} {k i n p c m : Nat} {v : Nat → Int32} (h : Cs σ k i n v p) (ms : Ms τ k i n v p) (hk : k < 4) (hi : i + n ≤ 100) (hc : c < 5) (h12 : σ.1 12 0 = nI (c + 1)) (h14 : τ.1 0 14 = nI c) (sd : SDe σ τ c m) (hm : m < 3) : (∃ (p' : Nat) (σ' τ' : HS), p < n ∧ v p = 119 ∧ (bd (f6_readSign 119 σ) fun r1 => if r1.1 = 0 then some ((0 : Int32), r1.2) else bd (f6_readWord r1.2) fun r3 => if r3.1 = 0 then some (0, r3.2) else some (1, r3.2)) = some (1, σ') ∧ f9_readsWord (nI (100 * k + i)) (nI n) τ = some (1, τ') ∧ FrR σ σ' ∧ FrQ τ τ' ∧ Cs σ' k i n v p' ∧ Ms τ' k i n v p' ∧ σ'.1 12 = σ.1 12 ∧ τ'.1 0 12 = τ.1 0 12 ∧ τ'.1 0 13 = τ.1 0 13 ∧ τ'.1 0 14 = τ.1 0 14 ∧ SDe σ' τ' c (m + 1) ∧ ∀ k2 m2, k2 ≠ c → SDe σ τ k2 m2 → SDe σ' τ' k2 m2) ∨ (∃ (f : Nat) (σ' τ' : HS), (bd (f6_readSign 119 σ) fun r1 => if r1.1 = 0 then some ((0 : Int32), r1.2) else bd (f6_readWord r1.2) fun r3 => if r3.1 = 0 then some (0, r3.2) else some (1, r3.2)) = some (0, σ') ∧ f9_readsWord (nI (100 * k + i)) (nI n) τ = some (0, τ') ∧ FrR σ σ' ∧ FrQ τ τ' ∧ Fail σ' τ' f) := by
  obtain ⟨s1, s2, s3, s4, s5⟩ := id sd
  have e3c : (3 : Int32) * nI c + nI m = nI (3 * c + m) := by show nI 3 * nI c + nI m = _; rw [pk_mul, nI_add]
  -- the model's tail: what is wanting is -9
  have tail110 : ∀ (τ1 : HS) (z : Int32), τ1.1 8 c = nI m → f9_readsWord_110 (nI c) (nI (3 * c + m)) z (nI (3 * c + m)) τ1 = some (if z < 0 then 0 else 1, uI (uI τ1 11 (3 * c + m) z) 8 c (nI (m + 1))) := by
    intro τ1 z h8
    unfold f9_readsWord_110
    rw [ix_in (by omega) (by omega), ix_in (by omega) (by omega), ix_in (by omega) (by omega), ix_in (by omega) (by omega), nI_clamp (by omega), nI_clamp (by omega)]
    rw [show (uI τ1 11 (3 * c + m) z).1 8 c = nI m by rw [uI_other (by omega)]; exact h8, nI_1]
    rw [show (uI (uI τ1 11 (3 * c + m) z) 8 c (nI (m + 1))).1 11 (3 * c + m) = z by rw [uI_other (by omega), uI_at, if_pos ⟨rfl, rfl⟩]]
    by_cases cz : z < 0
    · rw [if_pos cz, if_pos cz]
    · rw [if_neg cz, if_neg cz]
  have z82 : ∀ (τ1 : HS), τ1.1 8 c = nI m → f9_readsWord_82 (nI (100 * k + i)) (nI n) (nI c) (nI (3 * c + m)) (-9) (nI (3 * c + m)) τ1 = some (0, uI (uI (uI τ1 10 (3 * c + m) (-9)) 11 (3 * c + m) (-9)) 8 c (nI (m + 1))) := by
    intro τ1 h8
    unfold f9_readsWord_82
    rw [ix_in (by omega) (by omega), ix_in (by omega) (by omega), nI_clamp (by omega), show (uI τ1 10 (3 * c + m) (-9)).1 10 (3 * c + m) = -9 by rw [uI_at, if_pos ⟨rfl, rfl⟩], if_neg m9nle, tail110 _ _ (by rw [uI_other (by omega)]; exact h8), if_pos m9lt]
  unfold f9_readsWord
  rw [h14, ix_in (by omega) (by omega), nI_clamp (by omega), s4, if_neg (show ¬ nI m = (3 : Int32) from fun z => by have := (nIc (c := 3) (by omega) (by omega)).mp z; omega)]
  rcases sign_j h ms hk hi 119 with ⟨a1, a2, a3, a4, a5, a6⟩ | ⟨a1, a3, a4, a5⟩
  · have fA := fr19 σ 4 (nI (p + 1))
    have fB := fr11 τ (nI (p + 1))
    generalize uI σ 19 4 (nI (p + 1)) = σ1 at *
    generalize uI τ 0 11 (nI (p + 1)) = τ1 at *
    rw [a3, bd_s, if_neg n10, a4, bd_s, if_neg n10, ixc (by omega) (by omega)]
    have t8 : τ1.1 8 c = nI m := by rw [fB.1 8 (by omega)]; exact s4
    dsimp only
    rw [t8, e3c]
    unfold f6_readWord
    rcases number_j (M := 60) a5 a6 hk hi (by omega) (by omega) with ⟨x, σ2, τ2, x1, x2, b1, b2, b3, b4, b5, b6⟩ | ⟨f, σ2, τ2, b1, b2, b3, b4, b5⟩
    · have b1 : f6_readNumber 60 σ1 = some (nI x, σ2) := b1
      have b2 : f9_two (nI (100 * k + i)) (nI n) 60 τ1 = some (nI x, τ2) := b2
      rw [b1, bd_s, if_pos (nI_pos' (by omega)), b2, bd_s, ix_in (by omega) (by omega), ix_in (by omega) (by omega), nI_clamp (by omega)]
      dsimp only
      rw [show (uI τ2 9 (3 * c + m) (nI x)).1 9 (3 * c + m) = nI x by rw [uI_at, if_pos ⟨rfl, rfl⟩], if_pos (nI_pos' (by omega))]
      have b6' : Ms (uI τ2 9 (3 * c + m) (nI x)) k i n v (p + 1 + 2) := b6.fr (by rw [uI_other (by omega)]) (uI_other (by omega) _ _)
      have t8b : (uI τ2 9 (3 * c + m) (nI x)).1 8 c = nI m := by rw [uI_other (by omega), b4.1 8 (by omega)]; exact t8
      have q1 : FrQ τ (uI τ2 9 (3 * c + m) (nI x)) := (fB.tr b4).q.tr ⟨fun b hb => uI_other (by omega) _ _, fun y _ => by rw [uI_other (by omega)]⟩
      rcases digit_j b5 b6' hk hi with ⟨d1, σ3, τ3, d1l, c1, c2, c3, c4, c5, c6⟩ | ⟨σ3, τ3, c1, c2, c3, c4, c5⟩
      · rw [c1, bd_s, if_pos (nI_pos' (by omega)), c2, bd_s]
        unfold f9_readsWord_82
        rw [ix_in (by omega) (by omega), ix_in (by omega) (by omega), nI_clamp (by omega), show (uI τ3 10 (3 * c + m) (nI d1)).1 10 (3 * c + m) = nI d1 by rw [uI_at, if_pos ⟨rfl, rfl⟩], if_pos (nI_pos' (by omega))]
        have c6' : Ms (uI τ3 10 (3 * c + m) (nI d1)) k i n v (p + 1 + 2 + 1) := c6.fr (by rw [uI_other (by omega)]) (uI_other (by omega) _ _)
        have t8c : (uI τ3 10 (3 * c + m) (nI d1)).1 8 c = nI m := by rw [uI_other (by omega), c4.1 8 (by omega)]; exact t8b
        have q2 : FrQ τ (uI τ3 10 (3 * c + m) (nI d1)) := (q1.tr c4.q).tr ⟨fun b hb => uI_other (by omega) _ _, fun y _ => by rw [uI_other (by omega)]⟩
        have f12 : ∀ σ4 : HS, Fr19 σ3 σ4 → ∀ x y z : Int32, ∃ σ5, f4_addWord 12 x y z σ4 = some σ5 ∧ σ5 = uI (uI (uI (uI σ4 15 (3 * c + m) x) 16 (3 * c + m) y) 17 (3 * c + m) z) 14 c (nI (m + 1)) := by
          intro σ4 f4 x y z
          have fall := ((fA.tr b3).tr c3).tr f4
          unfold f4_addWord f4_wordsOf
          rw [fall.1 12 (by omega), h12, show nI (c + 1) - 1 = nI c from nI_pred c, at_in (by omega) (by omega), bd_s, bd_s]
          dsimp only
          rw [show σ4.1 (12 + 2) c = nI m by rw [fall.1 14 (by omega)]; exact s3, if_neg (nI_pos (by omega)), if_neg (show ¬ (3 : Int32) ≤ nI m from nI_ge (b := 3) (by omega) (by omega)), pow3, bd_s, set_in (by omega) (by omega), bd_s, set_in (by omega) (by omega), bd_s, set_in (by omega) (by omega), bd_s, nI_1, set_in (by omega) (by omega), bd_s]
          exact ⟨_, rfl, rfl⟩
        rcases digit_j c5 c6' hk hi with ⟨d2, σ4, τ4, d2l, g1, g2, g3, g4, g5, g6⟩ | ⟨σ4, τ4, g1, g2, g3, g4, g5⟩
        · obtain ⟨σ5, k1, k2⟩ := f12 σ4 g3 (nI x) (nI d1) (nI d2)
          have t8d : τ4.1 8 c = nI m := by rw [g4.1 8 (by omega)]; exact t8c
          rw [g1, bd_s, k1, bd_s, if_neg (nI_pos (by omega)), bd_s, if_neg n10, g2, bd_s, tail110 _ _ t8d, if_neg (nI_pos (by omega))]
          left
          have fall := ((fA.tr b3).tr c3).tr g3
          have frr : FrR σ σ5 := fall.r.tr (by rw [k2]; exact ⟨fun b hb h9 => by rw [uI_other (by omega), uI_other (by omega), uI_other (by omega), uI_other (by omega)], rfl⟩)
          have q3 : FrQ τ4 (uI (uI τ4 11 (3 * c + m) (nI d2)) 8 c (nI (m + 1))) := ⟨fun b hb => by rw [uI_other (by omega), uI_other (by omega)], fun y _ => by rw [uI_other (by omega), uI_other (by omega)]⟩
          have a12 : ∀ y, y ≠ 11 → (uI (uI τ4 11 (3 * c + m) (nI d2)) 8 c (nI (m + 1))).1 0 y = τ.1 0 y := fun y hy => by
            rw [uI_other (by omega), uI_other (by omega), g4.2 y hy, uI_other (by omega), c4.2 y hy, uI_other (by omega), b4.2 y hy, fB.2 y hy]
          have w9 : ∀ s, s ≠ 3 * c + m → (uI (uI τ4 11 (3 * c + m) (nI d2)) 8 c (nI (m + 1))).1 9 s = τ.1 9 s ∧ (uI (uI τ4 11 (3 * c + m) (nI d2)) 8 c (nI (m + 1))).1 10 s = τ.1 10 s ∧ (uI (uI τ4 11 (3 * c + m) (nI d2)) 8 c (nI (m + 1))).1 11 s = τ.1 11 s := fun s hs => by
            refine ⟨?_, ?_, ?_⟩
            · rw [uI_other (by omega), uI_other (by omega), g4.1 9 (by omega), uI_other (by omega), c4.1 9 (by omega), uI_at, if_neg (fun z => hs z.2), b4.1 9 (by omega), fB.1 9 (by omega)]
            · rw [uI_other (by omega), uI_other (by omega), g4.1 10 (by omega), uI_at, if_neg (fun z => hs z.2), c4.1 10 (by omega), uI_other (by omega), b4.1 10 (by omega), fB.1 10 (by omega)]
            · rw [uI_other (by omega), uI_at, if_neg (fun z => hs z.2), g4.1 11 (by omega), uI_other (by omega), c4.1 11 (by omega), uI_other (by omega), b4.1 11 (by omega), fB.1 11 (by omega)]
          have v15 : ∀ s, s ≠ 3 * c + m → σ5.1 15 s = σ.1 15 s ∧ σ5.1 16 s = σ.1 16 s ∧ σ5.1 17 s = σ.1 17 s := fun s hs => by
            rw [k2]; simp [uI_at, hs, fall.1 15 (by omega), fall.1 16 (by omega), fall.1 17 (by omega)]
          have keep : ∀ s, s ≠ 3 * c + m → WDe σ τ s → WDe σ5 (uI (uI τ4 11 (3 * c + m) (nI d2)) 8 c (nI (m + 1))) s := fun s hs hw => by
            unfold WDe at hw ⊢
            rw [(v15 s hs).1, (v15 s hs).2.1, (v15 s hs).2.2, (w9 s hs).1, (w9 s hs).2.1, (w9 s hs).2.2]; exact hw
          have e13 : σ5.1 13 = σ.1 13 := by rw [k2, uI_other (by omega), uI_other (by omega), uI_other (by omega), uI_other (by omega), fall.1 13 (by omega)]
          have e7 : (uI (uI τ4 11 (3 * c + m) (nI d2)) 8 c (nI (m + 1))).1 7 = τ.1 7 := by rw [uI_other (by omega), uI_other (by omega), g4.1 7 (by omega), uI_other (by omega), c4.1 7 (by omega), uI_other (by omega), b4.1 7 (by omega), fB.1 7 (by omega)]
          have e8 : ∀ y, y ≠ c → (uI (uI τ4 11 (3 * c + m) (nI d2)) 8 c (nI (m + 1))).1 8 y = τ.1 8 y := fun y hy => by rw [uI_at, if_neg (fun z => hy z.2), uI_other (by omega), g4.1 8 (by omega), uI_other (by omega), c4.1 8 (by omega), uI_other (by omega), b4.1 8 (by omega), fB.1 8 (by omega)]
          have e14 : ∀ y, y ≠ c → σ5.1 14 y = σ.1 14 y := fun y hy => by rw [k2, uI_at, if_neg (fun z => hy z.2), uI_other (by omega), uI_other (by omega), uI_other (by omega), fall.1 14 (by omega)]
          refine ⟨p + 1 + 2 + 1 + 1, σ5, _, a1, a2, rfl, rfl, frr, (q2.tr g4.q).tr q3, ?_, ?_, ?_, a12 12 (by omega), a12 13 (by omega), (a12 14 (by omega)).trans h14, ⟨by omega, ?_, ?_, ?_, fun q hq => ?_⟩, fun k2' m2 hne hS => ?_⟩
          · rw [k2]; exact g5.fr (by rw [uI_other (by omega), uI_other (by omega), uI_other (by omega), uI_other (by omega)]) (by rw [uI_other (by omega), uI_other (by omega), uI_other (by omega), uI_other (by omega)])
          · exact g6.fr (by rw [uI_other (by omega), uI_other (by omega)]) (by rw [uI_other (by omega), uI_other (by omega)])
          · rw [k2, uI_other (by omega), uI_other (by omega), uI_other (by omega), uI_other (by omega), fall.1 12 (by omega)]
          · rw [e13, e7]; exact s2
          · rw [k2, uI_at, if_pos ⟨rfl, rfl⟩]
          · rw [uI_at, if_pos ⟨rfl, rfl⟩]
          · by_cases cq : q = m
            · subst cq
              refine ⟨x, d1, d2, ?_, ?_, ?_, ?_, ?_, ?_, x1, x2, by omega, by omega⟩
              · rw [k2]; simp [uI_at]
              · rw [k2]; simp [uI_at]
              · rw [k2]; simp [uI_at]
              · rw [uI_other (by omega), uI_other (by omega), g4.1 9 (by omega), uI_other (by omega), c4.1 9 (by omega), uI_at, if_pos ⟨rfl, rfl⟩]
              · rw [uI_other (by omega), uI_other (by omega), g4.1 10 (by omega), uI_at, if_pos ⟨rfl, rfl⟩]
              · rw [uI_other (by omega), uI_at, if_pos ⟨rfl, rfl⟩]
            · exact keep _ (by omega) (s5 q (by omega))
          · obtain ⟨r1, r2, r3, r4, r5⟩ := hS
            exact ⟨r1, by rw [e13, e7]; exact r2, by rw [e14 k2' hne]; exact r3, by rw [e8 k2' hne]; exact r4, fun q hq => keep _ (by omega) (r5 q hq)⟩
        · obtain ⟨σ5, k1, k2⟩ := f12 σ4 g3 (nI x) (nI d1) (-1)
          have t8d : τ4.1 8 c = nI m := by rw [g4.1 8 (by omega)]; exact t8c
          rw [g1, bd_s, k1, bd_s, if_pos m1lt0, bd_s, if_pos rfl, g2, bd_s, tail110 _ _ t8d, if_pos m9lt]
          right
          have fall := ((fA.tr b3).tr c3).tr g3
          refine ⟨_, σ5, _, rfl, rfl, fall.r.tr (by rw [k2]; exact ⟨fun b hb h9 => by rw [uI_other (by omega), uI_other (by omega), uI_other (by omega), uI_other (by omega)], rfl⟩), (q2.tr g4.q).tr ⟨fun b hb => by rw [uI_other (by omega), uI_other (by omega)], fun y _ => by rw [uI_other (by omega), uI_other (by omega)]⟩, ?_, ?_, g5.2.2⟩
          · rw [k2, uI_other (by omega), uI_other (by omega), uI_other (by omega), uI_other (by omega)]; exact g5.1
          · rw [uI_other (by omega), uI_other (by omega)]; exact g5.2.1
      · rw [c1, bd_s, if_neg (show ¬ (0 : Int32) ≤ -1 by decide), bd_s, if_pos rfl, c2, bd_s, z82 _ (by rw [c4.1 8 (by omega)]; exact t8b)]
        right
        refine ⟨_, σ3, _, rfl, rfl, ((fA.tr b3).tr c3).r, (q1.tr c4.q).tr ⟨fun b hb => by rw [uI_other (by omega), uI_other (by omega), uI_other (by omega)], fun y _ => by rw [uI_other (by omega), uI_other (by omega), uI_other (by omega)]⟩, c5.1, ?_, c5.2.2⟩
        rw [uI_other (by omega), uI_other (by omega), uI_other (by omega)]; exact c5.2.1
    · have b1 : f6_readNumber 60 σ1 = some (-1, σ2) := b1
      have b2 : f9_two (nI (100 * k + i)) (nI n) 60 τ1 = some (-9, τ2) := b2
      rw [b1, bd_s, if_neg (show ¬ (0 : Int32) ≤ -1 by decide), bd_s, if_pos rfl, b2, bd_s, ix_in (by omega) (by omega), ix_in (by omega) (by omega), nI_clamp (by omega)]
      dsimp only
      rw [show (uI τ2 9 (3 * c + m) (-9)).1 9 (3 * c + m) = -9 by rw [uI_at, if_pos ⟨rfl, rfl⟩], if_neg m9nle, z82 _ (by rw [uI_other (by omega), b4.1 8 (by omega)]; exact t8)]
      right
      refine ⟨f, σ2, _, rfl, rfl, (fA.tr b3).r, (fB.tr b4).q.tr ⟨fun b hb => by rw [uI_other (by omega), uI_other (by omega), uI_other (by omega), uI_other (by omega)], fun y _ => by rw [uI_other (by omega), uI_other (by omega), uI_other (by omega), uI_other (by omega)]⟩, b5.1, ?_, b5.2.2⟩
      rw [uI_other (by omega), uI_other (by omega), uI_other (by omega), uI_other (by omega)]; exact b5.2.1
  · right
    rw [a3, bd_s, if_pos rfl, a4, bd_s, if_pos rfl]
    exact ⟨p, _, _, rfl, rfl, (fr19 _ _ _).r, (fr11 _ _).q, a5⟩
