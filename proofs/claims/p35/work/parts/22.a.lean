/-! small readings of the council, on both sides -/
theorem n10 : ¬ (1 : Int32) = 0 := by decide
theorem sub64 (a b : Int64) (h1 : -9223372036854775808 ≤ a.toInt - b.toInt) (h2 : a.toInt - b.toInt < 9223372036854775808) : (a - b).toInt = a.toInt - b.toInt := by
  rw [Int64.toInt_sub]; exact Int.bmod_eq_of_le (by omega) (by omega)
theorem add64 (a b : Int64) (h1 : -9223372036854775808 ≤ a.toInt + b.toInt) (h2 : a.toInt + b.toInt < 9223372036854775808) : (a + b).toInt = a.toInt + b.toInt := by
  rw [Int64.toInt_add]; exact Int.bmod_eq_of_le (by omega) (by omega)
theorem sub32 (a b : Int32) (h1 : -2147483648 ≤ a.toInt - b.toInt) (h2 : a.toInt - b.toInt < 2147483648) : (a - b).toInt = a.toInt - b.toInt := by
  rw [Int32.toInt_sub]; exact Int.bmod_eq_of_le (by omega) (by omega)
theorem add32 (a b : Int32) (h1 : -2147483648 ≤ a.toInt + b.toInt) (h2 : a.toInt + b.toInt < 2147483648) : (a + b).toInt = a.toInt + b.toInt := by
  rw [Int32.toInt_add]; exact Int.bmod_eq_of_le (by omega) (by omega)
theorem w64 (x : Int32) : x.toInt64.toInt = x.toInt := Int32.toInt_toInt64 x
theorem in_y {x l h : Int64} {σ : HS} (h1 : l.toInt ≤ x.toInt) (h2 : x.toInt ≤ h.toInt) : f9_in x l h σ = some (1, σ) := by
  unfold f9_in
  rw [if_neg (by rw [Int64.lt_iff_toInt_lt]; omega), if_neg (by rw [Int64.lt_iff_toInt_lt]; omega)]
theorem in_n {x l h : Int64} {σ : HS} (h1 : x.toInt < l.toInt ∨ h.toInt < x.toInt) : f9_in x l h σ = some (0, σ) := by
  unfold f9_in f9_in_17
  by_cases c : x < l
  · rw [if_pos c]
  · rw [if_neg c, if_pos (by rw [Int64.lt_iff_toInt_lt] at *; omega)]
theorem nsp_y {n k : Nat} {τ : HS} (h : τ.1 0 1 = nI n) (hn : n ≤ 5) (hk : k < n) : f9_noSpeaker (nI k) τ = some (0, τ) := by
  unfold f9_noSpeaker
  rw [h, in_y (by rw [w64, nI_toInt (by omega)]; show (0 : Int) ≤ _; omega) (by rw [w64, nI_toInt (by omega), sub64 _ _ (by rw [w64, nI_toInt (by omega)]; show _ ≤ (_ : Int) - 1; omega) (by rw [w64, nI_toInt (by omega)]; show (_ : Int) - 1 < _; omega), w64, nI_toInt (by omega)]; show _ ≤ (_ : Int) - 1; omega), bd_s]
  rfl
theorem nsp_n {n : Nat} {x : Int32} {τ : HS} (h : τ.1 0 1 = nI n) (hn : n ≤ 5) (hk : x.toInt < 0 ∨ (n : Int) ≤ x.toInt) : f9_noSpeaker x τ = some (1, τ) := by
  unfold f9_noSpeaker
  rw [h, in_n (by rw [w64, sub64 _ _ (by rw [w64, nI_toInt (by omega)]; show _ ≤ (_ : Int) - 1; omega) (by rw [w64, nI_toInt (by omega)]; show (_ : Int) - 1 < _; omega), w64, nI_toInt (by omega)]; show _ < (0 : Int) ∨ (_ : Int) - 1 < _; omega), bd_s]
  rfl
theorem has_y {n k : Nat} {σ : HS} (h : σ.1 5 0 = nI n) (hn : n ≤ 5) (hk : k < n) : f4_has (nI k) σ = some (1, σ) := by
  unfold f4_has
  rw [h, if_neg (nI_pos (by omega)), if_neg (nI_ge hk (by omega))]
theorem has_n {n : Nat} {x : Int32} {σ : HS} (h : σ.1 5 0 = nI n) (hn : n ≤ 5) (hk : x.toInt < 0 ∨ (n : Int) ≤ x.toInt) : f4_has x σ = some (0, σ) := by
  unfold f4_has f4_has_16
  rw [h]
  by_cases c : x < 0
  · rw [if_pos c]
  · rw [if_neg c, if_pos]
    rw [Int32.lt_iff_toInt_lt] at c
    have : (0 : Int32).toInt = 0 := rfl
    rw [Int32.le_iff_toInt_le, nI_toInt (by omega)]; omega
theorem i64_sub1 (n : Nat) (h : n ≤ 1000) : ((nI n).toInt64 - 1).toInt = (n : Int) - 1 := by
  rw [sub64 _ _ (by rw [w64, nI_toInt (by omega)]; show _ ≤ (_ : Int) - 1; omega) (by rw [w64, nI_toInt (by omega)]; show (_ : Int) - 1 < _; omega), w64, nI_toInt (by omega)]; rfl
theorem wordsOf_5 {σ : HS} {P : PP} (h : RepP σ P) (w : WfP P) {k : Nat} (hk : k < pn P) : f4_wordsOf 5 (nI k) σ = some (nI (pw P k), σ) := by
  have h5 := w.1
  unfold f4_wordsOf
  rw [at_in (by omega) (by omega), bd_s]
  show some (σ.1 7 k, σ) = _
  rw [(h.2.2 k hk).2.1]
theorem kindOf_5 {σ : HS} {P : PP} (h : RepP σ P) (w : WfP P) {k : Nat} (hk : k < pn P) : f4_kindOf 5 (nI k) σ = some (nI (pk P k), σ) := by
  have h5 := w.1
  unfold f4_kindOf
  rw [at_in (by omega) (by omega), bd_s]
  show some (σ.1 6 k, σ) = _
  rw [(h.2.2 k hk).1]
theorem pow3 (k q : Nat) (σ : HS) : f4_placeOfWord (nI k) (nI q) σ = some (nI (3 * k + q), σ) := by
  unfold f4_placeOfWord
  have : nI k * 3 + nI q = nI (3 * k + q) := by
    show nI k * nI 3 + nI q = _
    rw [pk_mul, nI_add, Nat.mul_comm]
  rw [this]
theorem lengthOf_5 {σ : HS} {P : PP} (h : RepP σ P) (w : WfP P) {k q : Nat} (hk : k < pn P) (hq : q < pw P k) : f4_lengthOf 5 (nI k) (nI q) σ = some (nI (pl P (3 * k + q)), σ) := by
  have h5 := w.1
  have h3 := (w.2.2.2 k hk).2.2.1
  unfold f4_lengthOf
  rw [pow3, bd_s, at_in (by omega) (by omega), bd_s]
  show some (σ.1 8 _, σ) = _
  rw [((h.2.2 k hk).2.2 q hq).1]
theorem ownOf_5 {σ : HS} {P : PP} (h : RepP σ P) (w : WfP P) {k q : Nat} (hk : k < pn P) (hq : q < pw P k) : f4_ownOf 5 (nI k) (nI q) σ = some (nI (po P (3 * k + q)), σ) := by
  have h5 := w.1
  have h3 := (w.2.2.2 k hk).2.2.1
  unfold f4_ownOf
  rw [pow3, bd_s, at_in (by omega) (by omega), bd_s]
  show some (σ.1 9 _, σ) = _
  rw [((h.2.2 k hk).2.2 q hq).2.1]
theorem othersOf_5 {σ : HS} {P : PP} (h : RepP σ P) (w : WfP P) {k q : Nat} (hk : k < pn P) (hq : q < pw P k) : f4_othersOf 5 (nI k) (nI q) σ = some (nI (pt P (3 * k + q)), σ) := by
  have h5 := w.1
  have h3 := (w.2.2.2 k hk).2.2.1
  unfold f4_othersOf
  rw [pow3, bd_s, at_in (by omega) (by omega), bd_s]
  show some (σ.1 10 _, σ) = _
  rw [((h.2.2 k hk).2.2 q hq).2.2.1]
theorem gainBy_5 {σ : HS} {P : PP} (h : RepP σ P) (w : WfP P) {k q : Nat} (hk : k < pn P) (hq : q < pw P k) : f4_gainBy (nI k) (nI q) σ = some (lN (pkw (gn P k q) 5), σ) := by
  have h5 := w.1
  have h3 := (w.2.2.2 k hk).2.2.1
  unfold f4_gainBy
  rw [pow3, bd_s, lat_in (by omega) (by omega), bd_s]
  rw [((h.2.2 k hk).2.2 q hq).2.2.2]
theorem nIe {a b : Nat} (ha : a < 1000000) (hb : b < 1000000) : nI a = nI b ↔ a = b := nI_eq (by omega) (by omega)
theorem hasW_y {σ : HS} {P : PP} (h : RepP σ P) (w : WfP P) {k q : Nat} (hk : k < pn P) (hq : q < pw P k) : f4_hasWord (nI k) (nI q) σ = some (1, σ) := by
  have h5 := w.1
  have h3 := (w.2.2.2 k hk).2.2.1
  unfold f4_hasWord
  rw [has_y h.1 h5 hk, bd_s, if_neg n10, if_neg (nI_pos (by omega)), wordsOf_5 h w hk, bd_s, if_neg (nI_ge hq (by omega))]
theorem hasW_n {σ : HS} {P : PP} (h : RepP σ P) (w : WfP P) {x y : Int32} (hx : (x.toInt < 0 ∨ (pn P : Int) ≤ x.toInt) ∨ ∃ k, k < pn P ∧ x = nI k ∧ (y.toInt < 0 ∨ (pw P k : Int) ≤ y.toInt)) : f4_hasWord x y σ = some (0, σ) := by
  have h5 := w.1
  unfold f4_hasWord f4_hasWord_25
  rcases hx with hx | ⟨k, hk, rfl, hy⟩
  · rw [has_n h.1 h5 hx, bd_s, if_pos rfl]
  · have h3 := (w.2.2.2 k hk).2.2.1
    rw [has_y h.1 h5 hk, bd_s, if_neg n10]
    by_cases c : y < 0
    · rw [if_pos c]
    · rw [if_neg c, wordsOf_5 h w hk, bd_s, if_pos]
      rw [Int32.lt_iff_toInt_lt] at c
      have : (0 : Int32).toInt = 0 := rfl
      rw [Int32.le_iff_toInt_le, nI_toInt (by omega)]; omega
theorem nw_y {τ : HS} {P : PP} {C : CC} (h : RepM τ P C) (w : WfP P) {k q : Nat} (hk : k < pn P) (hq : q < pw P k) : f9_noWord (nI k) (nI q) τ = some (0, τ) := by
  have h5 := w.1
  have h3 := (w.2.2.2 k hk).2.2.1
  unfold f9_noWord
  rw [nsp_y h.1 h5 hk, bd_s, if_pos rfl, ix_in (by omega) (by omega), nI_clamp (by omega), (h.2.2.2.2.1 k hk).2.1, in_y (by rw [w64, nI_toInt (by omega)]; show (0 : Int) ≤ _; omega) (by rw [w64, nI_toInt (by omega), i64_sub1 _ (by omega)]; omega), bd_s, if_neg n10]
theorem nw_n {τ : HS} {P : PP} {C : CC} (h : RepM τ P C) (w : WfP P) {x y : Int32} (hx : (x.toInt < 0 ∨ (pn P : Int) ≤ x.toInt) ∨ ∃ k, k < pn P ∧ x = nI k ∧ (y.toInt < 0 ∨ (pw P k : Int) ≤ y.toInt)) : f9_noWord x y τ = some (1, τ) := by
  have h5 := w.1
  unfold f9_noWord f9_noWord_26
  rcases hx with hx | ⟨k, hk, rfl, hy⟩
  · rw [nsp_n h.1 h5 hx, bd_s, if_neg n10]
  · have h3 := (w.2.2.2 k hk).2.2.1
    rw [nsp_y h.1 h5 hk, bd_s, if_pos rfl, ix_in (by omega) (by omega), nI_clamp (by omega), (h.2.2.2.2.1 k hk).2.1, in_n (by rw [w64, i64_sub1 _ (by omega)]; show _ < (0 : Int) ∨ _; omega), bd_s, if_pos rfl]
theorem word_c (P : PP) (x y : Int32) (w : WfP P) : ((x.toInt < 0 ∨ (pn P : Int) ≤ x.toInt) ∨ ∃ k, k < pn P ∧ x = nI k ∧ (y.toInt < 0 ∨ (pw P k : Int) ≤ y.toInt)) ∨ ∃ k q, k < pn P ∧ q < pw P k ∧ x = nI k ∧ y = nI q := by
  have h5 := w.1
  rcases arg_c x (pn P) (by omega) with h | ⟨k, hk, rfl⟩
  · exact Or.inl (Or.inl h)
  · have h3 := (w.2.2.2 k hk).2.2.1
    rcases arg_c y (pw P k) (by omega) with h | ⟨q, hq, rfl⟩
    · exact Or.inl (Or.inr ⟨k, hk, rfl, h⟩)
    · exact Or.inr ⟨k, q, hk, hq, rfl, rfl⟩
theorem turns_g {σ : HS} {g : Nat} {P : PP} {C : CC} (h : RepP σ P) (hc : RepC σ g P C) (w : WfP P) (wc : WfC P C) : f0_turns g σ = some (nI (turnsN P C), σ) := by
  have h5 := w.1
  have := wc.1
  have := wc.2.2.1
  unfold f0_turns f0_turns_30 turnsN
  rw [hc.1, h.1]
  by_cases c : cw C = 3
  · rw [if_pos (by rw [c]; rfl), if_neg (nI_nle (by omega) (by omega)), if_pos c, nI_1]
  · rw [if_neg (fun e => c ((nIe (by omega) (by omega)).mp (e.trans rfl))), if_neg c]
theorem turns_m {τ : HS} {P : PP} {C : CC} (h : RepM τ P C) (w : WfP P) (wc : WfC P C) : f9_turnsNow τ = some (nI (turnsN P C), τ) := by
  have h5 := w.1
  have := wc.1
  have := wc.2.2.1
  unfold f9_turnsNow f9_turnsNow_28 turnsN
  rw [h.1, h.2.2.2.1]
  by_cases c0 : pn P = 0
  · rw [if_pos (by rw [c0]; rfl), if_neg (by omega), c0]; rfl
  · rw [if_neg (fun e => c0 ((nIe (by omega) (by omega)).mp (e.trans rfl)))]
    by_cases c : cw C = 3
    · rw [if_pos (by rw [c]; rfl), if_pos c, nI_1]
    · rw [if_neg (fun e => c ((nIe (by omega) (by omega)).mp (e.trans rfl))), if_neg c]
      show some (nI (pn P) + nI 0, τ) = _
      rw [nI_add]; rfl
