/-! the law's small methods, over rows that tell a council (P) and its course (C) -/
theorem ct0 : (0 : Int32).toNatClampNeg = 0 := rfl
theorem ct1 : (1 : Int32).toNatClampNeg = 1 := rfl
theorem ct2 : (2 : Int32).toNatClampNeg = 2 := rfl
theorem ct3 : (3 : Int32).toNatClampNeg = 3 := rfl
theorem ct5 : (5 : Int32).toNatClampNeg = 5 := rfl
theorem ct40 : (40 : Int32).toNatClampNeg = 40 := rfl
theorem le14 (p : Nat) : (14 : Int32) + nI p = nI (14 + p) := nI_add 14 p
theorem le9 (p : Nat) : (9 : Int32) + nI p = nI (9 + p) := nI_add 9 p
theorem le4 (p : Nat) : (4 : Int32) + nI p = nI (4 + p) := nI_add 4 p
theorem le3 (p : Nat) : (3 : Int32) + nI p = nI (3 + p) := nI_add 3 p
theorem le6 (p : Nat) : (6 : Int32) + nI p = nI (6 + p) := nI_add 6 p
theorem le8 (p : Nat) : (8 : Int32) + nI p = nI (8 + p) := nI_add 8 p
theorem le12 (p : Nat) : (12 : Int32) + nI p = nI (12 + p) := nI_add 12 p
theorem lr14 (p : Nat) : nI p + (14 : Int32) = nI (p + 14) := nI_add p 14
theorem lr2 (p : Nat) : nI p + (2 : Int32) = nI (p + 2) := nI_add p 2
theorem lm9 (p : Nat) : (9 : Int32) * nI p = nI (9 * p) := pk_mul 9 p
theorem lm3 (p : Nat) : (3 : Int32) * nI p = nI (3 * p) := pk_mul 3 p
theorem lm2 (p : Nat) : (2 : Int32) * nI p = nI (2 * p) := pk_mul 2 p
theorem lm6 (p : Nat) : (6 : Int32) * nI p = nI (6 * p) := pk_mul 6 p
theorem l93 (k q : Nat) : (9 : Int32) * nI k + (3 : Int32) * nI q = nI (9 * k + 3 * q) := by rw [lm9, lm3, nI_add]
/-- the law's two rows tell a council and its course -/
def LwA (a2 a3 : Nat → Int32) (P : PP) (C : CC) : Prop := 2 ≤ pn P ∧ pn P ≤ 4 ∧ a2 0 = nI (pn P) ∧ a2 1 = nI (pj P) ∧ a2 2 = nI (cl C) ∧ a2 3 = nI (cw C) ∧ (∀ k, k < pn P → a2 (9 + k) = nI (pw P k) ∧ ∀ q, q < pw P k → a3 (9 * k + 3 * q) = nI (pl P (3 * k + q)) ∧ a3 (9 * k + 3 * q + 1) = nI (po P (3 * k + q)) ∧ a3 (9 * k + 3 * q + 2) = nI (pt P (3 * k + q))) ∧ ∀ p, p < pn P → a2 (14 + p) = nI (co C p)
theorem cellL {sL : Nat} (hL : sL ≤ 260) (a0 : Nat → Int32) (k : Nat) (hk : k < 1000000) : ∃ v, g_cell sL a0 (nI k) = some v := by
  unfold g_cell
  by_cases c : sL ≤ k
  · rw [if_pos (nI_le c (by omega))]; exact ⟨_, rfl⟩
  · rw [if_neg (nI_ge (by omega) (by omega)), ix_in (by omega) (by omega)]; exact ⟨_, rfl⟩
theorem and31b (v : Int32) : ∃ m, m < 2147483648 ∧ v &&& 2147483647 = nI m := pk_andE v 31 rfl
theorem lowL (v : Int32) {n : Nat} (h0 : 0 < n) (hn : n < 1000) : ∃ m, m < n ∧ g_low v (nI n) = some (nI m) := by
  unfold g_low
  obtain ⟨m, h1, h2⟩ := and31b v
  rw [if_neg (nI_ne0 h0 (by omega)), h2, pk_rem (by omega) h0 (by omega)]
  exact ⟨m % n, Nat.mod_lt _ h0, rfl⟩
section LS
variable {a2 a3 : Nat → Int32} {P : PP} {C : CC}
theorem turnsL (h : LwA a2 a3 P C) (wc : WfC P C) : g_turns a2 = some (nI (turnsN P C)) := by
  obtain ⟨h2, h4, e0, e1, e2, e3, -, -⟩ := h
  have := wc.1
  unfold g_turns turnsN
  rw [ct3, ct0, e3, e0]
  by_cases c : cw C = 3
  · rw [if_pos (by rw [c]; rfl), if_pos c, nI_1]
  · rw [if_neg (fun e => c ((nIe (by omega) (by omega)).mp (e.trans rfl))), if_neg c]
theorem turnsB (h : LwA a2 a3 P C) : pn P ≤ turnsN P C ∧ turnsN P C ≤ pn P + 1 := by
  unfold turnsN; split <;> omega
theorem whoL (h : LwA a2 a3 P C) {t : Nat} (ht : t < turnsN P C) : g_who a2 (nI t) = some (nI (who P C t)) := by
  obtain ⟨b1, b2⟩ := turnsB h
  obtain ⟨h2, h4, e0, e1, e2, e3, -, ho⟩ := h
  unfold g_who g_who_15 who
  rw [ct0, e0]
  by_cases c : t = pn P
  · rw [if_pos (by rw [c]), show (14 : Int32) + 0 = nI 14 from rfl, ix_in (by omega) (by omega), nI_clamp (by omega), if_neg (by omega)]
    have := ho 0 (by omega)
    rw [this]
  · rw [if_neg (fun e => c ((nIc (by omega) (by omega)).mp e)), le14, ix_in (by omega) (by omega), nI_clamp (by omega), if_pos (by omega), ho t (by omega)]
theorem aheadL (h : LwA a2 a3 P C) (w : WfP P) (wc : WfC P C) {x L : Nat} (hx : x ≤ 99) (hL : L ≤ 9) : g_ahead a2 (nI x) (nI L) = some (nI (bh P (cw C, L, co C) x)) := by
  obtain ⟨h2, h4, e0, e1, e2, e3, -, -⟩ := h
  have h99 := w.2.1
  have h3 := wc.1
  unfold g_ahead g_ahead_35 bh
  rw [ct3, ct0, ct1, e3, e0, e1]
  show _ = some (nI (if cw C = 1 then pj P / pn P else if cw C = 2 then (x - L) / 2 else x - L))
  by_cases c1 : cw C = 1
  · rw [if_pos (by rw [c1]; rfl), if_neg (nI_ne0 (by omega) (by omega)), if_neg (nI_ne0 (by omega) (by omega)), if_pos c1, pk_rem (by omega) (by omega) (by omega), pk_sub (Nat.mod_le _ _), pk_div (by omega) (by omega) (by omega)]
    have : pj P - pj P % pn P = pn P * (pj P / pn P) := by have := Nat.div_add_mod (pj P) (pn P); omega
    rw [this, Nat.mul_div_cancel_left _ (by omega)]
  · rw [if_neg (fun e => c1 ((nIe (by omega) (by omega)).mp (e.trans rfl))), if_neg c1]
    have key : ∀ z : Nat, z ≤ 99 → (if nI (cw C) = (2 : Int32) then some (nI z / 2) else some (nI z)) = some (nI (if cw C = 2 then z / 2 else z)) := by
      intro z hz
      by_cases c2 : cw C = 2
      · rw [if_pos (by rw [c2]; rfl), if_pos c2, show nI z / (2 : Int32) = nI z / nI 2 from rfl, pk_div (by omega) (by omega) (by omega)]
      · rw [if_neg (fun e => c2 ((nIe (by omega) (by omega)).mp (e.trans rfl))), if_neg c2]
    by_cases cx : x ≤ L
    · rw [if_pos (nI_le cx (by omega))]
      have := key 0 (by omega)
      rw [show x - L = 0 by omega]
      exact this
    · rw [if_neg (nI_ge (by omega) (by omega)), pk_sub (by omega)]
      exact key (x - L) (by omega)
theorem startL (h : LwA a2 a3 P C) (w : WfP P) (wc : WfC P C) : g_start a2 = some (nI (fw P C)) := by
  have ha := aheadL h w wc (x := 0) (L := 0) (by omega) (by omega)
  obtain ⟨h2, h4, e0, e1, e2, e3, -, -⟩ := h
  have h3 := wc.1
  unfold g_start fw
  rw [ct3, ct1, e3, e1]
  by_cases c1 : cw C = 1
  · rw [if_pos (by rw [c1]; rfl), show (0 : Int32) = nI 0 from rfl, ha, bd_s, if_pos c1]
    unfold bh
    rw [if_pos c1]
  · rw [if_neg (fun e => c1 ((nIe (by omega) (by omega)).mp (e.trans rfl))), if_neg c1]
theorem bhC (P : PP) (C : CC) (x : Nat) : bh P (cw C, cl C, co C) x = bh P C x := rfl
/-- what is said in each turn by each water, two bits a turn -/
def pak (s : Nat → Nat) : Nat → Nat
  | 0 => 0
  | t + 1 => pak s t + dig (s t) * 4 ^ t
theorem pak_lt {s : Nat → Nat} : ∀ T, (∀ t, t < T → s t = 9 ∨ s t < 3) → pak s T < 4 ^ T := by
  intro T
  induction T with
  | zero => intro _; exact Nat.one_pos
  | succ T ih =>
    intro h
    have h1 := ih (fun t ht => h t (by omega))
    have h2 := dig_lt (h T (by omega))
    show pak s T + dig (s T) * 4 ^ T < 4 ^ (T + 1)
    rw [Nat.pow_succ]
    have : dig (s T) * 4 ^ T ≤ 3 * 4 ^ T := Nat.mul_le_mul_right _ (by omega)
    omega
theorem pak_get {s : Nat → Nat} : ∀ T t, t < T → (∀ t, t < T → s t = 9 ∨ s t < 3) → pak s T / 4 ^ t % 4 = dig (s t) := by
  intro T
  induction T with
  | zero => intro t ht; omega
  | succ T ih =>
    intro t ht h
    have h1 := pak_lt T (fun t ht => h t (by omega))
    have h2 := dig_lt (h T (by omega))
    show (pak s T + dig (s T) * 4 ^ T) / 4 ^ t % 4 = _
    by_cases c : t = T
    · subst c
      rw [Nat.add_mul_div_right _ _ (Nat.pow_pos (by omega)), Nat.div_eq_of_lt h1, Nat.zero_add, Nat.mod_eq_of_lt h2]
    · rw [← ih t (by omega) (fun t ht => h t (by omega))]
      have e : 4 ^ T = 4 ^ (T - t - 1) * 4 * 4 ^ t := by rw [Nat.mul_assoc, Nat.mul_comm 4, ← Nat.pow_succ, ← Nat.pow_add]; congr 1; omega
      rw [e, ← Nat.mul_assoc, ← Nat.mul_assoc, Nat.add_mul_div_right _ _ (Nat.pow_pos (by omega)), Nat.add_mul_mod_self_right]
/-- the two rows hold what is said -/
def LwS (a11 a12 : Nat → Int32) (P : PP) (s : Nat → Nat → Nat) (T : Nat) : Prop := ∀ x, x ≤ pj P → (if x < 64 then a11 x else a12 (x - 64)) = nI (pak (fun t => s t x) T)
theorem saidL {a11 a12 : Nat → Int32} {s : Nat → Nat → Nat} {T : Nat} (h : LwS a11 a12 P s T) (w : WfP P) (hT : T ≤ 6) (hs : ∀ t x, t < T → x ≤ pj P → s t x = 9 ∨ s t x < 3) {t x : Nat} (ht : t < T) (hx : x ≤ pj P) : g_said a11 a12 (nI t) (nI x) = some (cd (s t x)) := by
  have h99 := w.2.1
  have hv := h x hx
  have lt := pak_lt (s := fun t => s t x) T (fun t ht => hs t x ht hx)
  have gt := pak_get (s := fun t => s t x) T t ht (fun t ht => hs t x ht hx)
  have p4 := (pow4 T hT).2
  have e4 : (4 : Nat) ^ t = 2 ^ (2 * t) := by rw [Nat.pow_mul]
  have key : ∀ v : Int32, v = nI (pak (fun t => s t x) T) → g_said_18 a11 a12 (nI t) v = some (cd (s t x)) := by
    rintro v rfl
    unfold g_said_18
    have dv := Nat.div_le_self (pak (fun t => s t x) T) (2 ^ (2 * t))
    rw [lm2, shr1 (by omega) (by omega), pk_andN (by omega) 2 (m := 3) (by decide), ← e4, show (2 : Nat) ^ 2 = 4 from rfl, gt]
    rcases hs t x ht hx with z | z
    · rw [z]; rfl
    · have : dig (s t x) = s t x := if_neg (by omega)
      rw [this, if_neg (fun e => by have := (nIc (c := 3) (by omega) (by omega)).mp e; omega), cd_z (by omega)]
  unfold g_said
  by_cases c : x < 64
  · rw [if_pos c] at hv
    rw [if_neg (show ¬ (64 : Int32) ≤ nI x from nI_ge (b := 64) (by omega) (by omega)), ix_in (by omega) (by omega), nI_clamp (by omega)]
    exact key _ hv
  · rw [if_neg c] at hv
    rw [if_pos (show (64 : Int32) ≤ nI x from nI_le (a := 64) (by omega) (by omega)), show nI x - (64 : Int32) = nI (x - 64) from pk_sub (b := 64) (by omega), ix_in (by omega) (by omega), nI_clamp (by omega)]
    exact key _ hv
/-- a loop whose answer is known -/
theorem wl_to {P ρ : Type} {body : (P → Option ρ) → P → Option ρ} (I : P → Prop) (μ : P → Nat) (v : Option ρ) (p : P) (hI : I p) (hm : μ p < 1000000) (hb : ∀ k p, I p → (∀ p', I p' → μ p' < μ p → k p' = v) → body k p = v) : wloop body fuelN p = v := by
  have key : ∀ n p, I p → μ p < n → wloop body n p = v := by
    intro n
    induction n with
    | zero => intro p _ h; omega
    | succ n ih =>
      intro p hI hm
      exact hb (wloop body n) p hI (fun p' h1 h2 => ih p' h1 (by omega))
  exact key fuelN p hI (Nat.lt_of_lt_of_le hm fuelN_ge)
def sumN (V : Nat → Nat) : Nat → Nat
  | 0 => 0
  | n + 1 => sumN V n + V n
theorem allL {a : Nat → Int32} {V : Nat → Nat} {n : Nat} (hn : n ≤ 5) (h : ∀ j, j < n → a j = nI (V j)) : g_all a (nI n) = some (nI (sumN V n)) := by
  unfold g_all g_all_4
  refine wl_to (fun p => ∃ k, k ≤ n ∧ p = (nI (sumN V k), nI k)) (fun p => 10 - p.2.toNatClampNeg) _ _ ⟨0, by omega, rfl⟩ (by show 10 - _ < _; omega) ?_
  rintro k4 _ ⟨k, hk, rfl⟩ ih
  dsimp only
  unfold g_all_4_b
  by_cases c : n ≤ k
  · have : k = n := by omega
    subst this
    rw [if_pos (nI_le c (by omega))]
  · rw [if_neg (nI_ge (by omega) (by omega)), ix_in (by omega) (by omega), nI_clamp (by omega), h k (by omega), nI_add, nI_1]
    refine ih _ ⟨k + 1, by omega, rfl⟩ ?_
    show 10 - (nI (k + 1)).toNatClampNeg < 10 - (nI k).toNatClampNeg
    rw [nI_clamp (by omega), nI_clamp (by omega)]; omega
end LS
