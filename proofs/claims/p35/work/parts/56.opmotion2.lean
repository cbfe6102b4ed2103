theorem InvB.fz {j : Nat} {σ τ τ' : HS} {P : PP} {C : CC} (h : InvB j σ τ P C) (f : FZ τ τ' P C) : InvB j σ τ' P C := by
  obtain ⟨a1, a2, a3, a4, a5, a6, a7, a8, a9, b1, b2, b3, b4⟩ := h
  exact ⟨a1, a2, a3, a4, f.1, a6.congr ⟨rfl, rfl, rfl⟩ ⟨f.2.1 21 (by omega) (by omega), f.2.1 22 (by omega) (by omega), f.2.1 23 (by omega) (by omega)⟩, a7.congr ⟨rfl, rfl, rfl⟩ ⟨f.2.2 29 (by omega) (by omega), f.2.1 19 (by omega) (by omega), f.2.1 20 (by omega) (by omega)⟩, a8, a9, b1, b2, by rw [f.2.2 36 (by omega) (by omega)]; exact b3, by rw [f.2.2 0 (by omega) (by omega)]; exact b4⟩
theorem op_motion (j : Nat) (σ τ : HS) (a1 a2 a3 : Int32) (hI : Inv j σ τ) (hj : j < 512) : ∃ (r : Int32) (σ1 τ1 : HS), f8_motion a1 a2 a3 σ = some (r, σ1) ∧ f9_motion a1 a2 a3 τ = some (r, τ1) ∧ Inv (j + 1) σ1 τ1 := by
  obtain ⟨P, C, hB⟩ := hI
  obtain ⟨w, wc, rp, rc, rm, -⟩ := id hB
  have h5 := w.1
  unfold f8_motion f9_motion
  rcases word_c P a1 a2 w with hx | ⟨k, q, hk, hq, rfl, rfl⟩
  · rw [hasW_n rp w hx, bd_s, if_pos rfl, nw_n rm w hx, bd_s, if_neg n10]
    exact ⟨_, _, _, rfl, rfl, P, C, hB.mono⟩
  · have h3 := (w.2.2.2 k hk).2.2.1
    have h2 : 2 ≤ pn P := by rcases w.2.2.1 with z | z <;> omega
    rw [hasW_y rp w hk hq, bd_s, if_neg n10, nw_y rm w hk hq, bd_s, if_pos rfl]
    dsimp only
    rw [rp.1, rm.1]
    by_cases hc : a3.toInt < -1 ∨ (pn P : Int) ≤ a3.toInt
    · rw [in_n (by rw [w64, i64_sub1 _ (by omega)]; show _ < (-1 : Int) ∨ _; omega), bd_s, if_pos rfl]
      refine ⟨_, _, _, ?_, rfl, P, C, hB.mono⟩
      by_cases c2 : a3 < -1
      · rw [if_pos c2]
      · rw [if_neg c2, if_neg]
        rw [Int32.lt_iff_toInt_lt, tn1] at c2
        rw [Int32.lt_iff_toInt_lt, nI_toInt (by omega)]; omega
    · rw [in_y (by rw [w64]; show (-1 : Int) ≤ _; omega) (by rw [w64, i64_sub1 _ (by omega)]; omega), bd_s, if_neg n10, if_neg (by rw [Int32.lt_iff_toInt_lt, tn1]; omega), if_pos (by rw [Int32.lt_iff_toInt_lt, nI_toInt (by omega)]; omega)]
      have x3c : a3 = -1 ∨ ∃ t, t < pn P ∧ a3 = nI t := by
        rcases arg_n a3 with z | ⟨t, ht, rfl⟩
        · left; rw [← Int32.toInt_inj, tn1]; omega
        · right; rw [nI_toInt (by omega)] at hc; exact ⟨t, by omega, rfl⟩
      obtain ⟨σ1, q1, q2, q3⟩ := seek_c hB hj (by omega)
      obtain ⟨x5, τ1, τ2, r1, r2, r3⟩ := motM rm w wc hk hq a3 (fun z => by
        rcases x3c with y | ⟨t, ht, y⟩
        · rw [y] at z; exact absurd z (by decide)
        · rw [y, nI_clamp (by omega)]; exact ht)
      rw [q1, bd_s, r2]
      unfold f3_isFound f3_changesFor f3_whoFor
      rw [pow3, bd_s, at_in (by omega) (by omega), bd_s, bd_s]
      dsimp only
      rcases q3 k q hk hq with ⟨m1, m2⟩ | ⟨R, r, m1, m2, m3, m4, m5, m6, m7, m8⟩
      · rw [m1, if_pos (show (6 : Int32) ≤ 6 by decide), bd_s, if_pos rfl]
        rcases r1 with ⟨y1, _⟩ | ⟨R0, y1, y2, y3, _⟩
        · rw [if_pos y1]
          exact ⟨_, _, _, rfl, rfl, P, C, q2.fz r3⟩
        · exact absurd y3 (m2 R0 y1 y2)
      · have cle := chg_le P C (dgt (pn P) R) (pn P)
        rw [m5, if_neg (show ¬ (6 : Int32) ≤ nI _ from nI_ge (b := 6) (by omega) (by omega)), bd_s, if_neg n10]
        rcases r1 with ⟨_, y2⟩ | ⟨R0, y1, y2, y3, y4, y5, y6⟩
        · exact absurd m3 (y2 R m1 m2)
        · have same : R0 = R := by
            have z1 := y4 R m1 m2 m3
            have z2 := m4 R0 y1 y2 y3
            omega
          subst same
          have n99 : ¬ x5 = 99 := by
            rw [y5]; exact fun z => by have := (nIc (c := 99) (by omega) (by omega)).mp z; omega
          simp only [if_neg n99]
          rcases x3c with rfl | ⟨t, ht, rfl⟩
          · rw [if_pos rfl, pow3, bd_s, at_in (by omega) (by omega), bd_s, bd_s, m5, if_neg (show ¬ (0 : Int32) ≤ -1 by decide), y5]
            exact ⟨_, _, _, rfl, rfl, P, C, q2.fz r3⟩
          · rw [if_neg (nI_m1 (by omega)), pow3, bd_s, at_in (by omega) (by omega), bd_s, bd_s, m6, if_pos (nI_pos' (by omega)), nI_clamp (by omega), y6 t ht]
            have e3t : nI t * (3 : Int32) = nI (3 * t) := by show nI t * nI 3 = _; rw [pk_mul, Nat.mul_comm]
            have e8 : (8 : Nat) ^ t = 2 ^ (3 * t) := by rw [Nat.pow_mul]
            have dr := Nat.div_le_self r (2 ^ (3 * t))
            dsimp only
            rw [e3t, shr1 (by omega) (by omega), pk_andN (by omega) 3 (m := 7) (by decide), ← e8, show (2 : Nat) ^ 3 = 8 from rfl, m8 t ht]
            exact ⟨_, _, _, rfl, rfl, P, C, q2.fz r3⟩
