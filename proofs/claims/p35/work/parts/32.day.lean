/-! day -/
theorem e6' (d m : Nat) : nI d * (6 : Int32) + nI m = nI (6 * d + m) := by show nI d * nI 6 + nI m = _; rw [pk_mul, nI_add, Nat.mul_comm]
theorem e6 (d m : Nat) : (6 : Int32) * nI d + nI m = nI (6 * d + m) := by show nI 6 * nI d + nI m = _; rw [pk_mul, nI_add]
theorem told_m3 (σ : HS) : f8_told (-3) σ = some (-3, uI σ 0 13 0) := told_0 (Or.inl (by decide))
theorem told_m4 (σ : HS) : f8_told (-4) σ = some (-4, uI σ 0 13 0) := told_0 (Or.inl (by decide))
theorem logC {σ : HS} {k i n d e : Nat} (hk : k < 4) (hi : i + n ≤ 100) (hn : n ≤ 6) (hd : d < 6) (h3 : σ.1 40 3 = nI d) : ∃ σ', f8_day_110 (nI k) (nI i) (nI e) (nI n) (0, σ) = some (nI d, σ') ∧ (∀ b, b ≠ 0 → b ≠ 40 → b ≠ 41 → b ≠ 42 → σ'.1 b = σ.1 b) ∧ σ'.2 = σ.2 ∧ (∀ y, σ'.1 0 y = if y = 13 then 0 else σ.1 0 y) ∧ σ'.1 40 3 = nI (d + 1) ∧ (∀ y, σ'.1 42 y = if y = d then nI e else σ.1 42 y) ∧ ∀ y, σ'.1 41 y = if 6 * d ≤ y ∧ y < 6 * d + n then σ.1 4 (100 * k + (i + (y - 6 * d))) else σ.1 41 y := by
  unfold f8_day_110
  obtain ⟨⟨r1, r2⟩, p1, p2, p3⟩ := wl_fuel (body := fun k110 p => f8_day_110_b k110 (nI k) (nI i) (nI e) (nI n) p.1 p.2) (fun p : Int32 × HS => ∃ m, m ≤ n ∧ p.1 = nI m ∧ (∀ b, b ≠ 41 → p.2.1 b = σ.1 b) ∧ p.2.2 = σ.2 ∧ ∀ y, p.2.1 41 y = if 6 * d ≤ y ∧ y < 6 * d + m then σ.1 4 (100 * k + (i + (y - 6 * d))) else σ.1 41 y) (fun p => 10 - p.1.toNatClampNeg) (fun r : Int32 × HS => r.1 = nI d ∧ (∀ b, b ≠ 0 → b ≠ 40 → b ≠ 41 → b ≠ 42 → r.2.1 b = σ.1 b) ∧ r.2.2 = σ.2 ∧ (∀ y, r.2.1 0 y = if y = 13 then 0 else σ.1 0 y) ∧ r.2.1 40 3 = nI (d + 1) ∧ (∀ y, r.2.1 42 y = if y = d then nI e else σ.1 42 y) ∧ ∀ y, r.2.1 41 y = if 6 * d ≤ y ∧ y < 6 * d + n then σ.1 4 (100 * k + (i + (y - 6 * d))) else σ.1 41 y) (0, σ) ⟨0, by omega, rfl, fun _ _ => rfl, rfl, fun y => by rw [if_neg (by omega)]⟩ (by show 10 - _ < _; omega) (by
    rintro kk ⟨x6, σ2⟩ ⟨m, hm, e', g1, g2, g3⟩ ih
    have e' : x6 = nI m := e'
    subst e'
    have g1 : ∀ b, b ≠ 41 → σ2.1 b = σ.1 b := g1
    have g2 : σ2.2 = σ.2 := g2
    have g3 : ∀ y, σ2.1 41 y = if 6 * d ≤ y ∧ y < 6 * d + m then σ.1 4 (100 * k + (i + (y - 6 * d))) else σ.1 41 y := g3
    show ∃ r, f8_day_110_b kk (nI k) (nI i) (nI e) (nI n) (nI m) σ2 = some r ∧ _
    unfold f8_day_110_b f8_day_151 f2_close f2_note f7_valueAt
    by_cases c : n ≤ m
    · have : m = n := by omega
      subst this
      rw [if_pos (nI_le c (by omega)), g1 40 (by omega), h3, set_in (by omega) (by omega), bd_s, uI_other (by omega), g1 40 (by omega), h3, nI_1, bd_s, told_0 (Or.inl (by rw [nI_toInt (by omega)]; omega)), bd_s]
      refine ⟨_, rfl, rfl, fun b c0 c1 c2 c3 => ?_, ?_, fun y => ?_, ?_, fun y => ?_, fun y => ?_⟩
      · show (uI (uI (uI σ2 42 d (nI e)) 40 3 (nI (d + 1))) 0 13 0).1 b = _
        rw [uI_other c0, uI_other c1, uI_other c3, g1 b c2]
      · exact g2
      · show (uI (uI (uI σ2 42 d (nI e)) 40 3 (nI (d + 1))) 0 13 0).1 0 y = _
        rw [uI_at, uI_other (by omega), uI_other (by omega), g1 0 (by omega)]; by_cases c : y = 13 <;> simp [c]
      · show (uI (uI (uI σ2 42 d (nI e)) 40 3 (nI (d + 1))) 0 13 0).1 40 3 = _
        rw [uI_other (by omega), uI_at, if_pos ⟨rfl, rfl⟩]
      · show (uI (uI (uI σ2 42 d (nI e)) 40 3 (nI (d + 1))) 0 13 0).1 42 y = _
        rw [uI_other (by omega), uI_other (by omega), uI_at, g1 42 (by omega)]; by_cases c : y = d <;> simp [c]
      · show (uI (uI (uI σ2 42 d (nI e)) 40 3 (nI (d + 1))) 0 13 0).1 41 y = _
        rw [uI_other (by omega), uI_other (by omega), uI_other (by omega), g3]
    · rw [if_neg (nI_ge (by omega) (by omega)), if_neg (show ¬ (6 : Int32) ≤ nI m from nI_ge (b := 6) (by omega) (by omega)), nI_add, place_e, bd_s, at_in (by omega) (by omega), bd_s, bd_s, g1 40 (by omega), h3, e6', set_in (by omega) (by omega), bd_s, bd_s, nI_1, g1 4 (by omega)]
      refine ih _ ⟨m + 1, by omega, rfl, fun b hb => by show (uI σ2 41 _ _).1 b = _; rw [uI_other hb]; exact g1 b hb, g2, fun y => ?_⟩ ?_
      · show (uI σ2 41 (6 * d + m) _).1 41 y = _
        rw [uI_at, g3]
        by_cases c1 : y = 6 * d + m
        · rw [if_pos ⟨rfl, c1⟩, if_pos (by omega), c1, show 6 * d + m - 6 * d = m by omega]
        · rw [if_neg (fun z => c1 z.2)]
          by_cases c2 : 6 * d ≤ y ∧ y < 6 * d + m
          · rw [if_pos c2, if_pos (by omega)]
          · rw [if_neg c2, if_neg (by omega)]
      · show 10 - (nI (m + 1)).toNatClampNeg < 10 - (nI m).toNatClampNeg
        rw [nI_clamp (by omega), nI_clamp (by omega)]; omega)
  have p2 : r1 = nI d := p2
  subst p2
  exact ⟨r2, p1, p3⟩
theorem logM {τ : HS} {P : PP} {C : CC} {k i d e : Nat} (rm : RepM τ P C) (w : WfP P) (wc : WfC P C) (hk : k < 4) (hi : i + turnsN P C ≤ 100) (hd : d < 6) (h3 : τ.1 0 29 = nI d) : ∃ τ', f9_day_102 (nI e) (nI (100 * k + i)) (0, τ) = some (nI d, τ') ∧ (∀ b, b ≠ 0 → b ≠ 19 → b ≠ 20 → τ'.1 b = τ.1 b) ∧ (∀ y, τ'.1 0 y = if y = 0 then 0 else if y = 29 then nI (d + 1) else τ.1 0 y) ∧ (∀ y, τ'.1 20 y = if y = d then nI e else τ.1 20 y) ∧ ∀ y, τ'.1 19 y = if 6 * d ≤ y ∧ y < 6 * d + turnsN P C then τ.1 23 (100 * k + (i + (y - 6 * d))) else τ.1 19 y := by
  have h6 := turns_le C w
  unfold f9_day_102
  obtain ⟨⟨r1, r2⟩, p1, p2, p3⟩ := wl_fuel (body := fun k102 p => f9_day_102_b k102 (nI e) (nI (100 * k + i)) p.1 p.2) (fun p : Int32 × HS => ∃ m, m ≤ turnsN P C ∧ p.1 = nI m ∧ (∀ b, b ≠ 19 → p.2.1 b = τ.1 b) ∧ ∀ y, p.2.1 19 y = if 6 * d ≤ y ∧ y < 6 * d + m then τ.1 23 (100 * k + (i + (y - 6 * d))) else τ.1 19 y) (fun p => 10 - p.1.toNatClampNeg) (fun r : Int32 × HS => r.1 = nI d ∧ (∀ b, b ≠ 0 → b ≠ 19 → b ≠ 20 → r.2.1 b = τ.1 b) ∧ (∀ y, r.2.1 0 y = if y = 0 then 0 else if y = 29 then nI (d + 1) else τ.1 0 y) ∧ (∀ y, r.2.1 20 y = if y = d then nI e else τ.1 20 y) ∧ ∀ y, r.2.1 19 y = if 6 * d ≤ y ∧ y < 6 * d + turnsN P C then τ.1 23 (100 * k + (i + (y - 6 * d))) else τ.1 19 y) (0, τ) ⟨0, by omega, rfl, fun _ _ => rfl, fun y => by rw [if_neg (by omega)]⟩ (by show 10 - _ < _; omega) (by
    rintro kk ⟨x6, τ2⟩ ⟨m, hm, e', g1, g3⟩ ih
    have e' : x6 = nI m := e'
    subst e'
    have g1 : ∀ b, b ≠ 19 → τ2.1 b = τ.1 b := g1
    have g3 : ∀ y, τ2.1 19 y = if 6 * d ≤ y ∧ y < 6 * d + m then τ.1 23 (100 * k + (i + (y - 6 * d))) else τ.1 19 y := g3
    have rm2 : RepM τ2 P C := rm.congr ⟨by rw [g1 0 (by omega)], by rw [g1 0 (by omega)], by rw [g1 0 (by omega)], by rw [g1 0 (by omega)]⟩ (fun a z1 z2 => g1 a (by omega))
    show ∃ r, f9_day_102_b kk (nI e) (nI (100 * k + i)) (nI m) τ2 = some r ∧ _
    unfold f9_day_102_b f9_refused
    rw [turns_m rm2 w wc, bd_s, g1 0 (by omega), h3]
    by_cases c : turnsN P C ≤ m
    · have : m = turnsN P C := by omega
      subst this
      rw [if_pos (nI_le c (by omega)), ix_in (by omega) (by omega), nI_clamp (by omega)]
      rw [show (uI τ2 20 d (nI e)).1 0 29 = nI d by rw [uI_other (by omega), g1 0 (by omega)]; exact h3, nI_1]
      rw [show (uI (uI τ2 20 d (nI e)) 0 29 (nI (d + 1))).1 0 29 = nI (d + 1) by rw [uI_at, if_pos ⟨rfl, rfl⟩], nI_pred, bd_s]
      refine ⟨_, rfl, rfl, fun b c0 c1 c2 => ?_, fun y => ?_, fun y => ?_, fun y => ?_⟩
      · show (uI (uI (uI τ2 20 d (nI e)) 0 29 (nI (d + 1))) 0 0 0).1 b = _
        rw [uI_other c0, uI_other c0, uI_other c2, g1 b c1]
      · show (uI (uI (uI τ2 20 d (nI e)) 0 29 (nI (d + 1))) 0 0 0).1 0 y = _
        rw [uI_at, uI_at, uI_other (by omega), g1 0 (by omega)]; by_cases c : y = 0 <;> simp [c]
      · show (uI (uI (uI τ2 20 d (nI e)) 0 29 (nI (d + 1))) 0 0 0).1 20 y = _
        rw [uI_other (by omega), uI_other (by omega), uI_at, g1 20 (by omega)]; by_cases c : y = d <;> simp [c]
      · show (uI (uI (uI τ2 20 d (nI e)) 0 29 (nI (d + 1))) 0 0 0).1 19 y = _
        rw [uI_other (by omega), uI_other (by omega), uI_other (by omega), g3]
    · rw [if_neg (nI_ge (by omega) (by omega)), nI_add, ix_in (by omega) (by omega), e6, ix_in (by omega) (by omega), nI_clamp (by omega), nI_clamp (by omega), nI_1, g1 23 (by omega)]
      refine ih _ ⟨m + 1, by omega, rfl, fun b hb => by show (uI τ2 19 _ _).1 b = _; rw [uI_other hb]; exact g1 b hb, fun y => ?_⟩ ?_
      · show (uI τ2 19 (6 * d + m) _).1 19 y = _
        rw [uI_at, g3]
        by_cases c1 : y = 6 * d + m
        · rw [if_pos ⟨rfl, c1⟩, if_pos (by omega), c1, show 6 * d + m - 6 * d = m by omega, show 100 * k + i + m = 100 * k + (i + m) by omega]
        · rw [if_neg (fun z => c1 z.2)]
          by_cases c2 : 6 * d ≤ y ∧ y < 6 * d + m
          · rw [if_pos c2, if_pos (by omega)]
          · rw [if_neg c2, if_neg (by omega)]
      · show 10 - (nI (m + 1)).toNatClampNeg < 10 - (nI m).toNatClampNeg
        rw [nI_clamp (by omega), nI_clamp (by omega)]; omega)
  have p2 : r1 = nI d := p2
  subst p2
  exact ⟨r2, p1, p3⟩
theorem op_day (j : Nat) (σ τ : HS) (a1 a2 a3 a4 : Int32) (hI : Inv j σ τ) (hj : j < 512) : ∃ (r : Int32) (σ1 τ1 : HS), f8_day a1 a2 a3 a4 σ = some (r, σ1) ∧ f9_day a1 a2 a3 a4 τ = some (r, τ1) ∧ Inv (j + 1) σ1 τ1 := by
  obtain ⟨P, C, hB⟩ := hI
  obtain ⟨w, wc, rp, rc, rm, rs, rl, a8, a9, b1, b2, b3, b4⟩ := id hB
  have h5 := w.1
  have h6 := turns_le C w
  unfold f8_day f9_day f8_day_81 f9_refused
  rw [turns_g rp rc w wc, bd_s, turns_m rm w wc, bd_s]
  dsimp only
  rcases part_c rs a1 a2 a3 (nI (turnsN P C)) with ⟨code, ft, p1, p2, p3, p4, p5⟩ | ⟨k, a, i, n, s, rfl, rfl, rfl, en, hk, ha, his, hs, p4, p5, p6⟩
  · rw [p4, bd_s, if_neg p1, p3, bd_s, p5, bd_s, if_neg (by rw [Int32.le_iff_toInt_le]; show ¬ (0 : Int) ≤ code.toInt; omega)]
    exact ⟨_, _, _, rfl, rfl, P, C, (hB.flt ft).mono⟩
  · have en : turnsN P C = n := by
      have h := congrArg Int32.toInt en
      have : n ≤ 100 := by omega
      rw [nI_toInt (by omega), nI_toInt (by omega)] at h
      omega
    subst en
    rw [p4, bd_s, if_pos rfl, rp.1, p5, bd_s, if_pos le00, rm.1]
    by_cases c0 : nI (pn P) = 0
    · rw [if_pos c0, if_pos c0, told_m3, bd_s, bd_s]
      exact ⟨_, _, _, rfl, rfl, P, C, (hB.flt 0).mono⟩
    · rw [if_neg c0, if_neg c0, turns_m rm w wc, bd_s, e100]
      have hv : ∀ t, t < turnsN P C → τ.1 23 (100 * k + (i + t)) = σ.1 4 (100 * k + (i + t)) := fun t ht => (p6 _ (by omega)).symm
      have wm := words_m rm w wc hk (i := i) (n := turnsN P C) (by omega) (Nat.le_refl _) hv
      rcases words_c rp rc w wc hk (i := i) (n := turnsN P C) (by omega) (Nat.le_refl _) with ⟨hall, e⟩ | ⟨hall, e⟩
      · rw [e, bd_s, if_neg n10, wm.1 hall, bd_s, if_neg n10]
        rcases arg_c a4 100 (by omega) with hx | ⟨x, hx, rfl⟩
        · rw [in_n (by rw [w64]; show _ < (0 : Int) ∨ (99 : Int) < _; omega), bd_s, if_pos rfl, told_m2, bd_s, bd_s]
          refine ⟨_, _, _, ?_, rfl, P, C, (hB.flt 0).mono⟩
          by_cases c : a4 < 0
          · rw [if_pos c]
          · rw [if_neg c, if_neg]
            rw [Int32.lt_iff_toInt_lt] at c
            rw [Int32.le_iff_toInt_le]
            have : (0 : Int32).toInt = 0 := rfl
            have : (99 : Int32).toInt = 99 := rfl
            omega
        · rw [in_y (by rw [w64, nI_toInt (by omega)]; show (0 : Int) ≤ _; omega) (by rw [w64, nI_toInt (by omega)]; show _ ≤ (99 : Int); omega), bd_s, if_neg n10, if_neg (nI_pos (by omega)), if_pos (show nI x ≤ (99 : Int32) from nI_le (b := 99) (by omega) (by omega))]
          obtain ⟨d, lg, en, l1, l2, l3, l4⟩ := rl
          rw [l2, l3]
          by_cases cd6 : d = 6
          · subst cd6
            rw [if_neg (by decide), if_pos (by decide), told_m4, bd_s, bd_s]
            exact ⟨_, _, _, rfl, rfl, P, C, (hB.flt 0).mono⟩
          · rw [if_pos (show nI d < (6 : Int32) from nI_lt (b := 6) (by omega) (by omega)), if_neg (show ¬ nI d = (6 : Int32) from fun z => cd6 ((nIc (c := 6) (by omega) (by omega)).mp z))]
            obtain ⟨σ1, u1, u2, u3, u4, u5, u6, u7⟩ := logC (σ := σ) (e := x) hk (i := i) (n := turnsN P C) (by omega) h6 (show d < 6 by omega) l2
            obtain ⟨τ1, v1, v2, v3, v4, v5⟩ := logM (τ := τ) (e := x) rm w wc hk (i := i) (by omega) (show d < 6 by omega) l3
            obtain ⟨cs, hcs⟩ := words_v hall w wc (Nat.le_refl _)
            refine ⟨_, _, _, u1, v1, P, C, InvB.mono ⟨w, wc, rp.congr (fun a z1 z2 => ⟨u2 a (by omega) (by omega) (by omega) (by omega), by rw [u3]⟩), rc.congr (u2 _ (by omega) (by omega) (by omega) (by omega)) (u2 _ (by omega) (by omega) (by omega) (by omega)), rm.congr ⟨by rw [v3]; rfl, by rw [v3]; rfl, by rw [v3]; rfl, by rw [v3]; rfl⟩ (fun a z1 z2 => v2 a (by omega) (by omega) (by omega)), rs.congr ⟨u2 _ (by omega) (by omega) (by omega) (by omega), u2 _ (by omega) (by omega) (by omega) (by omega), u2 _ (by omega) (by omega) (by omega) (by omega)⟩ ⟨v2 _ (by omega) (by omega) (by omega), v2 _ (by omega) (by omega) (by omega), v2 _ (by omega) (by omega) (by omega)⟩, ⟨d + 1, fun i t => if i = d then cs t else lg i t, fun i => if i = d then x else en i, by omega, u5, ?_, fun i2 hi2 => ?_⟩, a8.congr (by rw [u4]; rfl) (u2 _ (by omega) (by omega) (by omega) (by omega)) (by rw [u3]), a9.congr (by rw [u2 _ (by omega) (by omega) (by omega) (by omega)]) (u2 _ (by omega) (by omega) (by omega) (by omega)) (u2 _ (by omega) (by omega) (by omega) (by omega)), b1.congr (by rw [u2 _ (by omega) (by omega) (by omega) (by omega)]) (u2 _ (by omega) (by omega) (by omega) (by omega)), b2.congr (by rw [u2 _ (by omega) (by omega) (by omega) (by omega)]) (u2 _ (by omega) (by omega) (by omega) (by omega)), ?_, ?_⟩⟩
            · rw [v3]; rfl
            · dsimp only
              rw [u6, v4]
              by_cases c : i2 = d
              · subst c
                simp only [↓reduceIte]
                refine ⟨by omega, trivial, trivial, fun t ht => ?_⟩
                have h := hcs t
                rw [u7, v5, if_pos (by omega), if_pos (by omega), show 6 * i2 + t - 6 * i2 = t by omega, hv t ht]
                exact ⟨h.1 ht, h.1 ht, h.2.2 ht⟩
              · simp only [if_neg c]
                obtain ⟨q1, q2, q3, q4⟩ := l4 i2 (by omega)
                refine ⟨q1, q2, q3, fun t ht => ?_⟩
                rw [u7, v5, if_neg (by omega), if_neg (by omega)]
                exact q4 t ht
            · rw [u4, v3]; exact b3
            · rw [u4, v3]; rfl
      · rw [e, bd_s, if_pos rfl, wm.2 hall, bd_s, if_pos rfl, told_m1, bd_s, bd_s]
        exact ⟨_, _, _, rfl, rfl, P, C, (hB.flt 0).mono⟩
