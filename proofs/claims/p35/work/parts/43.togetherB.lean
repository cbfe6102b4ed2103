/-! together: the two sides -/
/-- rows searched up to R: the first of the most worth -/
def Sought (P : PP) (C : CC) (R : Nat) (best : Int32) (τ : HS) : Prop := (best = -9 ∧ ∀ r, r < R → ¬ RowOk P C r (turnsN P C)) ∨ ∃ r0, r0 < R ∧ RowOk P C r0 (turnsN P C) ∧ best = nI (sumW (dday P C (fun t _ => rs (turnsN P C) r0 t) (turnsN P C)).2.2.2 5) ∧ (∀ r, r < R → RowOk P C r (turnsN P C) → sumW (dday P C (fun t _ => rs (turnsN P C) r t) (turnsN P C)).2.2.2 5 ≤ sumW (dday P C (fun t _ => rs (turnsN P C) r0 t) (turnsN P C)).2.2.2 5) ∧ (∀ r, r < r0 → RowOk P C r (turnsN P C) → sumW (dday P C (fun t _ => rs (turnsN P C) r t) (turnsN P C)).2.2.2 5 < sumW (dday P C (fun t _ => rs (turnsN P C) r0 t) (turnsN P C)).2.2.2 5) ∧ ∀ t, t < turnsN P C → τ.1 17 t = cd (rs (turnsN P C) r0 t)
theorem rs_39 (T row t : Nat) : rs T row t = 9 ∨ rs T row t < 3 := by
  have : row / 4 ^ (T - 1 - t) % 4 < 4 := Nat.mod_lt _ (by omega)
  unfold rs und; split <;> omega
/-- the words of a row, where they are words that are heard; else silence: a day as any -/
theorem row_ok {P : PP} {C : CC} {row : Nat} (h : RowOk P C row (turnsN P C)) : SaidOk P C (fun t _ => rs (turnsN P C) row t) := fun t x ht _ => by
  have h2 : Hd P C t (dday P C (fun t _ => rs (turnsN P C) row t) t).1 (rs (turnsN P C) row t) := h t ht
  unfold Hd at h2
  dsimp only
  omega
def cut (P : PP) (C : CC) (row n : Nat) : Nat → Nat → Nat := fun t _ => if t < n then rs (turnsN P C) row t else 9
theorem cut_ok {P : PP} {C : CC} {row n : Nat} (h : RowOk P C row n) : SaidOk P C (cut P C row n) := fun t x ht _ => by
  unfold cut
  by_cases c : t < n
  · rw [if_pos c]; have := h t c; unfold Hd at this; omega
  · rw [if_neg c]; exact Or.inl rfl
theorem cut_day (P : PP) (C : CC) (row n t : Nat) (h : t ≤ n) : dday P C (cut P C row n) t = dday P C (fun t _ => rs (turnsN P C) row t) t := dday_ext P C _ _ t (fun i x hi => by unfold cut; rw [if_pos (by omega)])
theorem DayM.cg {τ : HS} {P : PP} {C : CC} {s1 s2 : Nat → Nat → Nat} {n : Nat} (h : DayM τ P C s1 n) (e : ∀ t, t ≤ n → dday P C s1 t = dday P C s2 t) (e2 : ∀ i x, i < n → s1 i x = s2 i x) : DayM τ P C s2 n := by
  obtain ⟨h1, h2, h3, h4, h5⟩ := h
  rw [e n (Nat.le_refl _)] at h1 h2 h3 h4
  refine ⟨h1, h2, h3, h4, fun i hi => ?_⟩
  have := h5 i hi
  rw [e i (by omega), e2 i _ hi] at this
  exact this
theorem pow4 (n : Nat) (h : n ≤ 6) : 1 ≤ 4 ^ n ∧ 4 ^ n ≤ 4096 := ⟨Nat.pow_pos (by omega), Nat.pow_le_pow_right (n := 4) (by omega) h⟩
theorem goRow_c {τ : HS} {P : PP} {C : CC} {row : Nat} (rm : RepM τ P C) (w : WfP P) (wc : WfC P C) (hT : 0 < turnsN P C) (hr : row < 4096) : ∃ (r : Int32) (τ' : HS), f9_goRow (nI row) (nI (turnsN P C)) τ = some (r, τ') ∧ FrM τ τ' ∧ ((r = 1 ∧ RowOk P C row (turnsN P C) ∧ DayM τ' P C (fun t _ => rs (turnsN P C) row t) (turnsN P C)) ∨ (r = 0 ∧ ¬ RowOk P C row (turnsN P C))) := by
  have h5 := w.1
  have h99 := w.2.1
  have h6 := turns_le C w
  unfold f9_goRow f9_goRow_5
  obtain ⟨⟨s1, s2⟩, p1, p2, p3⟩ := wl_fuel (body := fun k5 p => f9_goRow_5_b k5 (nI row) (nI (turnsN P C)) p.1 p.2.1 p.2.2) (fun p : Int32 × Int32 × HS => ∃ i, i < turnsN P C ∧ p = (nI (4 ^ i), nI (i + 1), τ)) (fun p => 10 - p.2.1.toNatClampNeg) (fun r : Int32 × HS => FrM τ r.2 ∧ ((r.1 = 1 ∧ RowOk P C row (turnsN P C) ∧ DayM r.2 P C (fun t _ => rs (turnsN P C) row t) (turnsN P C)) ∨ (r.1 = 0 ∧ ¬ RowOk P C row (turnsN P C)))) (1, 1, τ) ⟨0, hT, rfl⟩ (by show 10 - _ < _; omega) (by
    rintro k5 _ ⟨i, hi, rfl⟩ ih
    dsimp only
    unfold f9_goRow_5_b
    by_cases c : turnsN P C ≤ i + 1
    · have ei : i = turnsN P C - 1 := by omega
      rw [if_pos (nI_le c (by omega))]
      obtain ⟨τ1, q1, q2, q3⟩ := begin_m rm w wc (cl C) (fun t _ => rs (turnsN P C) row t)
      rw [q1, bd_s]
      unfold f9_goRow_28
      refine wl_fuel (body := fun k28 p => f9_goRow_28_b k28 (nI row) (nI (turnsN P C)) p.1 p.2.1 p.2.2) (fun p : Int32 × Int32 × HS => ∃ t, t ≤ turnsN P C ∧ p.1 = nI (4 ^ (turnsN P C - 1 - t)) ∧ p.2.1 = nI t ∧ FrM τ p.2.2 ∧ RowOk P C row t ∧ DayM p.2.2 P C (fun t _ => rs (turnsN P C) row t) t) (fun p => 10 - p.2.1.toNatClampNeg) _ _ ⟨0, by omega, by rw [ei]; rfl, rfl, q2, fun t h => absurd h (Nat.not_lt_zero t), q3⟩ (by show 10 - _ < _; omega) ?_
      rintro k28 ⟨x3, x4, τ2⟩ ⟨t, ht, e3', e4', g1, g2, g3⟩ ih2
      have e3' : x3 = nI (4 ^ (turnsN P C - 1 - t)) := e3'
      have e4' : x4 = nI t := e4'
      subst e3' e4'
      have g1 : FrM τ τ2 := g1
      have g3 : DayM τ2 P C (fun t _ => rs (turnsN P C) row t) t := g3
      dsimp only
      unfold f9_goRow_28_b f9_goRow_86 f9_goRow_102
      have rm2 := g1.rm rm
      by_cases cT : turnsN P C ≤ t
      · have : t = turnsN P C := by omega
        subst this
        rw [if_pos (nI_le cT (by omega))]
        exact ⟨_, rfl, g1, Or.inl ⟨rfl, g2, g3⟩⟩
      · have ht : t < turnsN P C := by omega
        have p4 := pow4 (turnsN P C - 1 - t) (by omega)
        have hw := who_lt wc ht
        have h3 := (w.2.2.2 _ hw).2.2.1
        have hd4 : row / 4 ^ (turnsN P C - 1 - t) % 4 < 4 := Nat.mod_lt _ (by omega)
        have hdl : row / 4 ^ (turnsN P C - 1 - t) ≤ row := Nat.div_le_self _ _
        have ers : rs (turnsN P C) row t = und (row / 4 ^ (turnsN P C - 1 - t) % 4) := rfl
        have dg : (nI row / nI (4 ^ (turnsN P C - 1 - t))) - (nI row / nI (4 ^ (turnsN P C - 1 - t))) / 4 * 4 = nI (row / 4 ^ (turnsN P C - 1 - t) % 4) := by
          rw [pk_div (by omega) (by omega) (by omega)]
          exact pk_rem (d := 4) (by omega) (by omega) (by omega)
        rw [if_neg (nI_ge (by omega) (by omega)), if_neg (nI_ne0 (by omega) (by omega)), who_m rm2 w wc ht, bd_s, dg]
        dsimp only
        generalize hd : row / 4 ^ (turnsN P C - 1 - t) % 4 = d at *
        -- a turn that is heard or silent
        have okc := fun (hh : Hd P C t (dday P C (fun t _ => rs (turnsN P C) row t) t).1 (rs (turnsN P C) row t)) => (show RowOk P C row (t + 1) from fun i hi => by
          by_cases c2 : i = t
          · rw [c2]; exact hh
          · exact g2 i (by omega))
        have step : Hd P C t (dday P C (fun t _ => rs (turnsN P C) row t) t).1 (rs (turnsN P C) row t) → ∃ r, (bd (f9_goTurn (nI t) (cd (rs (turnsN P C) row t)) (τ2.1 0 3) τ2) fun r1 => bd (f9_greater 1 (nI (4 ^ (turnsN P C - 1 - t)) / 4) r1) fun r2 => k28 (r2.1, nI t + 1, r2.2)) = some r ∧ FrM τ r.2 ∧ ((r.1 = 1 ∧ RowOk P C row (turnsN P C) ∧ DayM r.2 P C (fun t _ => rs (turnsN P C) row t) (turnsN P C)) ∨ (r.1 = 0 ∧ ¬ RowOk P C row (turnsN P C))) := by
          intro hh
          have ok1 := okc hh
          have dm := g3.cg (s2 := cut P C row (t + 1)) (fun i hi => (cut_day P C row (t + 1) i (by omega)).symm) (fun i x hi => by unfold cut; rw [if_pos (by omega)])
          obtain ⟨τ3, v1, v2, v3⟩ := turn_m (t := t) rm2 w wc wc.2.1 (cut_ok ok1) ht dm
          have ec : cut P C row (t + 1) t (dday P (cw C, cl C, co C) (cut P C row (t + 1)) t).1 = rs (turnsN P C) row t := by unfold cut; rw [if_pos (by omega)]
          rw [ec] at v1
          have v3 : DayM τ3 P C (cut P C row (t + 1)) (t + 1) := v3
          have gr : f9_greater 1 (nI (4 ^ (turnsN P C - 1 - t)) / 4) τ3 = some (nI (4 ^ (turnsN P C - 1 - (t + 1))), τ3) := by
            rw [show nI (4 ^ (turnsN P C - 1 - t)) / (4 : Int32) = nI (4 ^ (turnsN P C - 1 - t) / 4) from pk_div (d := 4) (by omega) (by omega) (by omega)]
            have := greater_c (a := 1) (b := 4 ^ (turnsN P C - 1 - t) / 4) (by omega) (by omega) τ3
            have this : f9_greater 1 (nI (4 ^ (turnsN P C - 1 - t) / 4)) τ3 = _ := this
            rw [this]
            by_cases cz : turnsN P C - 1 - t = 0
            · rw [cz, show turnsN P C - 1 - (t + 1) = 0 by omega]; rfl
            · have e : turnsN P C - 1 - t = (turnsN P C - 1 - (t + 1)) + 1 := by omega
              have p5 := pow4 (turnsN P C - 1 - (t + 1)) (by omega)
              rw [e, Nat.pow_succ, Nat.mul_div_cancel _ (by omega), if_pos p5.1]
          rw [rm2.2.2.1, v1, bd_s, gr, bd_s, nI_1]
          refine ih2 _ ⟨t + 1, by omega, rfl, rfl, g1.tr v2, ok1, v3.cg (fun i hi => cut_day P C row (t + 1) i hi) (fun i x hi => by unfold cut; rw [if_pos (by omega)])⟩ ?_
          show 10 - (nI (t + 1)).toNatClampNeg < 10 - (nI t).toNatClampNeg
          rw [nI_clamp (by omega), nI_clamp (by omega)]; omega
        have no : ¬ Hd P C t (dday P C (fun t _ => rs (turnsN P C) row t) t).1 (rs (turnsN P C) row t) → ¬ RowOk P C row (turnsN P C) := fun hh z => hh (z t ht)
        by_cases cd3 : 3 ≤ d
        · have d3 : d = 3 := by omega
          subst d3
          have e9 : rs (turnsN P C) row t = 9 := by rw [ers]; rfl
          have := step (by rw [e9]; exact Or.inl rfl)
          rw [e9, cd_9] at this
          rw [if_pos (show (3 : Int32) ≤ nI 3 by decide), if_pos (show nI 3 = (3 : Int32) from rfl)]
          exact this
        · have edd : rs (turnsN P C) row t = d := by rw [ers]; unfold und; rw [if_neg (by omega)]
          rw [if_neg (show ¬ (3 : Int32) ≤ nI d from nI_ge (b := 3) (by omega) (by omega))]
          by_cases cw2 : d < pw P (who P C t)
          · have ok99 := (dok (C := C) w wc (cut_ok g2) t (by omega)).1
            rw [cut_day P C row t t (Nat.le_refl _)] at ok99
            rw [nw_y rm2 w hw cw2, bd_s, if_pos rfl, ix_in (by omega) (by omega), nI_clamp (by omega)]
            dsimp only
            rw [g3.1, heard_c rm2 w hw cw2 (by omega), bd_s]
            by_cases ch : pl P (3 * who P C t + d) ≤ (dday P C (fun t _ => rs (turnsN P C) row t) t).1
            · rw [if_pos ch, if_neg (show ¬ nI 1 = 0 from n10), if_neg (show ¬ nI d = (3 : Int32) from fun z => by have := (nIc (c := 3) (by omega) (by omega)).mp z; omega)]
              have := step (by rw [edd]; exact Or.inr ⟨cw2, ch⟩)
              rw [edd, cd_z (by omega)] at this
              exact this
            · rw [if_neg ch, if_pos (show nI 0 = 0 from rfl)]
              exact ⟨_, rfl, g1, Or.inr ⟨rfl, no (by rw [edd]; unfold Hd; omega)⟩⟩
          · rw [nw_n rm2 w (Or.inr ⟨_, hw, rfl, by rw [nI_toInt (by omega)]; omega⟩), bd_s, if_neg n10]
            exact ⟨_, rfl, g1, Or.inr ⟨rfl, no (by rw [edd]; unfold Hd; omega)⟩⟩
    · have p4 := pow4 i (by omega)
      rw [if_neg (nI_ge (by omega) (by omega)), nI_1, show nI (4 ^ i) * (4 : Int32) = nI (4 ^ (i + 1)) by show nI (4 ^ i) * nI 4 = _; rw [pk_mul, Nat.pow_succ]]
      refine ih _ ⟨i + 1, by omega, rfl⟩ ?_
      show 10 - (nI (i + 1 + 1)).toNatClampNeg < 10 - (nI (i + 1)).toNatClampNeg
      rw [nI_clamp (by omega), nI_clamp (by omega)]; omega)
  exact ⟨s1, s2, p1, p2, p3⟩
theorem op_together (j : Nat) (σ τ : HS) (a1 : Int32) (hI : Inv j σ τ) (hj : j < 512) : ∃ (r : Int32) (σ1 τ1 : HS), f8_together a1 σ = some (r, σ1) ∧ f9_together a1 τ = some (r, τ1) ∧ Inv (j + 1) σ1 τ1 := by
  obtain ⟨P, C, hB⟩ := hI
  obtain ⟨w, wc, rp, rc, rm, -, -, -, -, -, mk, -⟩ := id hB
  have h5 := w.1
  have h99 := w.2.1
  have h6 := turns_le C w
  by_cases hc : a1.toInt < -1 ∨ (turnsN P C : Int) ≤ a1.toInt
  · unfold f8_together f9_together f0_hasTurn f0_hasTurn_16
    rw [turns_m rm w wc, bd_s]
    dsimp only
    rw [in_n (by rw [w64, i64_sub1 _ (by omega)]; show _ < (-1 : Int) ∨ _; omega), bd_s, if_pos rfl, if_neg (by rw [← Int32.toInt_inj, tn1]; omega), turns_g rp rc w wc]
    refine ⟨_, _, _, ?_, rfl, P, C, hB.mono⟩
    by_cases c2 : a1 < 0
    · rw [if_pos c2, bd_s, if_pos rfl]
    · rw [if_neg c2, bd_s, if_pos, bd_s, if_pos rfl]
      rw [Int32.lt_iff_toInt_lt, tp0] at c2
      rw [Int32.le_iff_toInt_le, nI_toInt (by omega)]; omega
  · have e8 : f8_together a1 σ = f8_together_18 a1 σ := by
      unfold f8_together f0_hasTurn f0_hasTurn_16
      by_cases c1 : a1 = -1
      · rw [if_pos c1]
      · rcases arg_n a1 with z | ⟨t, ht, rfl⟩
        · exfalso
          apply c1
          rw [← Int32.toInt_inj, tn1]; omega
        · rw [nI_toInt (by omega)] at hc
          rw [if_neg c1, if_neg (nI_pos (by omega)), turns_g rp rc w wc, bd_s, if_neg (nI_ge (by omega) (by omega)), bd_s, if_neg n10]
    have e9 : f9_together a1 τ = (if τ.1 0 1 = 0 then some (-3, τ) else bd (f9_turnsNow τ) fun r5 => f9_together_40 a1 r5.1 (1, 0, r5.2)) := by
      unfold f9_together
      rw [turns_m rm w wc, bd_s]
      dsimp only
      rw [in_y (by rw [w64]; show (-1 : Int) ≤ _; omega) (by rw [w64, i64_sub1 _ (by omega)]; omega), bd_s, if_neg n10]
      dsimp only
      rw [turns_m rm w wc]
    rw [e8, e9]
    unfold f8_together_18
    rw [rp.1, rm.1]
    by_cases cn : pn P = 0
    · rw [if_pos (by rw [cn]; rfl), if_pos (by rw [cn]; rfl)]
      exact ⟨_, _, _, rfl, rfl, P, C, hB.mono⟩
    · have hn : 0 < pn P := by omega
      have hT := turns_pos (C := C) hn
      rw [if_neg (nI_ne0 hn (by omega)), if_neg (nI_ne0 hn (by omega))]
      -- the class
      obtain ⟨σ1, q1, q2, q3, q4⟩ := follow_c rc w
      have rp1 : RepP σ1 P := rp.congr (fun x z1 z2 => ⟨q3 x (by omega) (by omega), by rw [q4]⟩)
      obtain ⟨σ2, r1, r2, r3, r4⟩ := made_c (m := 1) rp1 q2 w wc (Or.inr rfl) (mk.congr (by rw [q3 32 (by omega) (by omega)]) (q3 36 (by omega) (by omega))) (by omega) hT
      have r1 : (bd (f5_openWhatIsReached σ1) fun r1 => bd (f5_settleAll 30 1 r1) fun r2 => some r2) = some σ2 := r1
      obtain ⟨σ3, s1, s2, s3⟩ := free30 (r2.rp rp1) (r2.rc q2) w wc r4
      have wl := worth_lt w wc (saidM_SaidOk 1 w wc) (Nat.le_refl (turnsN P C))
      -- the plan's row
      have p4 := pow4 (turnsN P C) h6
      have plt := PR_lt w wc (turnsN P C) (fw P C) (Nat.le_refl _)
      have pmod : PR P C (turnsN P C) (fw P C) % 4 ^ turnsN P C = PR P C (turnsN P C) (fw P C) := Nat.mod_eq_of_lt plt
      obtain ⟨pv, pt⟩ := PR_val w wc (turnsN P C) (fw P C) (PR P C (turnsN P C) (fw P C)) (Nat.le_refl _) pmod
      have prow := (row_all w wc (PR P C (turnsN P C) (fw P C))).1.mpr pv
      have psum := (row_all w wc (PR P C (turnsN P C) (fw P C))).2 prow
      obtain ⟨pd1, pd2, -⟩ := plan_day w wc pmod (turnsN P C) (Nat.le_refl _)
      -- the model
      have ml : ∃ (r : Int32) (τ' : HS), f9_together_40 a1 (nI (turnsN P C)) (1, 0, τ) = some (r, τ') ∧ FB τ τ' ∧ ∃ best, Sought P C (4 ^ turnsN P C) best τ' ∧ r = if 0 ≤ a1 then τ'.1 17 a1.toNatClampNeg else best := by
        have ix : 0 ≤ a1 → ¬ (a1 < 0 ∨ 6 ≤ a1.toNatClampNeg) := by
          intro z
          rcases arg_n a1 with y | ⟨t, ht, rfl⟩
          · rw [Int32.le_iff_toInt_le, tp0] at z; omega
          · rw [nI_toInt (by omega)] at hc
            exact nI_in (by omega) (by omega)
        unfold f9_together_40
        obtain ⟨⟨x1, x2⟩, y1, y2⟩ := wl_fuel (body := fun k40 p => f9_together_40_b k40 a1 (nI (turnsN P C)) p.1 p.2.1 p.2.2) (fun p : Int32 × Int32 × HS => ∃ i, i ≤ turnsN P C ∧ p = (nI (4 ^ i), nI i, τ)) (fun p => 10 - p.2.1.toNatClampNeg) (fun r : Int32 × HS => FB τ r.2 ∧ ∃ best, Sought P C (4 ^ turnsN P C) best r.2 ∧ r.1 = if 0 ≤ a1 then r.2.1 17 a1.toNatClampNeg else best) (1, 0, τ) ⟨0, by omega, rfl⟩ (by show 10 - _ < _; omega) (by
          rintro k40 _ ⟨i, hi, rfl⟩ ih
          dsimp only
          unfold f9_together_40_b
          by_cases c : turnsN P C ≤ i
          · have ei : i = turnsN P C := by omega
            subst ei
            rw [if_pos (nI_le c (by omega))]
            unfold f9_together_63
            refine wl_fuel (body := fun k63 p => f9_together_63_b k63 a1 (nI (turnsN P C)) (nI (4 ^ turnsN P C)) p.1 p.2.1 p.2.2) (fun p : Int32 × Int32 × HS => ∃ R, R ≤ 4 ^ turnsN P C ∧ p.2.1 = nI R ∧ FB τ p.2.2 ∧ Sought P C R p.1 p.2.2) (fun p => 5000 - p.2.1.toNatClampNeg) _ (-9, 0, τ) ⟨0, by omega, rfl, FB.rfl' _, Or.inl ⟨rfl, fun r hr => absurd hr (Nat.not_lt_zero r)⟩⟩ (by show 5000 - _ < _; omega) ?_
            rintro k63 ⟨x4, x5, τ2⟩ ⟨R, hR, e5', g1, g2⟩ ih2
            have e5' : x5 = nI R := e5'
            subst e5'
            have g1 : FB τ τ2 := g1
            have g2 : Sought P C R x4 τ2 := g2
            dsimp only
            unfold f9_together_63_b f9_together_123
            by_cases cR : 4 ^ turnsN P C ≤ R
            · have : R = 4 ^ turnsN P C := by omega
              subst this
              rw [if_pos (nI_le cR (by omega))]
              by_cases ca : 0 ≤ a1
              · rw [if_pos ca, if_neg (ix ca)]
                exact ⟨_, rfl, g1, x4, g2, by rw [if_pos ca]⟩
              · rw [if_neg ca]
                exact ⟨_, rfl, g1, x4, g2, by rw [if_neg ca]⟩
            · obtain ⟨f, τ3, v1, v2, v3⟩ := goRow_c (row := R) (g1.rm rm) w wc hT (by omega)
              rw [if_neg (nI_ge (by omega) (by omega)), v1, bd_s]
              have e17 : τ3.1 17 = τ2.1 17 := v2.1 17 (by omega) (by omega) (by omega) (by omega)
              have mu : 5000 - (nI (R + 1)).toNatClampNeg < 5000 - (nI R).toNatClampNeg := by
                rw [nI_clamp (by omega), nI_clamp (by omega)]; omega
              rcases v3 with ⟨rfl, ok, dm⟩ | ⟨rfl, nok⟩
              · have okd := dok w wc (row_ok ok) (turnsN P C) (Nat.le_refl _)
                have wlr := worth_lt w wc (row_ok ok) (Nat.le_refl (turnsN P C))
                have w0 := wlr 0
                have w1 := wlr 1
                have w2 := wlr 2
                have w3 := wlr 3
                have w4 := wlr 4
                have sb := sumW5 (dday P C (fun t _ => rs (turnsN P C) R t) (turnsN P C)).2.2.2
                have rm3 := v2.rm (g1.rm rm)
                have ta := toAllM rm3.1 w dm.2.2.2.1 okd.2.2.2.2
                generalize hS : sumW (dday P C (fun t _ => rs (turnsN P C) R t) (turnsN P C)).2.2.2 5 = S at *
                rw [if_neg n10, ta, bd_s]
                dsimp only
                have take : (∀ r, r < R → RowOk P C r (turnsN P C) → sumW (dday P C (fun t _ => rs (turnsN P C) r t) (turnsN P C)).2.2.2 5 < S) → ∃ r, (bd (f9_worthToAll τ3) fun r8 => f9_together_97 k63 a1 (nI (turnsN P C)) (nI (4 ^ turnsN P C)) r8.1 (nI R) (0, r8.2)) = some r ∧ FB τ r.2 ∧ ∃ best, Sought P C (4 ^ turnsN P C) best r.2 ∧ r.1 = if 0 ≤ a1 then r.2.1 17 a1.toNatClampNeg else best := by
                  intro hlt
                  rw [ta, bd_s]
                  unfold f9_together_97
                  refine wl_fuel (body := fun k97 p => f9_together_97_b k63 k97 a1 (nI (turnsN P C)) (nI (4 ^ turnsN P C)) (nI S) (nI R) p.1 p.2) (fun p : Int32 × HS => ∃ t, t ≤ turnsN P C ∧ p.1 = nI t ∧ FB τ p.2 ∧ p.2.1 12 = τ3.1 12 ∧ ∀ i, i < t → p.2.1 17 i = cd (rs (turnsN P C) R i)) (fun p => 10 - p.1.toNatClampNeg) _ (0, τ3) ⟨0, by omega, rfl, g1.tr v2.fb, rfl, fun i h => absurd h (Nat.not_lt_zero i)⟩ (by show 10 - _ < _; omega) ?_
                  rintro k97 ⟨x6, τ4⟩ ⟨t, ht, e6', h1, h2, h3⟩ ih3
                  have e6' : x6 = nI t := e6'
                  subst e6'
                  have h1 : FB τ τ4 := h1
                  have h2 : τ4.1 12 = τ3.1 12 := h2
                  have h3 : ∀ i, i < t → τ4.1 17 i = cd (rs (turnsN P C) R i) := h3
                  dsimp only
                  unfold f9_together_97_b f9_together_123
                  by_cases ct : turnsN P C ≤ t
                  · have : t = turnsN P C := by omega
                    subst this
                    rw [if_pos (nI_le ct (by omega)), nI_1]
                    refine ih2 _ ⟨R + 1, by omega, rfl, h1, Or.inr ⟨R, by omega, ok, by rw [hS], fun r hr hok => ?_, fun r hr hok => by rw [hS]; exact hlt r hr hok, h3⟩⟩ mu
                    rw [hS]
                    by_cases cr : r = R
                    · rw [cr, hS]; exact Nat.le_refl _
                    · have := hlt r (by omega) hok; omega
                  · rw [if_neg (nI_ge (by omega) (by omega)), ix_in (by omega) (by omega), ix_in (by omega) (by omega), nI_clamp (by omega), h2, (dm.2.2.2.2 t (by omega)).1, nI_1]
                    refine ih3 _ ⟨t + 1, by omega, rfl, ⟨fun a ha => by show (uI τ4 17 _ _).1 a = _; rw [uI_other (by omega)]; exact h1.1 a ha, fun y y1 y2 => by show (uI τ4 17 _ _).1 0 y = _; rw [uI_other (by omega)]; exact h1.2 y y1 y2⟩, by show (uI τ4 17 _ _).1 12 = _; rw [uI_other (by omega)]; exact h2, fun i hi => ?_⟩ ?_
                    · show (uI τ4 17 t _).1 17 i = _
                      rw [uI_at]
                      by_cases c1 : i = t
                      · rw [if_pos ⟨rfl, c1⟩, c1]
                      · rw [if_neg (fun z => c1 z.2)]; exact h3 i (by omega)
                    · show 10 - (nI (t + 1)).toNatClampNeg < 10 - (nI t).toNatClampNeg
                      rw [nI_clamp (by omega), nI_clamp (by omega)]; omega
                rcases g2 with ⟨rfl, hno⟩ | ⟨r0, hr0, ok0, rfl, hle, hlt0, h17⟩
                · rw [if_neg (by rw [Int32.le_iff_toInt_le, nI_toInt (by omega), tn9]; omega)]
                  exact take (fun r hr hok => absurd hok (hno r hr))
                · have wl0 := worth_lt w wc (row_ok ok0) (Nat.le_refl (turnsN P C))
                  have z0 := wl0 0
                  have z1 := wl0 1
                  have z2 := wl0 2
                  have z3 := wl0 3
                  have z4 := wl0 4
                  have sb0 := sumW5 (dday P C (fun t _ => rs (turnsN P C) r0 t) (turnsN P C)).2.2.2
                  generalize hS0 : sumW (dday P C (fun t _ => rs (turnsN P C) r0 t) (turnsN P C)).2.2.2 5 = S0 at *
                  by_cases cS : S ≤ S0
                  · rw [if_pos (nI_le cS (by omega)), nI_1]
                    refine ih2 _ ⟨R + 1, by omega, rfl, g1.tr v2.fb, Or.inr ⟨r0, by omega, ok0, by rw [hS0], fun r hr hok => ?_, fun r hr hok => by rw [hS0]; exact hlt0 r hr hok, fun t ht => by rw [e17]; exact h17 t ht⟩⟩ mu
                    rw [hS0]
                    by_cases cr : r = R
                    · rw [cr, hS]; exact cS
                    · exact hle r (by omega) hok
                  · rw [if_neg (nI_ge (by omega) (by omega))]
                    exact take (fun r hr hok => by have := hle r hr hok; omega)
              · rw [if_pos rfl, nI_1]
                refine ih2 _ ⟨R + 1, by omega, rfl, g1.tr v2.fb, ?_⟩ mu
                rcases g2 with ⟨e, hno⟩ | ⟨r0, hr0, ok0, e, hle, hlt0, h17⟩
                · refine Or.inl ⟨e, fun r hr => ?_⟩
                  by_cases cr : r = R
                  · rw [cr]; exact nok
                  · exact hno r (by omega)
                · refine Or.inr ⟨r0, by omega, ok0, e, fun r hr hok => ?_, hlt0, fun t ht => by rw [e17]; exact h17 t ht⟩
                  by_cases cr : r = R
                  · rw [cr] at hok; exact absurd hok nok
                  · exact hle r (by omega) hok
          · have p4i := pow4 i (by omega)
            rw [if_neg (nI_ge (by omega) (by omega)), nI_1, show nI (4 ^ i) * (4 : Int32) = nI (4 ^ (i + 1)) by show nI (4 ^ i) * nI 4 = _; rw [pk_mul, Nat.pow_succ]]
            refine ih _ ⟨i + 1, by omega, rfl⟩ ?_
            show 10 - (nI (i + 1)).toNatClampNeg < 10 - (nI i).toNatClampNeg
            rw [nI_clamp (by omega), nI_clamp (by omega)]; omega)
        exact ⟨x1, x2, y1, y2⟩
      obtain ⟨r, τ', y1, y2, best, y3, y4⟩ := ml
      rw [turns_m rm w wc, bd_s, y1, q1, bd_s]
      unfold f5_makeForAll
      rw [r1, bd_s, s1, bd_s]
      have fin : InvB (j + 1) σ3 τ' P C := hB.f30 (by omega) (fun b hb => ⟨by rw [(s2.f30 b (by omega)).1, (r2 b (by omega)).1, q3 b (by omega) (by omega)], by rw [(s2.f30 b (by omega)).2, (r2 b (by omega)).2, q4]⟩) ((s2.mk30 r3).mono (by omega)) y2.1 y2.2
      rcases y3 with ⟨e, hno⟩ | ⟨r0, hr0, ok0, e, hle, hlt0, h17⟩
      · exact absurd prow (hno _ plt)
      · have v0 := (row_all w wc r0).1.mp ok0
        have t0 := (row_all w wc r0).2 ok0
        obtain ⟨c1, c2⟩ := row_cmp w wc r0 (turnsN P C) (fw P C) (Nat.le_refl _) v0
        rw [Nat.mod_eq_of_lt hr0] at c2
        have le1 := hle _ plt prow
        have same : r0 = PR P C (turnsN P C) (fw P C) := by
          rcases Nat.lt_trichotomy r0 (PR P C (turnsN P C) (fw P C)) with z | z | z
          · have := c2 z; omega
          · exact z
          · have := hlt0 _ z prow; omega
        subst same
        have bw := fun i => (show (dday P C (saidM 1 P C) (turnsN P C)).2.2.2 i < 256 by have := wl i; omega)
        by_cases ca : a1 = -1
        · rw [if_pos ca, s3.2.2.2.2.1, toAll_c (fun i _ => bw i), bd_s]
          have : ¬ (0 : Int32) ≤ a1 := by rw [ca]; decide
          rw [if_neg this, e] at y4
          rw [pd1, ← y4]
          exact ⟨_, _, _, rfl, rfl, P, C, fin⟩
        · rcases arg_n a1 with z | ⟨t, ht, rfl⟩
          · exfalso
            apply ca
            rw [← Int32.toInt_inj, tn1]; omega
          · rw [nI_toInt (by omega)] at hc
            have htT : t < turnsN P C := by omega
            unfold f1_saidIn
            rw [if_pos (nI_pos' (by omega)), nI_clamp (by omega), h17 t htT] at y4
            rw [if_neg ca, at_in (by omega) (by omega), bd_s, bd_s, (s3.2.2.2.2.2 t htT).1, pd2 t htT, ← y4]
            exact ⟨_, _, _, rfl, rfl, P, C, fin⟩
