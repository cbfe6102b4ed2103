/-! what all would say together, held against all rows, from the last one back -/
theorem hd_nine {P : PP} {C : CC} (sd : Nat → Nat) : ∀ n, n ≤ 6 → (∀ t, t < n → sd t = 9 ∨ sd t < pw P (who P C t)) → ((∀ t, t < n → Hd P C t (dday P C (fun t _ => sd t) t).1 (sd t)) ↔ (dday P C (fun t _ => sd t) n).2.2.1 = 9) := by
  intro n
  induction n with
  | zero => intro _ _; exact ⟨fun _ => rfl, fun _ t ht => absurd ht (Nat.not_lt_zero t)⟩
  | succ n ih =>
    intro hn hv
    have h := ih (by omega) (fun t ht => hv t (by omega))
    have e : dday P C (fun t _ => sd t) (n + 1) = dstep P C n (sd n) (dday P C (fun t _ => sd t) n) := rfl
    rw [e]
    have spl : (∀ t, t < n + 1 → Hd P C t (dday P C (fun t _ => sd t) t).1 (sd t)) ↔ ((∀ t, t < n → Hd P C t (dday P C (fun t _ => sd t) t).1 (sd t)) ∧ Hd P C n (dday P C (fun t _ => sd t) n).1 (sd n)) := by
      refine ⟨fun z => ⟨fun t ht => z t (by omega), z n (by omega)⟩, fun ⟨z1, z2⟩ t ht => ?_⟩
      by_cases c : t = n
      · rw [c]; exact z2
      · exact z1 t (by omega)
    rw [spl, h]
    generalize dday P C (fun t _ => sd t) n = d
    unfold dstep
    by_cases c9 : sd n = 9
    · rw [if_pos c9]
      exact ⟨fun z => z.1, fun z => ⟨z, Or.inl c9⟩⟩
    · rw [if_neg c9]
      by_cases cl : pl P (3 * who P C n + sd n) ≤ d.1
      · rw [if_pos cl]
        refine ⟨fun z => z.1, fun z => ⟨z, Or.inr ⟨?_, cl⟩⟩⟩
        rcases hv n (by omega) with y | y
        · exact absurd y c9
        · exact y
      · rw [if_neg cl]
        refine ⟨fun z => ?_, fun z => ?_⟩
        · rcases z.2 with y | y
          · exact absurd y c9
          · exact absurd y.2 cl
        · exfalso
          have z : (if d.2.2.1 = 9 then n else d.2.2.1) = 9 := z
          by_cases cd : d.2.2.1 = 9
          · rw [if_pos cd] at z; omega
          · rw [if_neg cd] at z; exact cd z
def WR (P : PP) (C : CC) (r : Nat) : Nat := sumW (dday P C (fun t _ => rs (turnsN P C) r t) (turnsN P C)).2.2.2 5
theorem sumN_le {V : Nat → Nat} {b : Nat} : ∀ n, (∀ j, j < n → V j ≤ b) → sumN V n ≤ n * b := by
  intro n
  induction n with
  | zero => intro _; exact Nat.zero_le _
  | succ n ih =>
    intro h
    have := ih (fun j hj => h j (by omega))
    have := h n (by omega)
    show sumN V n + V n ≤ _
    rw [Nat.succ_mul]; omega
def SoR (P : PP) (C : CC) (R : Nat) (x y : Int32) : Prop := (x = -1 ∧ ∀ r, R ≤ r → r < 4 ^ turnsN P C → ¬ RowOk P C r (turnsN P C)) ∨ ∃ r0, R ≤ r0 ∧ r0 < 4 ^ turnsN P C ∧ RowOk P C r0 (turnsN P C) ∧ x = nI (WR P C r0) ∧ y = nI r0 ∧ ∀ r, R ≤ r → r < 4 ^ turnsN P C → RowOk P C r (turnsN P C) → WR P C r < WR P C r0 ∨ (WR P C r = WR P C r0 ∧ r0 ≤ r)
theorem SoR.done {P : PP} {C : CC} (w : WfP P) (wc : WfC P C) {x y : Int32} (h : SoR P C 0 x y) : x = nI (togW P C) ∧ ∃ R, R < 4 ^ turnsN P C ∧ y = nI R ∧ ∀ t, t < turnsN P C → togS P C t = rs (turnsN P C) R t := by
  have plt := PR_lt w wc (turnsN P C) (fw P C) (Nat.le_refl _)
  have pmod : PR P C (turnsN P C) (fw P C) % 4 ^ turnsN P C = PR P C (turnsN P C) (fw P C) := Nat.mod_eq_of_lt plt
  obtain ⟨pv, pt⟩ := PR_val w wc (turnsN P C) (fw P C) (PR P C (turnsN P C) (fw P C)) (Nat.le_refl _) pmod
  have prow := (row_all w wc (PR P C (turnsN P C) (fw P C))).1.mpr pv
  have psum := (row_all w wc (PR P C (turnsN P C) (fw P C))).2 prow
  obtain ⟨pd1, pd2, -⟩ := plan_day w wc pmod (turnsN P C) (Nat.le_refl _)
  rcases h with ⟨-, hno⟩ | ⟨r0, -, hr0, ok0, e, e2, hle⟩
  · exact absurd prow (hno _ (Nat.zero_le _) plt)
  · have v0 := (row_all w wc r0).1.mp ok0
    have t0 := (row_all w wc r0).2 ok0
    obtain ⟨c1, c2⟩ := row_cmp w wc r0 (turnsN P C) (fw P C) (Nat.le_refl _) v0
    rw [Nat.mod_eq_of_lt hr0] at c2
    have le1 := hle _ (Nat.zero_le _) plt prow
    unfold WR at le1
    have same : r0 = PR P C (turnsN P C) (fw P C) := by
      rcases Nat.lt_trichotomy r0 (PR P C (turnsN P C) (fw P C)) with z | z | z
      · have := c2 z; omega
      · exact z
      · omega
    subst same
    refine ⟨?_, _, plt, e2, fun t ht => pd2 t ht⟩
    rw [e]
    unfold WR togW
    rw [pd1]
theorem SoR.spl {P : PP} {C : CC} {R : Nat} {Q : Nat → Prop} (hR : Q R) (h : ∀ r, R + 1 ≤ r → r < 4 ^ turnsN P C → Q r) : ∀ r, R ≤ r → r < 4 ^ turnsN P C → Q r := fun r h1 h2 => by
  by_cases c : r = R
  · rw [c]; exact hR
  · exact h r (by omega) h2
theorem SoR.no {P : PP} {C : CC} {R : Nat} {x y : Int32} (h : SoR P C (R + 1) x y) (hn : ¬ RowOk P C R (turnsN P C)) : SoR P C R x y := by
  rcases h with ⟨h1, h2⟩ | ⟨r0, h1, h2, h3, h4, h5, h6⟩
  · exact Or.inl ⟨h1, SoR.spl hn h2⟩
  · exact Or.inr ⟨r0, by omega, h2, h3, h4, h5, SoR.spl (fun z => absurd z hn) h6⟩
theorem WR_lt {P : PP} {C : CC} (w : WfP P) (wc : WfC P C) {r : Nat} (h : RowOk P C r (turnsN P C)) : WR P C r < 1000 := by
  have wl := worth_lt w wc (row_ok h) (Nat.le_refl (turnsN P C))
  have := sumN_le (V := (dday P C (fun t _ => rs (turnsN P C) r t) (turnsN P C)).2.2.2) (b := 54) 5 (fun j _ => wl j)
  unfold WR
  rw [← sumN_W]; omega
theorem SoR.yes {P : PP} {C : CC} (w : WfP P) (wc : WfC P C) {R : Nat} {x y : Int32} (h : SoR P C (R + 1) x y) (hR : RowOk P C R (turnsN P C)) (hlt : R < 4 ^ turnsN P C) : (nI (WR P C R) < x → SoR P C R x y) ∧ (¬ nI (WR P C R) < x → SoR P C R (nI (WR P C R)) (nI R)) := by
  have b0 := WR_lt w wc hR
  rcases h with ⟨rfl, h2⟩ | ⟨r0, h1, h2, h3, rfl, rfl, h6⟩
  · refine ⟨fun z => ?_, fun _ => Or.inr ⟨R, Nat.le_refl _, hlt, hR, rfl, rfl, SoR.spl (fun _ => Or.inr ⟨rfl, Nat.le_refl _⟩) (fun r q1 q2 q3 => absurd q3 (h2 r q1 q2))⟩⟩
    rw [Int32.lt_iff_toInt_lt, tn1, nI_toInt (by omega)] at z
    omega
  · have b1 := WR_lt w wc h3
    refine ⟨fun z => ?_, fun z => ?_⟩
    · have z := (nI_ltI (by omega) (by omega)).mp z
      exact Or.inr ⟨r0, by omega, h2, h3, rfl, rfl, SoR.spl (fun _ => Or.inl z) h6⟩
    · have z : ¬ WR P C R < WR P C r0 := fun y => z (nI_lt y (by omega))
      refine Or.inr ⟨R, Nat.le_refl _, hlt, hR, rfl, rfl, SoR.spl (fun _ => Or.inr ⟨rfl, Nat.le_refl _⟩) (fun r q1 q2 q3 => ?_)⟩
      have := h6 r q1 q2 q3
      omega
/-- one row -/
theorem rowL {sL : Nat} {a0 : Nat → Int32} (k85 : (Nat → Int32) × Int32 × HS × Nat → Option Int32) (k304 : Int32 × Int32 × Int32 × Nat → Option Int32) {a2 a3 : Nat → Int32} {x5 x9 : Int32} {a11 a12 a13 : Nat → Int32} {x15 x16 : Int32} {σ : HS} {g : Nat} {P : PP} {C : CC} {R : Nat} (hL : LwA a2 a3 P C) (w : WfP P) (wc : WfC P C) (hR : R < 4 ^ turnsN P C) (hg : g + 1 < 80000)
    (hK : ∀ g', g' ≤ g + 1 → (¬ RowOk P C R (turnsN P C) → k304 (x15, x16, dn R, g') = some 1) ∧ (RowOk P C R (turnsN P C) → (nI (WR P C R) < x15 → k304 (x15, x16, dn R, g') = some 1) ∧ (¬ nI (WR P C R) < x15 → k304 (nI (WR P C R), nI R, dn R, g') = some 1))) :
    g_law_328 sL a0 k85 k304 a2 a3 (nI (pn P)) x5 x9 (nI (turnsN P C)) a11 a12 a13 x15 x16 (nI R) σ g ((fun _ => 0), nI R, 1, nI (turnsN P C) - 1) = some 1 := by
  have h2 := hL.1
  have h4 := hL.2.1
  have h5 := w.1
  obtain ⟨tb1, tb2⟩ := turnsB hL
  have p4 := pow4 (turnsN P C) (by omega)
  rw [dn_d (by omega)]
  unfold g_law_328
  refine wl_to (fun s : (Nat → Int32) × Int32 × Int32 × Int32 => ∃ m, m ≤ turnsN P C ∧ s.2.2.2 = dn m ∧ s.2.1 = nI (R / 4 ^ (turnsN P C - m)) ∧ (∀ t, m ≤ t → t < turnsN P C → s.1 t = cd (rs (turnsN P C) R t)) ∧ ((s.2.2.1 = 1 ∧ ∀ t, m ≤ t → t < turnsN P C → rs (turnsN P C) R t = 9 ∨ rs (turnsN P C) R t < pw P (who P C t)) ∨ (s.2.2.1 = 0 ∧ ¬ ∀ t, t < turnsN P C → rs (turnsN P C) R t = 9 ∨ rs (turnsN P C) R t < pw P (who P C t)))) (fun s => if s.2.2.2 < 0 then 0 else s.2.2.2.toNatClampNeg + 1) _ _ ⟨turnsN P C, Nat.le_refl _, rfl, by rw [Nat.sub_self, Nat.pow_zero, Nat.div_one], fun t h1 h3 => by omega, Or.inl ⟨rfl, fun t h1 h3 => by omega⟩⟩ (by
    show (if dn (turnsN P C) < 0 then 0 else (dn (turnsN P C)).toNatClampNeg + 1) < _
    have := dn_1 (turnsN P C - 1)
    rw [Nat.sub_add_cancel (by omega)] at this
    rw [this, if_neg (nI_pos (by omega)), nI_clamp (by omega)]; omega) ?_
  rintro k328 ⟨a18, x19, x20, x21⟩ ⟨m, hm, e1, e2, e3, e4⟩ ih
  have e1 : x21 = dn m := e1
  have e2 : x19 = nI (R / 4 ^ (turnsN P C - m)) := e2
  subst e1 e2
  have e3 : ∀ t, m ≤ t → t < turnsN P C → a18 t = cd (rs (turnsN P C) R t) := e3
  have e4 : (x20 = 1 ∧ ∀ t, m ≤ t → t < turnsN P C → rs (turnsN P C) R t = 9 ∨ rs (turnsN P C) R t < pw P (who P C t)) ∨ (x20 = 0 ∧ ¬ ∀ t, t < turnsN P C → rs (turnsN P C) R t = 9 ∨ rs (turnsN P C) R t < pw P (who P C t)) := e4
  have r9 := rs_39 (turnsN P C) R
  dsimp only
  unfold g_law_328_b g_law_470
  cases m with
  | zero =>
    rw [dn_0, if_pos m1_neg, dn_s (by omega)]
    rcases e4 with ⟨rfl, y4⟩ | ⟨rfl, y4⟩
    · have hv : ∀ t, t < turnsN P C → rs (turnsN P C) R t = 9 ∨ rs (turnsN P C) R t < pw P (who P C t) := fun t ht => y4 t (Nat.zero_le _) ht
      obtain ⟨r, r1, r2⟩ := dayL hL w wc wc.2.1 hv (fun t ht => e3 t (Nat.zero_le _) ht)
      have r2 : DayD r P C (fun t _ => rs (turnsN P C) R t) (turnsN P C) := r2
      obtain ⟨r3, r4, r5⟩ := r2
      have ok := dok w wc (sd := fun t _ => rs (turnsN P C) R t) (fun t x ht _ => hv t ht) (turnsN P C) (Nat.le_refl _)
      have wl := worth_lt w wc (sd := fun t _ => rs (turnsN P C) R t) (fun t x ht _ => hv t ht) (Nat.le_refl (turnsN P C))
      have iff9 : RowOk P C R (turnsN P C) ↔ _ := hd_nine (rs (turnsN P C) R) (turnsN P C) (by omega) hv
      have eW : WR P C R = sumN (dday P C (fun t _ => rs (turnsN P C) R t) (turnsN P C)).2.2.2 (pn P) := by
        rw [sumN_W]
        exact sumW_z _ (pn P) ok.2.2.2.2 5 h5
      rw [if_neg n10, ct2, hL.2.2.2.2.1, r1, bd_s, if_neg (by omega)]
      unfold g_law_423
      refine wl_to (fun s : Int32 × Int32 => ∃ l, l ≤ pn P ∧ s = (nI (sumN (dday P C (fun t _ => rs (turnsN P C) R t) (turnsN P C)).2.2.2 l), nI l)) (fun s => 10 - s.2.toNatClampNeg) _ _ ⟨0, by omega, rfl⟩ (by show 10 - _ < _; omega) ?_
      rintro k423 _ ⟨l, hl, rfl⟩ ih2
      dsimp only
      unfold g_law_423_b g_law_470
      by_cases cl : pn P ≤ l
      · have : l = pn P := by omega
        subst this
        rw [if_pos (nI_le cl (by omega)), ct1, r3, ← eW, dn_s (by omega)]
        have ok3 : (dday P C (fun t _ => rs (turnsN P C) R t) (turnsN P C)).2.2.1 = 9 ∨ (dday P C (fun t _ => rs (turnsN P C) R t) (turnsN P C)).2.2.1 < turnsN P C := ok.2.2.1
        generalize (dday P C (fun t _ => rs (turnsN P C) R t) (turnsN P C)).2.2.1 = c at iff9 ok3
        by_cases c9 : c = 9
        · subst c9
          rw [cd_9, if_neg (show ¬ (0 : Int32) ≤ -9 by decide)]
          have hk := (hK (g + 1) (by omega)).2 (iff9.mpr rfl)
          by_cases cc : nI (WR P C R) < x15
          · rw [if_pos cc]; exact hk.1 cc
          · rw [if_neg cc]; exact hk.2 cc
        · have : c < 9 := by omega
          rw [cd_z this, if_pos (nI_pos' (by omega))]
          exact (hK (g + 1) (by omega)).1 (fun z => c9 (iff9.mp z))
      · have := wl l
        rw [if_neg (nI_ge (by omega) (by omega)), le3, ix_in (by omega) (by omega), nI_clamp (by omega), r5 l (by omega), nI_add, nI_1]
        refine ih2 _ ⟨l + 1, by omega, rfl⟩ ?_
        show 10 - (nI (l + 1)).toNatClampNeg < 10 - (nI l).toNatClampNeg
        rw [nI_clamp (by omega), nI_clamp (by omega)]; omega
    · rw [if_pos rfl]
      refine (hK g (by omega)).1 (fun z => y4 (fun t ht => ?_))
      rcases z t ht with y | y
      · exact Or.inl y
      · exact Or.inr y.1
  | succ m =>
    have mu : (if dn m < 0 then 0 else (dn m).toNatClampNeg + 1) < if nI m < 0 then 0 else (nI m).toNatClampNeg + 1 := by
      rw [if_neg (nI_pos (by omega)), nI_clamp (by omega)]
      cases m with
      | zero => rw [dn_0, if_pos m1_neg]; omega
      | succ m => rw [dn_1, if_neg (nI_pos (by omega)), nI_clamp (by omega)]; omega
    have dl := Nat.div_le_self R (4 ^ (turnsN P C - (m + 1)))
    have er : rs (turnsN P C) R m = und (R / 4 ^ (turnsN P C - (m + 1)) % 4) := by
      unfold rs
      rw [show turnsN P C - 1 - m = turnsN P C - (m + 1) by omega]
    have d4 := Nat.mod_lt (R / 4 ^ (turnsN P C - (m + 1))) (show 4 > 0 by omega)
    have en : R / 4 ^ (turnsN P C - (m + 1)) / 4 = R / 4 ^ (turnsN P C - m) := by
      rw [Nat.div_div_eq_div_mul, ← Nat.pow_succ, show (turnsN P C - (m + 1)).succ = turnsN P C - m from by omega]
    have hwho := who_lt wc (t := m) (by omega)
    have hpw := (hL.2.2.2.2.2.2.1 _ hwho).1
    have hw3 := (w.2.2.2 _ hwho).2.2.1
    rw [dn_1, if_neg (nI_pos (by omega)), show nI (R / 4 ^ (turnsN P C - (m + 1))) / (4 : Int32) = nI (R / 4 ^ (turnsN P C - (m + 1)) / 4) from pk_div (d := 4) (by omega) (by omega) (by omega)]
    have em : nI (R / 4 ^ (turnsN P C - (m + 1))) - nI (R / 4 ^ (turnsN P C - (m + 1)) / 4) * (4 : Int32) = nI (R / 4 ^ (turnsN P C - (m + 1)) % 4) := by
      rw [show nI (R / 4 ^ (turnsN P C - (m + 1)) / 4) = nI (R / 4 ^ (turnsN P C - (m + 1))) / (4 : Int32) from (pk_div (d := 4) (by omega) (by omega) (by omega)).symm]
      exact pk_rem (d := 4) (by omega) (by omega) (by omega)
    rw [em]
    have go : ∀ z : Int32, z = cd (rs (turnsN P C) R m) → g_law_354 sL a0 k85 k304 k328 a2 a3 (nI (pn P)) x5 x9 (nI (turnsN P C)) a11 a12 a13 x15 x16 (nI R) a18 (nI (R / 4 ^ (turnsN P C - (m + 1)))) x20 (nI m) z (nI m) σ g = some 1 := by
      rintro _ rfl
      unfold g_law_354 g_law_389 g_law_390
      rw [show nI (R / 4 ^ (turnsN P C - (m + 1))) / (4 : Int32) = nI (R / 4 ^ (turnsN P C - (m + 1)) / 4) from pk_div (d := 4) (by omega) (by omega) (by omega), en]
      have fin : ∀ v : Int32, ((v = 1 ∧ ∀ t, m ≤ t → t < turnsN P C → rs (turnsN P C) R t = 9 ∨ rs (turnsN P C) R t < pw P (who P C t)) ∨ (v = 0 ∧ ¬ ∀ t, t < turnsN P C → rs (turnsN P C) R t = 9 ∨ rs (turnsN P C) R t < pw P (who P C t))) → k328 (upd a18 m (cd (rs (turnsN P C) R m)), nI (R / 4 ^ (turnsN P C - m)), v, nI m + (-1)) = some 1 := by
        intro v hv
        rw [dn_s (by omega)]
        refine ih _ ⟨m, by omega, rfl, rfl, fun t h1 h3 => ?_, hv⟩ mu
        show upd a18 m _ t = _
        by_cases ct : t = m
        · rw [ct, upS]
        · rw [upN ct]; exact e3 t (by omega) h3
      rw [ix_in (by omega) (by omega), bd_s, nI_clamp (by omega)]
      rcases e4 with ⟨rfl, y4⟩ | ⟨rfl, y4⟩
      · rw [if_neg n10, ixc (by omega) (by omega), whoL hL (by omega), bd_s, le9, ix_in (by omega) (by omega), nI_clamp (by omega), hpw, upS]
        by_cases cv : rs (turnsN P C) R m = 9 ∨ rs (turnsN P C) R m < pw P (who P C m)
        · have ng : ¬ nI (pw P (who P C m)) ≤ cd (rs (turnsN P C) R m) := by
            rcases cv with z | z
            · rw [z, cd_9, Int32.le_iff_toInt_le, tn9, nI_toInt (by omega)]; omega
            · rw [cd_z (by omega)]; exact nI_ge z (by omega)
          rw [if_neg ng]
          refine fin 1 (Or.inl ⟨rfl, fun t h1 h3 => ?_⟩)
          by_cases ct : t = m
          · rw [ct]; exact cv
          · exact y4 t (by omega) h3
        · have := r9 m
          rw [if_pos (by rw [cd_z (by omega)]; exact nI_le (by omega) (by omega))]
          exact fin 0 (Or.inr ⟨rfl, fun z => cv (z m (by omega))⟩)
      · rw [if_pos rfl]
        exact fin 0 (Or.inr ⟨rfl, y4⟩)
    by_cases c3 : R / 4 ^ (turnsN P C - (m + 1)) % 4 = 3
    · rw [if_pos (by rw [c3]; rfl)]
      exact go _ (by rw [er, c3]; rfl)
    · rw [if_neg (show ¬ nI (R / 4 ^ (turnsN P C - (m + 1)) % 4) = (3 : Int32) from fun z => c3 ((nIc (c := 3) (by omega) (by omega)).mp z))]
      refine go _ ?_
      rw [er]
      unfold und
      rw [if_neg c3, cd_z (by omega)]
