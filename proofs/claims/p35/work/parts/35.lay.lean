/-! the class's plan for each, ahead -/
theorem each_c {σ : HS} {m : Nat} {P : PP} {C : CC} (rp : RepP σ P) (rc : RepC σ 20 P C) (w : WfP P) (wc : WfC P C) (hm : MkAt σ 20 m) (hb : m < 900000) : ∃ σ', f5_makeForEach σ = some σ' ∧ PlanAt σ' 20 P C ∧ MkAt σ' 20 (m + 1) ∧ (∀ b, b ≠ 22 → b ≠ 23 → b ≠ 25 → b ≠ 26 → σ'.1 b = σ.1 b) ∧ ∀ b, b ≠ 24 → σ'.2 b = σ.2 b := by
  have h5 := w.1
  have h99 := w.2.1
  have h6 := turns_le C w
  unfold f5_makeForEach
  obtain ⟨σ0, a, ha, q1, q2, q3, q4, q5, q6⟩ := beginMk (by omega) rp rc w wc hm
  rw [q1, bd_s]
  have rp0 : RepP σ0 P := rp.congr (fun x z1 z2 => ⟨q4 x (by omega), by rw [q5]⟩)
  have rc0 : RepC σ0 20 P C := rc.congr (q4 20 (by omega)) (q4 21 (by omega))
  unfold f5_makeForEach_6
  let Opn : HS → Nat → Nat → Prop := fun σ t x => ∃ (n : Nat) (L : Nat → Nat), FrP 20 σ0 σ ∧ OpenInv σ 20 (a + 1) n L ∧ (∀ i, i < n → L i / 100 < turnsN P C ∧ L i % 100 ≤ pj P ∧ L i / 100 ≤ t) ∧ (∀ i k, i ≤ k → k < n → L i / 100 ≤ L k / 100) ∧ ∀ t' x', x' ≤ pj P → (t' < t ∨ (t' = t ∧ x' < x)) → t' < turnsN P C → ∃ k, k < n ∧ L k = 100 * t' + x'
  refine wl_fuel (body := fun k6 p => f5_makeForEach_6_b k6 p.1 p.2) (fun p : Int32 × HS => ∃ t, t ≤ turnsN P C ∧ p.1 = nI t ∧ Opn p.2 t 0) (fun p => 10 - p.1.toNatClampNeg) (fun r : HS => PlanAt r 20 P C ∧ MkAt r 20 (m + 1) ∧ (∀ b, b ≠ 22 → b ≠ 23 → b ≠ 25 → b ≠ 26 → r.1 b = σ.1 b) ∧ ∀ b, b ≠ 24 → r.2 b = σ.2 b) (0, σ0) ⟨0, by omega, rfl, 0, fun _ => 0, FrP.rfl' _ _, q2, fun i hi => absurd hi (Nat.not_lt_zero i), fun i k _ hi => absurd hi (Nat.not_lt_zero k), fun t' x' _ h => by omega⟩ (by show 10 - _ < _; omega) ?_
  rintro kk ⟨x6, σ2⟩ ⟨t, ht, e, op⟩ ih
  have e : x6 = nI t := e
  subst e
  have op : Opn σ2 t 0 := op
  show ∃ r, f5_makeForEach_6_b kk (nI t) σ2 = some r ∧ _
  unfold f5_makeForEach_6_b f5_makeForEach_57
  obtain ⟨n, L, o1, o2, o3, o4, o5⟩ := id op
  have h8 : σ2.1 22 8 = nI (turnsN P C) := by rw [o1.2.2 8 (by omega)]; exact q3
  rw [h8]
  by_cases c : turnsN P C ≤ t
  · have : t = turnsN P C := by omega
    subst this
    rw [if_pos (nI_le c (by omega))]
    have cl : Closed P C n L := ⟨fun i hi => ⟨(o3 i hi).1, (o3 i hi).2.1⟩, o4, fun i hi hl y hy => by
      have := (o3 i hi).2.1
      have hy2 : y ≤ pj P := by
        rcases hy with z | ⟨q, q1, q2, z⟩
        · rw [z]; exact bh_le this
        · rw [z]; exact bh_le (by omega)
      exact o5 _ y hy2 (Or.inl (by omega)) hl⟩
    obtain ⟨σ3, v1, v2, v3, v4⟩ := settleAll_c (m := 0) (by omega) (o1.rp (by omega) rp0) (o1.rc rc0) w wc (Or.inl rfl) o2 h8 cl
    have v1 : f5_settleAll 20 0 σ2 = some σ3 := v1
    rw [v1, bd_s]
    refine ⟨_, rfl, fun t' x' ht' hx' => ?_, ?_, fun b b1 b2 b3 b4 => ?_, fun b b1 => ?_⟩
    · obtain ⟨k, hk, ek⟩ := o5 t' x' hx' (Or.inl ht') ht'
      have := v4 k hk
      unfold EntAt at this
      rw [ek, show (100 * t' + x') / 100 = t' by omega, show (100 * t' + x') % 100 = x' by omega] at this
      rw [show t' * 100 + x' = 100 * t' + x' by omega]
      exact this
    · exact (o2.mk.congr (σ' := σ3) (by rw [v2 _ (by omega)]) (v2 _ (by omega))).mono (by omega)
    · rw [v2 b (by omega), o1.1 b (by omega) (by omega) (by omega), q4 b (by omega)]
    · rw [v3 b (by omega), o1.2.1, q5]
  · rw [if_neg (nI_ge (by omega) (by omega)), if_neg (show ¬ (6 : Int32) ≤ nI t from nI_ge (b := 6) (by omega) (by omega))]
    unfold f5_makeForEach_22
    refine wl_fuel (body := fun k22 p => f5_makeForEach_22_b kk k22 (nI t) p.1 p.2) (fun p : Int32 × HS => ∃ x, x ≤ pj P + 1 ∧ p.1 = nI x ∧ Opn p.2 t x) (fun p => 200 - p.1.toNatClampNeg) _ (0, σ2) ⟨0, by omega, rfl, op⟩ (by show 200 - _ < _; omega) ?_
    rintro kk2 ⟨x7, σ3⟩ ⟨x, hx, e, op3⟩ ih2
    have e : x7 = nI x := e
    subst e
    have op3 : Opn σ3 t x := op3
    show ∃ r, f5_makeForEach_22_b kk kk2 (nI t) (nI x) σ3 = some r ∧ _
    unfold f5_makeForEach_22_b f5_makeForEach_51
    obtain ⟨n3, L3, p1, p2, p3, p4, p5⟩ := op3
    rw [(p1.rp (by omega) rp0).2.1]
    by_cases cx : pj P < x
    · have : x = pj P + 1 := by omega
      subst this
      rw [if_pos (nI_lt cx (by omega)), nI_1]
      refine ih _ ⟨t + 1, by omega, rfl, n3, L3, p1, p2, fun i hi => ⟨(p3 i hi).1, (p3 i hi).2.1, by have := (p3 i hi).2.2; omega⟩, p4, fun t' x' hx' h hT => p5 t' x' hx' (by omega) hT⟩ ?_
      show 10 - (nI (t + 1)).toNatClampNeg < 10 - (nI t).toNatClampNeg
      rw [nI_clamp (by omega), nI_clamp (by omega)]; omega
    · rw [if_neg (nI_nlt (by omega) (by omega)), if_neg (show ¬ (100 : Int32) ≤ nI x from nI_ge (b := 100) (by omega) (by omega))]
      obtain ⟨σ4, n4, L4, u1, u2, u3, u4, u5, u6, u7, u8⟩ := open_c (T := turnsN P C) p2 (by omega) (by rw [p1.2.2 8 (by omega)]; exact q3) h6 (show x ≤ 99 by omega) (show t ≤ 6 by omega)
      rw [u1, bd_s, nI_1]
      refine ih2 _ ⟨x + 1, by omega, rfl, n4, L4, p1.tr u2, u3, fun i hi => ?_, fun i k hik hk => ?_, fun t' x' hx' h hT => ?_⟩ ?_
      · rcases Nat.lt_or_ge i n3 with z | z
        · rw [u6 i z]; exact p3 i z
        · rw [(u8 i z hi).1]; omega
      · rcases Nat.lt_or_ge k n3 with z | z
        · rw [u6 i (by omega), u6 k z]; exact p4 i k hik z
        · rw [(u8 k z hk).1]
          rcases Nat.lt_or_ge i n3 with y | y
          · rw [u6 i y]; have := (p3 i y).2.2; omega
          · rw [(u8 i y (by omega)).1]; omega
      · by_cases ce : t' = t ∧ x' = x
        · rw [ce.1, ce.2]; exact u7 (by omega)
        · obtain ⟨k, k1, k2⟩ := p5 t' x' hx' (by omega) hT
          exact ⟨k, by omega, by rw [u6 k k1]; exact k2⟩
      · show 200 - (nI (x + 1)).toNatClampNeg < 200 - (nI x).toNatClampNeg
        rw [nI_clamp (by omega), nI_clamp (by omega)]; omega
theorem ahead_c {j : Nat} {σ τ : HS} {P : PP} {C : CC} (hB : InvB j σ τ P C) (hj : j < 512) : ∃ σ', f8_planAhead σ = some σ' ∧ InvB (j + 1) σ' τ P C ∧ PlanAt σ' 20 P C := by
  obtain ⟨w, wc, rp, rc, rm, rs, rl, a8, a9, b1, b2, b3, b4⟩ := id hB
  unfold f8_planAhead
  rcases a8 with c | ⟨c, pa⟩
  · rw [if_pos c]
    obtain ⟨σ1, v1, v2, v3, v4, v5⟩ := each_c rp rc w wc b1 (by omega)
    rw [v1, bd_s]
    refine ⟨_, rfl, hB.mk' (fun a ha => by rw [uI_other (by omega), v4 a (by omega) (by omega) (by omega) (by omega)]) (v5 11 (by omega)) ⟨by rw [uI_at, if_neg (by omega), v4 0 (by omega) (by omega) (by omega) (by omega)], by rw [uI_at, if_neg (by omega), v4 0 (by omega) (by omega) (by omega) (by omega)]⟩ (Or.inr ⟨by rw [uI_at, if_pos ⟨rfl, rfl⟩], v2.congr (uI_other (by omega) _ _) rfl⟩) (a9.congr (by rw [uI_other (by omega), v4 44 (by omega) (by omega) (by omega) (by omega)]) (by rw [uI_other (by omega), v4 45 (by omega) (by omega) (by omega) (by omega)]) (by rw [uI_other (by omega), v4 46 (by omega) (by omega) (by omega) (by omega)])) ((v3.congr (by rw [uI_other (by omega)]) (uI_other (by omega) _ _)).mono (by omega)) ((b2.congr (by rw [uI_other (by omega), v4 32 (by omega) (by omega) (by omega) (by omega)]) (by rw [uI_other (by omega), v4 36 (by omega) (by omega) (by omega) (by omega)])).mono (by omega)) (fun _ _ => rfl) (fun _ _ _ => rfl), v2.congr (uI_other (by omega) _ _) rfl⟩
  · rw [if_neg (by rw [c]; exact n10)]
    exact ⟨σ, rfl, hB.mono, pa⟩
/-! a day by a plan -/
theorem go_c {σ : HS} {g : Nat} {P : PP} {C : CC} {sd : Nat → Nat → Nat} {x1 : Int32} {c : Nat} (hg : 20 ≤ g) (rp : RepP σ P) (rc : RepC σ g P C) (w : WfP P) (wc : WfC P C) (hs : SaidOk P C sd) (hW : ∀ t, t < turnsN P C → nI t ≠ x1 → σ.1 (g + 3) (100 * t + (dday P C sd t).1) = cd (sd t (dday P C sd t).1)) (hF : ∀ t, t < turnsN P C → nI t = x1 → sd t (dday P C sd t).1 = c) : ∃ σ', f1_goForced g x1 (cd c) σ = some σ' ∧ FrC g σ σ' ∧ DayC σ' g P C sd (turnsN P C) := by
  have h99 := w.2.1
  have h6 := turns_le C w
  unfold f1_goForced
  obtain ⟨σ1, q1, q2, q3⟩ := begin_c hg rp rc w wc sd
  rw [q1, bd_s]
  unfold f1_goForced_6
  refine wl_fuel (body := fun k6 p => f1_goForced_6_b g k6 x1 (cd c) p.1 p.2) (fun p : Int32 × HS => ∃ t, t ≤ turnsN P C ∧ p.1 = nI t ∧ FrC g σ p.2 ∧ DayC p.2 g P C sd t) (fun p => 10 - p.1.toNatClampNeg) (fun r : HS => FrC g σ r ∧ DayC r g P C sd (turnsN P C)) (0, σ1) ⟨0, by omega, rfl, q2, q3⟩ (by show 10 - _ < _; omega) ?_
  rintro kk ⟨x6, σ2⟩ ⟨t, ht, e, g1, g3⟩ ih
  have e : x6 = nI t := e
  subst e
  have g1 : FrC g σ σ2 := g1
  have g3 : DayC σ2 g P C sd t := g3
  show ∃ r, f1_goForced_6_b g kk x1 (cd c) (nI t) σ2 = some r ∧ _
  unfold f1_goForced_6_b f1_goForced_45
  have rp2 := g1.rp hg rp
  have rc2 := g1.rc rc
  rw [turns_g rp2 rc2 w wc, bd_s]
  by_cases cT : turnsN P C ≤ t
  · have : t = turnsN P C := by omega
    subst this
    rw [if_pos (nI_le cT (by omega))]
    exact ⟨_, rfl, g1, g3⟩
  · rw [if_neg (nI_ge (by omega) (by omega)), if_neg (show ¬ (6 : Int32) ≤ nI t from nI_ge (b := 6) (by omega) (by omega))]
    obtain ⟨σ3, v1, v2, v3⟩ := speak_c (t := t) hg rp2 rc2 w wc hs (by omega) g3
    have go : ∀ z : Int32, z = cd (sd t (dday P C sd t).1) → ∃ r, (bd (f1_speak g z σ2) fun r1 => kk (nI t + 1, r1)) = some r ∧ FrC g σ r ∧ DayC r g P C sd (turnsN P C) := by
      rintro z rfl
      rw [v1, bd_s, nI_1]
      refine ih _ ⟨t + 1, by omega, rfl, g1.tr v2, v3⟩ ?_
      show 10 - (nI (t + 1)).toNatClampNeg < 10 - (nI t).toNatClampNeg
      rw [nI_clamp (by omega), nI_clamp (by omega)]; omega
    by_cases cx : nI t = x1
    · rw [if_pos cx]
      exact go _ (by rw [hF t (by omega) cx])
    · have ok := (dok w wc hs t ht).1
      rw [if_neg cx]
      unfold f5_wordAt
      rw [g3.2.1, e100s, bd_s, at_in (by omega) (by omega), bd_s, bd_s]
      exact go _ (by rw [← hW t (by omega) cx]; exact congrFun (g1.1 (g + 3) (by omega) (by omega) (by omega)) _)
theorem go_m {τ : HS} {P : PP} {C : CC} {sd : Nat → Nat → Nat} {x1 : Int32} {c : Nat} (rm : RepM τ P C) (w : WfP P) (wc : WfC P C) (hs : SaidOk P C sd) (hW : ∀ t, t < turnsN P C → nI t ≠ x1 → τ.1 15 (100 * t + (dday P C sd t).1) = cd (sd t (dday P C sd t).1)) (hF : ∀ t, t < turnsN P C → nI t = x1 → sd t (dday P C sd t).1 = c) : ∃ τ', f9_goDay x1 (cd c) τ = some τ' ∧ FrM τ τ' ∧ DayM τ' P C sd (turnsN P C) := by
  have h99 := w.2.1
  have h6 := turns_le C w
  unfold f9_goDay
  obtain ⟨τ1, q1, q2, q3⟩ := begin_m rm w wc (cl C) sd
  rw [q1, bd_s]
  unfold f9_goDay_6
  refine wl_fuel (body := fun k6 p => f9_goDay_6_b k6 x1 (cd c) p.1 p.2) (fun p : Int32 × HS => ∃ t, t ≤ turnsN P C ∧ p.1 = nI t ∧ FrM τ p.2 ∧ DayM p.2 P C sd t) (fun p => 10 - p.1.toNatClampNeg) (fun r : HS => FrM τ r ∧ DayM r P C sd (turnsN P C)) (0, τ1) ⟨0, by omega, rfl, q2, q3⟩ (by show 10 - _ < _; omega) ?_
  rintro kk ⟨x6, τ2⟩ ⟨t, ht, e, g1, g3⟩ ih
  have e : x6 = nI t := e
  subst e
  have g1 : FrM τ τ2 := g1
  have g3 : DayM τ2 P C sd t := g3
  show ∃ r, f9_goDay_6_b kk x1 (cd c) (nI t) τ2 = some r ∧ _
  unfold f9_goDay_6_b f9_goDay_41
  have rm2 := g1.rm rm
  rw [turns_m rm2 w wc, bd_s]
  by_cases cT : turnsN P C ≤ t
  · have : t = turnsN P C := by omega
    subst this
    rw [if_pos (nI_le cT (by omega))]
    exact ⟨_, rfl, g1, g3⟩
  · rw [if_neg (nI_ge (by omega) (by omega))]
    obtain ⟨τ3, v1, v2, v3⟩ := turn_m (t := t) rm2 w wc wc.2.1 hs (by omega) g3
    have v1 : f9_goTurn (nI t) (cd (sd t (dday P C sd t).1)) (nI (cl C)) τ2 = some τ3 := v1
    have go : ∀ z : Int32, z = cd (sd t (dday P C sd t).1) → ∃ r, (bd (f9_goTurn (nI t) z (τ2.1 0 3) τ2) fun r1 => kk (nI t + 1, r1)) = some r ∧ FrM τ r ∧ DayM r P C sd (turnsN P C) := by
      rintro z rfl
      rw [rm2.2.2.1, v1, bd_s, nI_1]
      refine ih _ ⟨t + 1, by omega, rfl, g1.tr v2, v3⟩ ?_
      show 10 - (nI (t + 1)).toNatClampNeg < 10 - (nI t).toNatClampNeg
      rw [nI_clamp (by omega), nI_clamp (by omega)]; omega
    by_cases cx : nI t = x1
    · rw [if_pos cx]
      exact go _ (by rw [hF t (by omega) cx])
    · have ok := (dok w wc hs t ht).1
      rw [if_neg cx, ix_in (by omega) (by omega), nI_clamp (by omega)]
      dsimp only
      rw [g3.1, e100, ix_in (by omega) (by omega), nI_clamp (by omega)]
      exact go _ (by rw [← hW t (by omega) cx]; exact congrFun (g1.1 15 (by omega) (by omega) (by omega) (by omega)) _)
