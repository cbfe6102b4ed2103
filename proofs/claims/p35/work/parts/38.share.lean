/-! share, dry -/
def away (P : PP) (C : CC) (sd : Nat → Nat → Nat) (k : Nat) : Nat → Nat
  | 0 => 0
  | t + 1 => away P C sd k t + (if who P C t = k ∧ sd t (dday P C sd t).1 ≠ 9 then pl P (3 * k + sd t (dday P C sd t).1) else 0)
theorem away_le {P : PP} {C : CC} (w : WfP P) (wc : WfC P C) {sd : Nat → Nat → Nat} (hs : SaidOk P C sd) (k : Nat) : ∀ t, t ≤ turnsN P C → away P C sd k t ≤ 60 * t := by
  intro t
  induction t with
  | zero => intro _; exact Nat.le_refl _
  | succ t ih =>
    intro ht
    have := ih (by omega)
    unfold away
    split
    · next c =>
      have h1 := hs t _ (by omega) (dok w wc hs t (by omega)).1
      have h2 := (w.2.2.2 _ (who_lt wc (show t < turnsN P C by omega))).2.2.2 (sd t (dday P C sd t).1) (by omega)
      rw [c.1] at h2
      omega
    · omega
theorem awayC {σ : HS} {P : PP} {C : CC} {sd : Nat → Nat → Nat} (rp : RepP σ P) (rc : RepC σ 20 P C) (w : WfP P) (wc : WfC P C) (hs : SaidOk P C sd) (dc : DayC σ 20 P C sd (turnsN P C)) {k : Nat} (hk : k < pn P) : f1_runAwayBy (nI k) σ = some (nI (away P C sd k (turnsN P C)), σ) := by
  have h5 := w.1
  have h6 := turns_le C w
  unfold f1_runAwayBy f1_runAwayBy_4
  refine wl_eq (fun p : Int32 × Int32 × HS => ∃ t, t ≤ turnsN P C ∧ p = (nI (away P C sd k t), nI t, σ)) (fun p => 10 - p.2.1.toNatClampNeg) _ _ ⟨0, by omega, rfl⟩ (by show 10 - _ < _; omega) ?_
  rintro k2 _ ⟨t, ht, rfl⟩ ih
  dsimp only
  unfold f1_runAwayBy_4_b f1_runAwayBy_56 f1_saidIn
  rw [dc.1]
  by_cases c : turnsN P C ≤ t
  · have : t = turnsN P C := by omega
    subst this
    rw [if_pos (nI_le c (by omega))]
  · have go : ∀ z : Nat, z = away P C sd k (t + 1) → k2 (nI z, nI t + 1, σ) = some (nI (away P C sd k (turnsN P C)), σ) := by
      rintro z rfl
      rw [nI_1]
      refine ih _ ⟨t + 1, by omega, rfl⟩ ?_
      show 10 - (nI (t + 1)).toNatClampNeg < 10 - (nI t).toNatClampNeg
      rw [nI_clamp (by omega), nI_clamp (by omega)]; omega
    have hw := who_lt wc (show t < turnsN P C by omega)
    have h1 := hs t _ (by omega) (dok w wc hs t ht).1
    have h3 := (w.2.2.2 _ hw).2.2.1
    rw [if_neg (nI_ge (by omega) (by omega)), if_neg (show ¬ (6 : Int32) ≤ nI t from nI_ge (b := 6) (by omega) (by omega)), whoIn_g rp rc w wc (by omega), bd_s]
    by_cases c1 : who P C t = k
    · rw [if_pos (by rw [c1]), at_in (by omega) (by omega), bd_s, bd_s, (dc.2.2.2.2.2 t (by omega)).1]
      dsimp only
      by_cases c9 : sd t (dday P C sd t).1 = 9
      · rw [if_pos (by rw [c9]; rfl)]
        exact go _ (by rw [away, if_neg (fun z => z.2 c9)]; omega)
      · rw [if_neg (cd_m9 (by omega)), at_in (by omega) (by omega), bd_s, bd_s, (dc.2.2.2.2.2 t (by omega)).1]
        dsimp only
        rw [cd_z (by omega), lengthOf_5 rp w hk (by rw [← c1]; omega), bd_s, nI_add]
        exact go _ (by rw [away, if_pos ⟨c1, c9⟩])
    · rw [if_neg (fun z => c1 ((nIc (by omega) (by omega)).mp z))]
      exact go _ (by rw [away, if_neg (fun z => c1 z.1)]; omega)
theorem gcd_step (a b : Nat) : Nat.gcd b (a % b) = Nat.gcd a b := by
  rw [Nat.gcd_comm a b, Nat.gcd_rec b a, Nat.gcd_comm]
theorem gcdC {a b : Nat} (ha : a ≤ 1000) (hb : b ≤ 99) (σ : HS) : f8_commonPart (nI a) (nI b) σ = some (nI (Nat.gcd a b), σ) := by
  unfold f8_commonPart f8_commonPart_7
  refine wl_eq (fun p : Int32 × Int32 × Int32 × HS => ∃ x y i, x ≤ 1000 ∧ y + i ≤ 99 ∧ Nat.gcd x y = Nat.gcd a b ∧ p = (nI x, nI y, nI i, σ)) (fun p => 200 - p.2.2.1.toNatClampNeg) _ _ ⟨a, b, 0, ha, by omega, rfl, rfl⟩ (by show 200 - _ < _; omega) ?_
  rintro k2 _ ⟨x, y, i, hx, hy, hg, rfl⟩ ih
  dsimp only
  unfold f8_commonPart_7_b
  by_cases c : 99 ≤ i
  · have y0 : y = 0 := by omega
    subst y0
    rw [Nat.gcd_zero_right] at hg
    rw [if_pos (show (99 : Int32) ≤ nI i from nI_le c (by omega)), hg]
  · rw [if_neg (show ¬ (99 : Int32) ≤ nI i from nI_ge (b := 99) (by omega) (by omega))]
    by_cases c2 : y = 0
    · subst c2
      rw [Nat.gcd_zero_right] at hg
      rw [if_pos (show nI 0 ≤ 0 from le00), hg]
    · rw [if_neg (nI_nle (by omega) (by omega)), if_neg (nI_ne0 (by omega) (by omega)), pk_rem (by omega) (by omega) (by omega), nI_1]
      have := Nat.mod_lt x (show 0 < y by omega)
      refine ih _ ⟨y, x % y, i + 1, by omega, by omega, by rw [gcd_step, hg], rfl⟩ ?_
      show 200 - (nI (i + 1)).toNatClampNeg < 200 - (nI i).toNatClampNeg
      rw [nI_clamp (by omega), nI_clamp (by omega)]; omega
theorem gcdM {a b : Nat} (ha : a ≤ 1000) (hb : b ≤ 99) (hg : 0 < Nat.gcd a b) (x4 : Int32) (τ : HS) : f9_told (lN a) (lN b) x4 τ = some (lN ((if x4 = 0 then a else b) / Nat.gcd a b), τ) := by
  unfold f9_told f9_told_6
  have gl : ∀ x y, x ≤ 1000 → Nat.gcd x y = Nat.gcd a b → y ≤ 1000 → Nat.gcd a b ≤ 1000 := fun x y hx e hy => by
    rw [← e]
    by_cases c : x = 0
    · subst c; rw [Nat.gcd_zero_left]; exact hy
    · exact Nat.le_trans (Nat.gcd_le_left y (by omega)) hx
  refine wl_eq (fun p : Int64 × Int64 × HS => ∃ x y, x ≤ 1000 ∧ y ≤ 1000 ∧ Nat.gcd x y = Nat.gcd a b ∧ p = (lN x, lN y, τ)) (fun p => p.2.1.toInt.toNat) _ _ ⟨a, b, ha, by omega, rfl, rfl⟩ (by show (lN b).toInt.toNat < _; rw [pk_lT (by omega)]; omega) ?_
  rintro k2 _ ⟨x, y, hx, hy, he, rfl⟩ ih
  dsimp only
  unfold f9_told_6_b f9_told_41
  by_cases c : y = 0
  · subst c
    rw [Nat.gcd_zero_right] at he
    subst he
    rw [if_pos (show lN 0 = 0 from rfl), if_neg (show ¬ lN (Nat.gcd a b) = 0 from fun z => by have := (pk_lEQ (b := 0) (by omega) (by omega)).mp z; omega)]
    by_cases c4 : x4 = 0
    · rw [if_pos c4, if_pos c4, pk_lDiv (by omega) hg (by omega)]
    · rw [if_neg c4, if_neg c4, if_neg (show ¬ lN (Nat.gcd a b) = 0 from fun z => by have := (pk_lEQ (b := 0) (by omega) (by omega)).mp z; omega), pk_lDiv (by omega) hg (by omega)]
  · have ne : ¬ lN y = 0 := fun z => c ((pk_lEQ (b := 0) (by omega) (by omega)).mp z)
    have := Nat.mod_lt x (show 0 < y by omega)
    rw [if_neg ne, if_neg ne, pk_lRem (by omega) (by omega) (by omega)]
    refine ih _ ⟨y, x % y, by omega, by omega, by rw [gcd_step, he], rfl⟩ ?_
    show (lN (x % y)).toInt.toNat < (lN y).toInt.toNat
    rw [pk_lT (by omega), pk_lT (by omega)]; omega
theorem awayM {τ : HS} {P : PP} {C : CC} {sd : Nat → Nat → Nat} (rm : RepM τ P C) (w : WfP P) (wc : WfC P C) (hs : SaidOk P C sd) (dm : DayM τ P C sd (turnsN P C)) {k : Nat} (hk : k < pn P) (x2 : Int32) (hg : 0 < Nat.gcd (away P C sd k (turnsN P C)) (pj P)) : f9_share_31 (nI k) x2 (0, 0, τ) = some (lN ((if x2 = 0 then away P C sd k (turnsN P C) else pj P) / Nat.gcd (away P C sd k (turnsN P C)) (pj P)), τ) := by
  have h5 := w.1
  have h99 := w.2.1
  have h6 := turns_le C w
  have al := fun t ht => away_le w wc hs k t ht
  unfold f9_share_31
  refine wl_eq (fun p : Int32 × Int32 × HS => ∃ t, t ≤ turnsN P C ∧ p = (nI (away P C sd k t), nI t, τ)) (fun p => 10 - p.2.1.toNatClampNeg) _ _ ⟨0, by omega, rfl⟩ (by show 10 - _ < _; omega) ?_
  rintro k2 _ ⟨t, ht, rfl⟩ ih
  dsimp only
  unfold f9_share_31_b f9_share_67
  have a1 := al t ht
  rw [turns_m rm w wc, bd_s]
  by_cases c : turnsN P C ≤ t
  · have : t = turnsN P C := by omega
    subst this
    dsimp only
    rw [if_pos (nI_le c (by omega)), rm.2.1, nI_l (by omega), nI_l (by omega), gcdM (by omega) h99 hg, bd_s]
  · have go : ∀ z : Nat, z = away P C sd k (t + 1) → k2 (nI z, nI t + 1, τ) = some (lN ((if x2 = 0 then away P C sd k (turnsN P C) else pj P) / Nat.gcd (away P C sd k (turnsN P C)) (pj P)), τ) := by
      rintro z rfl
      rw [nI_1]
      refine ih _ ⟨t + 1, by omega, rfl⟩ ?_
      show 10 - (nI (t + 1)).toNatClampNeg < 10 - (nI t).toNatClampNeg
      rw [nI_clamp (by omega), nI_clamp (by omega)]; omega
    have hw := who_lt wc (show t < turnsN P C by omega)
    have h1 := hs t _ (by omega) (dok w wc hs t ht).1
    have h3 := (w.2.2.2 _ hw).2.2.1
    rw [if_neg (nI_ge (by omega) (by omega)), who_m rm w wc (by omega), bd_s]
    by_cases c1 : who P C t = k
    · rw [if_pos (by rw [c1]), ix_in (by omega) (by omega), nI_clamp (by omega)]
      dsimp only
      rw [(dm.2.2.2.2 t (by omega)).1]
      by_cases c9 : sd t (dday P C sd t).1 = 9
      · rw [c9, cd_9, len_9, bd_s]
        show k2 (nI _ + nI 0, _, _) = _
        rw [nI_add]
        exact go _ (by rw [away, if_neg (fun z => z.2 c9)])
      · rw [cd_z (by omega), len_q rm w hk (by rw [← c1]; omega), bd_s, nI_add]
        exact go _ (by rw [away, if_pos ⟨c1, c9⟩])
    · rw [if_neg (fun z => c1 ((nIc (by omega) (by omega)).mp z))]
      show k2 (nI _ + nI 0, _, _) = _
      rw [nI_add]
      exact go _ (by rw [away, if_neg (fun z => c1 z.1)])
theorem op_share (j : Nat) (σ τ : HS) (a1 a2 : Int32) (hI : Inv j σ τ) (hj : j < 512) : ∃ (r : Int64) (σ1 τ1 : HS), f8_share a1 a2 σ = some (r, σ1) ∧ f9_share a1 a2 τ = some (r, τ1) ∧ Inv (j + 1) σ1 τ1 := by
  obtain ⟨P, C, hB⟩ := hI
  obtain ⟨w, wc, rp, rc, rm, -⟩ := id hB
  have h5 := w.1
  have h99 := w.2.1
  have h6 := turns_le C w
  unfold f8_share f9_share f8_share_20 f9_share_18 f9_lost
  rcases arg_c a1 (pn P) (by omega) with hx | ⟨k, hk, rfl⟩
  · rw [has_n rp.1 h5 hx, bd_s, if_pos rfl, nsp_n rm.1 h5 hx, bd_s, if_neg n10, bd_s]
    exact ⟨_, _, _, rfl, rfl, P, C, hB.mono⟩
  · rw [has_y rp.1 h5 hk, bd_s, if_neg n10, nsp_y rm.1 h5 hk, bd_s, if_pos rfl]
    rcases arg_c a2 2 (by omega) with hx | ⟨x, hx, rfl⟩
    · rw [in_n (by rw [w64]; show _ < (0 : Int) ∨ (1 : Int) < _; omega), bd_s, if_pos rfl, bd_s]
      refine ⟨_, _, _, ?_, rfl, P, C, hB.mono⟩
      rw [if_neg (fun z => by rw [z] at hx; have : (0 : Int32).toInt = 0 := rfl; omega), if_neg (fun z => by rw [z] at hx; have : (1 : Int32).toInt = 1 := rfl; omega)]
    · rw [in_y (by rw [w64, nI_toInt (by omega)]; show (0 : Int) ≤ _; omega) (by rw [w64, nI_toInt (by omega)]; show _ ≤ (1 : Int); omega), bd_s, if_neg n10]
      obtain ⟨σ0, σ1, τ1, q0, q1, q2, q3, q4, q5, q6, q7⟩ := free_b hB hj
      obtain ⟨_, _, rp1, rc1, rm1, -⟩ := id q3
      have al := away_le w wc (free_ok w wc) k _ (Nat.le_refl _)
      have jp : 1 ≤ pj P := by rcases w.2.2.1 with z | z <;> omega
      have hg : 0 < Nat.gcd (away P C (freeSaid P C) k (turnsN P C)) (pj P) := Nat.gcd_pos_of_pos_right _ jp
      have gle : Nat.gcd (away P C (freeSaid P C) k (turnsN P C)) (pj P) ≤ pj P := Nat.gcd_le_right _ jp
      have cl : f8_share_24 (nI k) (nI x) σ = some (lN ((if nI x = 0 then away P C (freeSaid P C) k (turnsN P C) else pj P) / Nat.gcd (away P C (freeSaid P C) k (turnsN P C)) (pj P)), σ1) := by
        unfold f8_share_24
        rw [q0, bd_s, q1, bd_s, awayC rp1 rc1 w wc (free_ok w wc) q6 hk, bd_s]
        dsimp only
        rw [rp1.2.1, gcdC (by omega) h99, bd_s, if_pos (show (0 : Int32) < nI _ from nI_lt (a := 0) hg (by omega))]
        have d1 := Nat.div_le_self (away P C (freeSaid P C) k (turnsN P C)) (Nat.gcd (away P C (freeSaid P C) k (turnsN P C)) (pj P))
        have d2 := Nat.div_le_self (pj P) (Nat.gcd (away P C (freeSaid P C) k (turnsN P C)) (pj P))
        by_cases c : nI x = 0
        · rw [if_pos c, if_pos c, if_neg (nI_ne0 hg (by omega)), pk_div (by omega) hg (by omega), nI_l (by omega)]
        · rw [if_neg c, if_neg c, if_neg (nI_ne0 hg (by omega)), pk_div (by omega) hg (by omega), nI_l (by omega)]
      have : (if nI x = 0 then f8_share_24 (nI k) (nI x) σ else if nI x = 1 then f8_share_24 (nI k) (nI x) σ else some ((-9223372036854775808 : Int64), σ)) = some (lN ((if nI x = 0 then away P C (freeSaid P C) k (turnsN P C) else pj P) / Nat.gcd (away P C (freeSaid P C) k (turnsN P C)) (pj P)), σ1) := by
        by_cases c : nI x = 0
        · rw [if_pos c]; exact cl
        · rw [if_neg c, if_pos]; exact cl
          have : x = 1 := by
            rcases Nat.eq_zero_or_pos x with z | z
            · exact absurd (by rw [z]; rfl) c
            · omega
          rw [this]; rfl
      rw [q2, bd_s, awayM rm1 w wc (free_ok w wc) q7 hk _ hg]
      exact ⟨_, _, _, this, rfl, P, C, q3⟩
def SaidDay (P : PP) (C : CC) (sd : Nat → Nat → Nat) (k q T : Nat) : Prop := ∃ t, t < T ∧ who P C t = k ∧ sd t (dday P C sd t).1 = q
theorem cd_eq {c q : Nat} (hc : c = 9 ∨ c < 3) (hq : q < 3) : cd c = nI q ↔ c = q := by
  rcases hc with rfl | h
  · exact ⟨fun e => absurd e.symm (n9n q (by omega)), fun e => by omega⟩
  · rw [cd_z (by omega)]; exact nIc (by omega) (by omega)
theorem hasC {σ : HS} {P : PP} {C : CC} {sd : Nat → Nat → Nat} (rp : RepP σ P) (rc : RepC σ 20 P C) (w : WfP P) (wc : WfC P C) (hs : SaidOk P C sd) (dc : DayC σ 20 P C sd (turnsN P C)) {k q : Nat} (hk : k < pn P) (hq : q < 3) : ∃ r : Int32, f1_hasSaid (nI k) (nI q) σ = some (r, σ) ∧ ((r = 1 ∧ SaidDay P C sd k q (turnsN P C)) ∨ (r = 0 ∧ ¬ SaidDay P C sd k q (turnsN P C))) := by
  have h5 := w.1
  have h6 := turns_le C w
  unfold f1_hasSaid f1_hasSaid_2
  obtain ⟨⟨r1, r2⟩, p1, p2, p3⟩ := wl_fuel (body := fun k2 p => f1_hasSaid_2_b k2 (nI k) (nI q) p.1 p.2) (fun p : Int32 × HS => ∃ t, t ≤ turnsN P C ∧ p = (nI t, σ) ∧ ¬ SaidDay P C sd k q t) (fun p => 10 - p.1.toNatClampNeg) (fun r : Int32 × HS => r.2 = σ ∧ ((r.1 = 1 ∧ SaidDay P C sd k q (turnsN P C)) ∨ (r.1 = 0 ∧ ¬ SaidDay P C sd k q (turnsN P C)))) (0, σ) ⟨0, by omega, rfl, fun ⟨t, h, _⟩ => absurd h (Nat.not_lt_zero t)⟩ (by show 10 - _ < _; omega) (by
    rintro k2 _ ⟨t, ht, rfl, hn⟩ ih
    dsimp only
    unfold f1_hasSaid_2_b f1_hasSaid_39 f1_saidIn
    rw [dc.1]
    by_cases c : turnsN P C ≤ t
    · have : t = turnsN P C := by omega
      subst this
      rw [if_pos (nI_le c (by omega))]
      exact ⟨_, rfl, rfl, Or.inr ⟨rfl, hn⟩⟩
    · have hw := who_lt wc (show t < turnsN P C by omega)
      have h1 := hs t _ (by omega) (dok w wc hs t ht).1
      have h3 := (w.2.2.2 _ hw).2.2.1
      have go : ¬ (who P C t = k ∧ sd t (dday P C sd t).1 = q) → ∃ r, k2 (nI t + 1, σ) = some r ∧ r.2 = σ ∧ ((r.1 = 1 ∧ SaidDay P C sd k q (turnsN P C)) ∨ (r.1 = 0 ∧ ¬ SaidDay P C sd k q (turnsN P C))) := by
        intro hne
        rw [nI_1]
        refine ih _ ⟨t + 1, by omega, rfl, ?_⟩ ?_
        · rintro ⟨i, hi, e1, e2⟩
          rcases Nat.lt_or_ge i t with z | z
          · exact hn ⟨i, z, e1, e2⟩
          · rw [show i = t by omega] at e1 e2; exact hne ⟨e1, e2⟩
        · show 10 - (nI (t + 1)).toNatClampNeg < 10 - (nI t).toNatClampNeg
          rw [nI_clamp (by omega), nI_clamp (by omega)]; omega
      rw [if_neg (nI_ge (by omega) (by omega)), if_neg (show ¬ (6 : Int32) ≤ nI t from nI_ge (b := 6) (by omega) (by omega)), whoIn_g rp rc w wc (by omega), bd_s]
      by_cases c1 : who P C t = k
      · rw [if_pos (by rw [c1]), at_in (by omega) (by omega), bd_s, bd_s, (dc.2.2.2.2.2 t (by omega)).1]
        by_cases c2 : sd t (dday P C sd t).1 = q
        · rw [if_pos ((cd_eq (by omega) hq).mpr c2)]
          exact ⟨_, rfl, rfl, Or.inl ⟨rfl, t, by omega, c1, c2⟩⟩
        · rw [if_neg (fun z => c2 ((cd_eq (by omega) hq).mp z))]
          exact go (fun z => c2 z.2)
      · rw [if_neg (fun z => c1 ((nIc (by omega) (by omega)).mp z))]
        exact go (fun z => c1 z.1))
  have p2 : r2 = σ := p2
  subst p2
  exact ⟨r1, p1, p3⟩
theorem isM {τ : HS} {P : PP} {C : CC} {sd : Nat → Nat → Nat} (rm : RepM τ P C) (w : WfP P) (wc : WfC P C) (hs : SaidOk P C sd) (dm : DayM τ P C sd (turnsN P C)) {k q : Nat} (hk : k < pn P) (hq : q < 3) : ∃ r : Int32, f9_isSaid (nI k) (nI q) τ = some (r, τ) ∧ ((r = 1 ∧ SaidDay P C sd k q (turnsN P C)) ∨ (r = 0 ∧ ¬ SaidDay P C sd k q (turnsN P C))) := by
  have h5 := w.1
  have h6 := turns_le C w
  unfold f9_isSaid f9_isSaid_5
  obtain ⟨⟨r1, r2⟩, p1, p2, p3⟩ := wl_fuel (body := fun k5 p => f9_isSaid_5_b k5 (nI k) (nI q) p.1 p.2.1 p.2.2) (fun p : Int32 × Int32 × HS => ∃ t f, t ≤ turnsN P C ∧ p = (f, nI t, τ) ∧ ((f = 1 ∧ SaidDay P C sd k q t) ∨ (f = 0 ∧ ¬ SaidDay P C sd k q t))) (fun p => 10 - p.2.1.toNatClampNeg) (fun r : Int32 × HS => r.2 = τ ∧ ((r.1 = 1 ∧ SaidDay P C sd k q (turnsN P C)) ∨ (r.1 = 0 ∧ ¬ SaidDay P C sd k q (turnsN P C)))) (0, 0, τ) ⟨0, 0, by omega, rfl, Or.inr ⟨rfl, fun ⟨t, h, _⟩ => absurd h (Nat.not_lt_zero t)⟩⟩ (by show 10 - _ < _; omega) (by
    rintro k2 _ ⟨t, f, ht, rfl, hf⟩ ih
    dsimp only
    unfold f9_isSaid_5_b f9_isSaid_39 f9_isSaid_43 f9_isSaid_44
    rw [turns_m rm w wc, bd_s]
    by_cases c : turnsN P C ≤ t
    · have : t = turnsN P C := by omega
      subst this
      rw [if_pos (nI_le c (by omega)), if_pos (by rcases hf with z | z; exact Or.inr z.1; exact Or.inl z.1)]
      exact ⟨_, rfl, rfl, hf⟩
    · have hw := who_lt wc (show t < turnsN P C by omega)
      have h1 := hs t _ (by omega) (dok w wc hs t ht).1
      have h3 := (w.2.2.2 _ hw).2.2.1
      have go : ∀ f2 : Int32, ((f2 = 1 ∧ SaidDay P C sd k q (t + 1)) ∨ (f2 = 0 ∧ ¬ SaidDay P C sd k q (t + 1))) → ∃ r, k2 (f2, nI t + 1, τ) = some r ∧ r.2 = τ ∧ ((r.1 = 1 ∧ SaidDay P C sd k q (turnsN P C)) ∨ (r.1 = 0 ∧ ¬ SaidDay P C sd k q (turnsN P C))) := by
        intro f2 h2
        rw [nI_1]
        refine ih _ ⟨t + 1, f2, by omega, rfl, h2⟩ ?_
        show 10 - (nI (t + 1)).toNatClampNeg < 10 - (nI t).toNatClampNeg
        rw [nI_clamp (by omega), nI_clamp (by omega)]; omega
      rw [if_neg (nI_ge (by omega) (by omega))]
      rcases hf with ⟨rfl, hy⟩ | ⟨rfl, hn⟩
      · rw [if_neg n10]
        obtain ⟨i, hi, e⟩ := hy
        exact go 1 (Or.inl ⟨rfl, i, by omega, e⟩)
      · have no : ¬ (who P C t = k ∧ sd t (dday P C sd t).1 = q) → ¬ SaidDay P C sd k q (t + 1) := by
          rintro hne ⟨i, hi, e1, e2⟩
          rcases Nat.lt_or_ge i t with z | z
          · exact hn ⟨i, z, e1, e2⟩
          · rw [show i = t by omega] at e1 e2; exact hne ⟨e1, e2⟩
        rw [if_pos rfl, who_m rm w wc (by omega), bd_s]
        by_cases c1 : who P C t = k
        · rw [if_pos (by rw [c1]), ix_in (by omega) (by omega), nI_clamp (by omega)]
          dsimp only
          rw [(dm.2.2.2.2 t (by omega)).1]
          by_cases c2 : sd t (dday P C sd t).1 = q
          · rw [if_pos ((cd_eq (by omega) hq).mpr c2)]
            exact go 1 (Or.inl ⟨rfl, t, by omega, c1, c2⟩)
          · rw [if_neg (fun z => c2 ((cd_eq (by omega) hq).mp z))]
            exact go 0 (Or.inr ⟨rfl, no (fun z => c2 z.2)⟩)
        · rw [if_neg (fun z => c1 ((nIc (by omega) (by omega)).mp z))]
          exact go 0 (Or.inr ⟨rfl, no (fun z => c1 z.1)⟩))
  have p2 : r2 = τ := p2
  subst p2
  exact ⟨r1, p1, p3⟩
