/-! the four days that the law lays, and the guess after them -/
theorem lm4 (p : Nat) : (4 : Int32) * nI p = nI (4 * p) := pk_mul 4 p
theorem le16 (p : Nat) : (16 : Int32) + nI p = nI (16 + p) := nI_add 16 p
theorem le24 (p : Nat) : (24 : Int32) + nI p = nI (24 + p) := nI_add 24 p
theorem Ends_c {P : PP} {C : CC} {lg lg' : Nat → Nat → Nat} {en en' : Nat → Nat} {i : Nat} (a : lg i = lg' i) (b : en i = en' i) (L : Nat) : Ends P C lg en i L = Ends P C lg' en' i L := by
  unfold Ends
  rw [a, b]
theorem LgF.congr {τ τ' : HS} {P : PP} {C : CC} {d : Nat} {lg : Nat → Nat → Nat} {en : Nat → Nat} (h : LgF τ P C d lg en) (a : τ'.1 0 29 = τ.1 0 29) (b : τ'.1 20 = τ.1 20) (c : τ'.1 19 = τ.1 19) : LgF τ' P C d lg en := ⟨h.1, a.trans h.2.1, fun i hi => ⟨(h.2.2 i hi).1, by rw [b]; exact (h.2.2 i hi).2.1, fun t ht => by rw [c]; exact (h.2.2 i hi).2.2 t ht⟩⟩
def DSt (j : Nat) (σ τ : HS) (P : PP) (C : CC) (a21 a22 : Nat → Int32) (i : Nat) (lg : Nat → Nat → Nat) (en : Nat → Nat) (kt L : Nat) : Prop := InvB j σ τ P C ∧ ShF τ ∧ LgF τ P C i lg en ∧ LwG a21 a22 P C lg en i ∧ ∀ i', i' < i → Ends P C lg en i' (if kt ≤ i' then L else 0) = true
/-- one day -/
theorem dayP {sL : Nat} {a0 : Nat → Int32} (hsL : sL ≤ 260) (k85 : (Nat → Int32) × Int32 × HS × Nat → Option Int32) (k1291 : (Nat → Int32) × (Nat → Int32) × Int32 × HS × Nat → Option Int32) {a2 a3 : Nat → Int32} {x4 : Int32} {X : Nat} {a21 a22 : Nat → Int32} {σ τ : HS} {g j : Nat} {P : PP} {C : CC} {lg : Nat → Nat → Nat} {en : Nat → Nat} {i kt L : Nat}
    (hX : X < 1000) (hL : LwA a2 a3 P C) (hi : i < 4) (hkt : kt < 4) (hL9 : L < 10) (hD : DSt j σ τ P C a21 a22 i lg en kt L) (hg : g < 80000)
    (hK : ∀ a21' a22' σ' τ' lg' en', DSt j σ' τ' P C a21' a22' (i + 1) lg' en' kt L → k1291 (a21', a22', nI (i + 1), σ', g + 1) = some 1) :
    g_law_1306 sL a0 k85 k1291 a2 a3 x4 (nI X) (nI (turnsN P C)) (nI kt) (nI L) a21 (nI i) g (a22, (fun _ => 0), 0, σ) = some 1 := by
  obtain ⟨tb1, tb2⟩ := turnsB hL
  have h2 := hL.1
  have h4 := hL.2.1
  obtain ⟨hB, hS, hlg, hG, hE⟩ := hD
  obtain ⟨w, wc, -⟩ := id hB
  unfold g_law_1306
  refine wl_to (fun s : (Nat → Int32) × (Nat → Int32) × Int32 × HS => ∃ (t : Nat) (sd : Nat → Nat) (τ1 : HS), t ≤ turnsN P C ∧ s.2.2.1 = nI t ∧ InvB j s.2.2.2 τ1 P C ∧ ShF τ1 ∧ LgF τ1 P C i lg en ∧ LwG a21 s.1 P C lg en i ∧ ∀ t', t' < t → s.2.1 t' = cd (sd t') ∧ s.1 (6 * i + t') = cd (sd t') ∧ τ1.1 23 (100 + t') = cd (sd t') ∧ (sd t' = 9 ∨ sd t' < pw P (who P C t'))) (fun s => 10 - s.2.2.1.toNatClampNeg) _ _ ⟨0, fun _ => 9, τ, by omega, rfl, hB, hS, hlg, hG, fun t ht => absurd ht (Nat.not_lt_zero t)⟩ (by show 10 - _ < _; omega) ?_
  rintro k1306 ⟨b22, a24, x25, σ1⟩ ⟨t, sd, τ1, ht, e1, f1, f2, f3, f4, f5⟩ ih
  have e1 : x25 = nI t := e1
  subst e1
  have f1 : InvB j σ1 τ1 P C := f1
  have f4 : LwG a21 b22 P C lg en i := f4
  have f5 : ∀ t', t' < t → a24 t' = cd (sd t') ∧ b22 (6 * i + t') = cd (sd t') ∧ τ1.1 23 (100 + t') = cd (sd t') ∧ (sd t' = 9 ∨ sd t' < pw P (who P C t')) := f5
  dsimp only
  unfold g_law_1306_b
  by_cases ct : turnsN P C ≤ t
  · have : t = turnsN P C := by omega
    subst this
    rw [if_pos (nI_le ct (by omega))]
    have run : ∀ z : Nat, z = (if kt ≤ i then L else 0) → g_law_1429 sL a0 k85 k1291 a2 a3 x4 (nI X) (nI (turnsN P C)) (nI kt) (nI L) a21 b22 (nI i) (nI z) (nI (turnsN P C)) a24 (nI i) σ1 g = some 1 := by
      intro z ez
      have hz9 : z ≤ 9 := by rw [ez]; split <;> omega
      obtain ⟨r, r1, r2⟩ := dayL hL w wc hz9 (fun t ht => (f5 t ht).2.2.2) (fun t ht => (f5 t ht).1)
      have wcL : WfC P (cw C, z, co C) := ⟨wc.1, hz9, wc.2.2⟩
      have db := (dok w wcL (sd := fun t _ => sd t) (fun t x ht _ => (f5 t ht).2.2.2) (turnsN P C) (Nat.le_refl _)).1
      have h99 := w.2.1
      generalize ee : (dday P (cw C, z, co C) (fun t _ => sd t) (turnsN P C)).1 = e at db
      have r22 : r 2 = nI e := by rw [r2.2.1, ee]
      have hs : ∀ t, t < turnsN P C → τ1.1 23 (100 + t) = cd (sd t) ∧ (sd t = 9 ∨ sd t < pw P (who P C t)) := fun t ht => (f5 t ht).2.2
      obtain ⟨σ2, τ2, y1, y2, y3, y4, y5, y6, -⟩ := day_y f1 (by omega) f2 (d := i) (by omega) f3.2.1 hs (e := e) (by omega)
      have s2 : ShF τ2 := ⟨by rw [y3 21 (by omega) (by omega) (by omega)]; exact f2.1, by rw [y3 22 (by omega) (by omega) (by omega)]; exact f2.2⟩
      have hs2 : ∀ t, t < turnsN P C → τ2.1 23 (100 + t) = cd (sd t) ∧ (sd t = 9 ∨ sd t < pw P (who P C t)) := fun t ht => by rw [y3 23 (by omega) (by omega) (by omega)]; exact hs t ht
      have d1 := (day_n y2 h2 s2 hs2).1
      have i2 := y2.flt 0
      have s3 : ShF (uI τ2 0 0 0) := s2
      have d2 := (day_n i2 h2 s3 hs2).2.1
      have i3 := i2.flt 2
      have s4 : ShF (uI (uI τ2 0 0 0) 0 0 2) := s2
      have d3 := (day_n i3 h2 s4 hs2).2.2
      have i4 := i3.flt 3
      unfold g_law_1429
      rw [r1, bd_s, if_neg (by omega), ix_in (by omega) (by omega), bd_s, ix_in (by omega) (by omega), nI_clamp (by omega), upS, ct2, r22, y1, bd_s, if_pos rfl]
      dsimp only
      rw [d1, bd_s, if_pos rfl]
      dsimp only
      rw [d2, bd_s, if_pos rfl]
      dsimp only
      rw [d3, bd_s, if_pos rfl, nI_1]
      dsimp only
      have lN : (fun i' => if i' = i then sd else lg i') i = sd := if_pos rfl
      have eN : (fun i' => if i' = i then e else en i') i = e := if_pos rfl
      have lO : ∀ i', i' < i → (fun i' => if i' = i then sd else lg i') i' = lg i' := fun i' h => if_neg (by omega)
      have eO : ∀ i', i' < i → (fun i' => if i' = i then e else en i') i' = en i' := fun i' h => if_neg (by omega)
      generalize (fun i' => if i' = i then sd else lg i') = lg' at lN lO
      generalize (fun i' => if i' = i then e else en i') = en' at eN eO
      refine hK _ _ _ _ lg' en' ⟨i4, s2, ⟨by omega, y4, fun i' hi' => ?_⟩, fun i' hi' => ?_, fun i' hi' => ?_⟩
      · show en' i' ≤ 99 ∧ τ2.1 20 i' = _ ∧ ∀ t, _ → τ2.1 19 (6 * i' + t) = _ ∧ _
        rw [y5]
        by_cases ci : i' = i
        · rw [ci, if_pos rfl, eN, lN]
          refine ⟨by omega, rfl, fun t ht => ⟨?_, (hs t ht).2⟩⟩
          rw [y6, if_pos ⟨by omega, by omega⟩, show 6 * i + t - 6 * i = t by omega]
          exact (hs t ht).1
        · obtain ⟨q1, q2, q3⟩ := f3.2.2 i' (by omega)
          rw [if_neg ci, eO i' (by omega), lO i' (by omega)]
          refine ⟨q1, q2, fun t ht => ⟨?_, (q3 t ht).2⟩⟩
          rw [y6, if_neg (by omega)]
          exact (q3 t ht).1
      · by_cases ci : i' = i
        · rw [ci, upS, eN, lN]
          exact ⟨rfl, by omega, fun t ht => ⟨(f5 t ht).2.1, (hs t ht).2⟩⟩
        · rw [upN ci, eO i' (by omega), lO i' (by omega)]
          exact f4 i' (by omega)
      · by_cases ci : i' = i
        · subst ci
          unfold Ends
          rw [eN, lN, ← ez, ee]
          exact decide_eq_true rfl
        · rw [Ends_c (lO i' (by omega)) (eO i' (by omega))]
          exact hE i' (by omega)
    by_cases ck : kt ≤ i
    · rw [if_pos (nI_le ck (by omega))]
      exact run L (by rw [if_pos ck])
    · rw [if_neg (nI_ge (by omega) (by omega))]
      exact run 0 (by rw [if_neg ck])
  · obtain ⟨v, hv⟩ := cellL hsL a0 (16 + 4 * X + i) (by omega)
    have hlow := lowL (v >>> ((3 * nI t) &&& 31)) (n := 4) (by omega) (by omega)
    obtain ⟨m, hm, hl⟩ := hlow
    have hl : g_low (v >>> ((3 * nI t) &&& 31)) 4 = some (nI m) := hl
    have hwho := who_lt wc (t := t) (by omega)
    have hpw := (hL.2.2.2.2.2.2.1 _ hwho).1
    have hw3 := (w.2.2.2 _ hwho).2.2.1
    rw [if_neg (nI_ge (by omega) (by omega)), lm4, le16, nI_add, hv, bd_s, hl, bd_s, whoL hL (by omega), bd_s, le9, ix_in (by omega) (by omega), nI_clamp (by omega), hpw]
    have go : ∀ c : Nat, (c = 9 ∨ c < pw P (who P C t)) → g_law_1365 sL a0 k85 k1291 k1306 a2 a3 x4 (nI X) (nI (turnsN P C)) (nI kt) (nI L) a21 b22 (nI i) a24 (nI t) (cd c) (nI t) σ1 g = some 1 := by
      intro c hc
      obtain ⟨σ2, p1, p2⟩ := put_g f1 (k := 1) (a := 1) (s := 7) (i := t) (by omega) (by omega) (by omega) f2.1 f2.2 (by omega) (cd c)
      have p1 : f8_put 1 (nI t) (cd c) σ1 = some (1, σ2) := p1
      rw [cutV1 (by omega)] at p2
      unfold g_law_1365
      rw [ix_in (by omega) (by omega), bd_s, ix_in (by omega) (by omega), lm6, nI_add, ix_in (by omega) (by omega), bd_s, ix_in (by omega) (by omega), nI_clamp (by omega), nI_clamp (by omega), upS, p1, bd_s, if_pos rfl, nI_1]
      have sN : (fun t' => if t' = t then c else sd t') t = c := if_pos rfl
      have sO : ∀ t', t' < t → (fun t' => if t' = t then c else sd t') t' = sd t' := fun t' h => if_neg (by omega)
      refine ih _ ⟨t + 1, fun t' => if t' = t then c else sd t', _, by omega, rfl, p2, f2, f3.congr rfl rfl rfl, fun i' hi' => ?_, fun t' ht' => ?_⟩ ?_
      · obtain ⟨q1, q2, q3⟩ := f4 i' hi'
        refine ⟨q1, q2, fun t2 ht2 => ⟨?_, (q3 t2 ht2).2⟩⟩
        show upd b22 (6 * i + t) _ _ = _
        rw [upN (by omega)]
        exact (q3 t2 ht2).1
      · show upd a24 t _ t' = _ ∧ upd b22 (6 * i + t) _ (6 * i + t') = _ ∧ (uI (uI τ1 23 (100 * 1 + t) (cd c)) 0 0 0).1 23 (100 + t') = _ ∧ _
        rw [uI_at, if_neg (by omega), uI_at]
        by_cases ci : t' = t
        · rw [ci, sN, upS, upS, if_pos ⟨rfl, by omega⟩]
          exact ⟨rfl, rfl, rfl, hc⟩
        · rw [sO t' (by omega), upN ci, upN (by omega), if_neg (by omega)]
          exact f5 t' (by omega)
      · show 10 - (nI (t + 1)).toNatClampNeg < 10 - (nI t).toNatClampNeg
        rw [nI_clamp (by omega), nI_clamp (by omega)]; omega
    by_cases cm : m < pw P (who P C t)
    · rw [if_pos (nI_lt cm (by omega)), ← cd_z (c := m) (by omega)]
      exact go m (Or.inr cm)
    · rw [if_neg (nI_nlt (by omega) (by omega)), ← cd_9]
      exact go 9 (Or.inl rfl)
/-- the guess, held against all pairs -/
theorem guessL {sL : Nat} {a0 : Nat → Int32} (hsL : sL ≤ 260) (k85 : (Nat → Int32) × Int32 × HS × Nat → Option Int32) {a2 a3 : Nat → Int32} {X : Nat} {a21 a22 : Nat → Int32} {σ τ : HS} {g j : Nat} {P : PP} {C : CC} {lg : Nat → Nat → Nat} {en : Nat → Nat} {kt L : Nat}
    (hX : X < 1000) (hL : LwA a2 a3 P C) (hkt : kt < 4) (hL9 : L < 10) (hD : DSt j σ τ P C a21 a22 4 lg en kt L) (hj : j + 40 < 512) (hg : g + 450 < 80000)
    (hK : ∀ a2' τ' σ' g' j' C', InvB j' σ' τ' P C' → LwA a2' a3 P C' → ShF τ' → cl C' = cl C → j' ≤ j + 40 → g' ≤ g + 450 → k85 (a2', nI X + 1, σ', g') = some 1) :
    g_law_1512 sL a0 k85 a2 a3 (nI (pn P)) (nI X) (nI (turnsN P C)) a21 a22 σ (0, -9, 49, g) = some 1 := by
  obtain ⟨tb1, tb2⟩ := turnsB hL
  have h2 := hL.1
  have h4 := hL.2.1
  obtain ⟨hB, hS, hlg, hG, hE⟩ := hD
  obtain ⟨w, wc, -⟩ := id hB
  have pos : 1 ≤ (gs (okG P C lg en) 50).1 := by
    refine gs_pos (z := 10 * kt + L) (okG_e.mpr (fun i hi => ?_)) 50 (by omega)
    rw [show (10 * kt + L) / 10 = kt by omega, show (10 * kt + L) % 10 = L by omega]
    exact hE i hi
  have top := (gs_b (okG P C lg en) 50).1
  unfold g_law_1512
  refine wl_to (fun s : Int32 × Int32 × Int32 × Nat => ∃ m, m ≤ 50 ∧ s.2.2.1 = dn m ∧ s.1 = nI (gu (okG P C lg en) (50 - m) m).1 ∧ s.2.1 = (gu (okG P C lg en) (50 - m) m).2 ∧ s.2.2.2 ≤ g + 8 * (50 - m)) (fun s => if s.2.2.1 < 0 then 0 else s.2.2.1.toNatClampNeg + 1) _ _ ⟨50, by omega, rfl, rfl, rfl, Nat.le_refl _⟩ (by
    show (if (49 : Int32) < 0 then 0 else (49 : Int32).toNatClampNeg + 1) < _
    rw [if_neg (by decide), show (49 : Int32).toNatClampNeg = 49 from rfl]; omega) ?_
  rintro k1512 ⟨x23, x24, x25, g1⟩ ⟨m, hm, e1, e2, e3, e4⟩ ih
  have e1 : x25 = dn m := e1
  have e2 : x23 = nI (gu (okG P C lg en) (50 - m) m).1 := e2
  have e3 : x24 = (gu (okG P C lg en) (50 - m) m).2 := e3
  have e4 : g1 ≤ g + 8 * (50 - m) := e4
  subst e1 e2 e3
  dsimp only
  unfold g_law_1512_b
  cases m with
  | zero =>
    rw [dn_0, if_pos m1_neg, Nat.sub_zero, gu_all]
    obtain ⟨σ2, q1, q2, q3⟩ := guess_s hB (by omega) hlg (ok := okG P C lg en) (fun k L hL => okG_f k L hL) (x := 0) (by omega)
    have q1 : f8_guess 0 σ = some (nI (gs (okG P C lg en) 50).1, σ2) := q1
    obtain ⟨σ3, t1, t2, t3⟩ := guess_s q2 (by omega) hlg (ok := okG P C lg en) (fun k L hL => okG_f k L hL) (x := 1) (by omega)
    have t1 : f8_guess 1 σ2 = some ((gs (okG P C lg en) 50).2, σ3) := t1
    obtain ⟨-, -, -, -, -, -, rl, -⟩ := id t2
    obtain ⟨v, hv⟩ := cellL hsL a0 (24 + X) (by omega)
    obtain ⟨k, hk, hkl⟩ := lowL v (n := pn P) (by omega) (by omega)
    have hpw := (hL.2.2.2.2.2.2.1 k hk).1
    obtain ⟨-, w1, w3, -⟩ := w.2.2.2 k hk
    have hlow := lowL (v >>> (3 &&& 31)) (n := pw P k) (by omega) (by omega)
    obtain ⟨q, hq, hql⟩ := hlow
    obtain ⟨x, σ4, m1, m2, m3⟩ := mo_first t2 (by omega) (by omega) hk hq (fun _ => 0)
    rw [q1, bd_s, if_pos rfl]
    dsimp only
    rw [t1, bd_s, if_pos rfl]
    dsimp only
    rw [if_neg (show ¬ nI (gs (okG P C lg en) 50).1 < (1 : Int32) from nI_nlt (b := 1) pos (by omega)), guess_n, bd_s, if_pos rfl]
    dsimp only
    rw [many_5 rl hlg.2.1 (by omega), bd_s, if_pos (show (nI 4 : Int32) = 4 from rfl)]
    dsimp only
    rw [back_n rl hlg.2.1 (by omega), bd_s, if_pos rfl]
    dsimp only
    rw [le24, hv, bd_s, hkl, bd_s, bd_s, le9, ix_in (by omega) (by omega), nI_clamp (by omega), hpw, hql, bd_s, m1, bd_s, if_neg (by omega)]
    exact motL k85 m2 (by omega) (by omega) hL hS hk hq hlg.2.1 m3 (fun a2' τ' σ' g' j' C' z1 z2 z3 z4 z5 z6 => hK a2' τ' σ' g' j' C' z1 z2 z3 z4 (by omega) (by omega))
  | succ m =>
    rw [dn_1, if_neg (nI_pos (by omega))]
    have eg : 50 - m = (50 - (m + 1)) + 1 := by omega
    have mu : (if dn m < 0 then 0 else (dn m).toNatClampNeg + 1) < if nI m < 0 then 0 else (nI m).toNatClampNeg + 1 := by
      rw [if_neg (nI_pos (by omega)), nI_clamp (by omega)]
      cases m with
      | zero => rw [dn_0, if_pos m1_neg]; omega
      | succ m => rw [dn_1, if_neg (nI_pos (by omega)), nI_clamp (by omega)]; omega
    have eu : gu (okG P C lg en) (50 - m) m = if okG P C lg en m = true then ((gu (okG P C lg en) (50 - (m + 1)) (m + 1)).1 + 1, nI m) else gu (okG P C lg en) (50 - (m + 1)) (m + 1) := by rw [eg]; rfl
    refine fitL k85 k1512 w wc hL hG (by omega) (by omega) (fun g' hg' => ⟨fun c => ?_, fun c => ?_⟩)
    · rw [nI_1]
      refine ih _ ⟨m, by omega, rfl, ?_, ?_, ?_⟩ mu
      · rw [eu, if_pos c]
      · rw [eu, if_pos c]
      · show g' ≤ _; omega
    · rw [Int32.add_zero]
      refine ih _ ⟨m, by omega, rfl, ?_, ?_, ?_⟩ mu
      · rw [eu, if_neg c]
      · rw [eu, if_neg c]
      · show g' ≤ _; omega
/-- all four days -/
theorem daysL {sL : Nat} {a0 : Nat → Int32} (hsL : sL ≤ 260) (k85 : (Nat → Int32) × Int32 × HS × Nat → Option Int32) {a2 a3 : Nat → Int32} {X : Nat} {σ τ : HS} {g j : Nat} {P : PP} {C : CC} {kt L : Nat}
    (hX : X < 1000) (hL : LwA a2 a3 P C) (hkt : kt < 4) (hL9 : L < 10) (hB : InvB j σ τ P C) (hS : ShF τ) (h29 : τ.1 0 29 = 0) (hj : j + 40 < 512) (hg : g + 500 < 80000)
    (hK : ∀ a2' τ' σ' g' j' C', InvB j' σ' τ' P C' → LwA a2' a3 P C' → ShF τ' → cl C' = cl C → j' ≤ j + 40 → g' ≤ g + 500 → k85 (a2', nI X + 1, σ', g') = some 1) :
    g_law_1291 sL a0 k85 a2 a3 (nI (pn P)) (nI X) (nI (turnsN P C)) (nI kt) (nI L) ((fun _ => 0), (fun _ => 0), 0, σ, g) = some 1 := by
  unfold g_law_1291
  refine wl_to (fun s : (Nat → Int32) × (Nat → Int32) × Int32 × HS × Nat => ∃ i τ1 lg en, i ≤ 4 ∧ s.2.2.1 = nI i ∧ s.2.2.2.2 ≤ g + 2 * i ∧ DSt j s.2.2.2.1 τ1 P C s.1 s.2.1 i lg en kt L) (fun s => 10 - s.2.2.1.toNatClampNeg) _ _ ⟨0, τ, fun _ _ => 0, fun _ => 0, by omega, rfl, Nat.le_refl _, hB, hS, ⟨by omega, h29, fun i hi => absurd hi (Nat.not_lt_zero i)⟩, fun i hi => absurd hi (Nat.not_lt_zero i), fun i hi => absurd hi (Nat.not_lt_zero i)⟩ (by show 10 - _ < _; omega) ?_
  rintro k1291 ⟨a21, a22, x23, σ1, g1⟩ ⟨i, τ1, lg, en, hi, e1, e2, e3⟩ ih
  have e1 : x23 = nI i := e1
  subst e1
  have e2 : g1 ≤ g + 2 * i := e2
  have e3 : DSt j σ1 τ1 P C a21 a22 i lg en kt L := e3
  dsimp only
  unfold g_law_1291_b
  by_cases c : 4 ≤ i
  · have : i = 4 := by omega
    subst this
    rw [if_pos (show (4 : Int32) ≤ nI 4 by decide)]
    exact guessL hsL k85 hX hL hkt hL9 e3 hj (by omega) (fun a2' τ' σ' g' j' C' z1 z2 z3 z4 z5 z6 => hK a2' τ' σ' g' j' C' z1 z2 z3 z4 z5 (by omega))
  · rw [if_neg (show ¬ (4 : Int32) ≤ nI i from nI_ge (b := 4) (by omega) (by omega)), if_neg (by omega)]
    refine dayP hsL k85 k1291 hX hL (by omega) hkt hL9 e3 (by omega) (fun a21' a22' σ' τ' lg' en' hd => ?_)
    refine ih _ ⟨i + 1, τ', lg', en', by omega, rfl, ?_, hd⟩ ?_
    · show g1 + 1 + 1 ≤ _; omega
    · show 10 - (nI (i + 1)).toNatClampNeg < 10 - (nI i).toNatClampNeg
      rw [nI_clamp (by omega), nI_clamp (by omega)]; omega
