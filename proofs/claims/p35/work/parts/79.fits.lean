/-! the guess, held against all pairs, from the last one back -/
def gu (ok : Nat → Bool) : Nat → Nat → Nat × Int32
  | 0, _ => (0, -9)
  | l + 1, s => if ok s = true then ((gu ok l (s + 1)).1 + 1, nI s) else gu ok l (s + 1)
theorem gu_gs (ok : Nat → Bool) : ∀ l s, s + l < 1000000 → gs ok (s + l) = ((gs ok s).1 + (gu ok l s).1, if (gs ok s).2 = -9 then (gu ok l s).2 else (gs ok s).2) := by
  intro l
  induction l with
  | zero =>
    intro s _
    show gs ok s = ((gs ok s).1 + 0, if (gs ok s).2 = -9 then -9 else (gs ok s).2)
    by_cases c : (gs ok s).2 = -9
    · rw [if_pos c, ← c]; rfl
    · rw [if_neg c]; rfl
  | succ l ih =>
    intro s hs
    have h := ih (s + 1) (by omega)
    have eg : gu ok (l + 1) s = if ok s = true then ((gu ok l (s + 1)).1 + 1, nI s) else gu ok l (s + 1) := rfl
    rw [show s + (l + 1) = s + 1 + l by omega, h, eg]
    have e : gs ok (s + 1) = if ok s = true then ((gs ok s).1 + 1, if (gs ok s).2 = -9 then nI s else (gs ok s).2) else gs ok s := rfl
    rw [e]
    have n9 : ¬ nI s = -9 := fun z => by
      have := congrArg Int32.toInt z
      rw [nI_toInt (by omega), tn9] at this
      omega
    by_cases c : ok s = true
    · rw [if_pos c, if_pos c]
      dsimp only
      by_cases c2 : (gs ok s).2 = -9
      · rw [if_pos c2, if_neg n9]
        congr 1; omega
      · rw [if_neg c2, if_neg c2]
        congr 1; omega
    · rw [if_neg c, if_neg c]
theorem gu_all (ok : Nat → Bool) : gu ok 50 0 = gs ok 50 := by
  have h := gu_gs ok 50 0 (by omega)
  rw [Nat.zero_add] at h
  rw [h]
  show _ = (0 + (gu ok 50 0).1, if (-9 : Int32) = -9 then (gu ok 50 0).2 else -9)
  rw [if_pos rfl, Nat.zero_add]
theorem gs_pos {ok : Nat → Bool} {z : Nat} (h : ok z = true) : ∀ n, z < n → 1 ≤ (gs ok n).1 := by
  intro n
  induction n with
  | zero => intro h; omega
  | succ n ih =>
    intro hz
    unfold gs
    by_cases c : ok n = true
    · rw [if_pos c]; dsimp only; omega
    · rw [if_neg c]
      refine ih ?_
      by_cases e : z = n
      · rw [e] at h; exact absurd h c
      · omega
def okG (P : PP) (C : CC) (lg : Nat → Nat → Nat) (en : Nat → Nat) (z : Nat) : Bool := (List.range 4).all fun i => Ends P C lg en i (if z / 10 ≤ i then z % 10 else 0)
theorem okG_e {P : PP} {C : CC} {lg : Nat → Nat → Nat} {en : Nat → Nat} {z : Nat} : okG P C lg en z = true ↔ ∀ i, i < 4 → Ends P C lg en i (if z / 10 ≤ i then z % 10 else 0) = true := by
  unfold okG
  rw [List.all_eq_true]
  exact ⟨fun h i hi => h i (List.mem_range.mpr hi), fun h i hi => h i (List.mem_range.mp hi)⟩
theorem okG_f {P : PP} {C : CC} {lg : Nat → Nat → Nat} {en : Nat → Nat} (k L : Nat) (hL : L < 10) : okG P C lg en (10 * k + L) = true ↔ FitP (Ends P C lg en) 4 k L := by
  rw [okG_e, show (10 * k + L) / 10 = k by omega, show (10 * k + L) % 10 = L by omega]
  rfl
/-- the rows that hold the four days -/
def LwG (a21 a22 : Nat → Int32) (P : PP) (C : CC) (lg : Nat → Nat → Nat) (en : Nat → Nat) (d : Nat) : Prop := ∀ i, i < d → a21 i = nI (en i) ∧ en i ≤ 99 ∧ ∀ t, t < turnsN P C → a22 (6 * i + t) = cd (lg i t) ∧ (lg i t = 9 ∨ lg i t < pw P (who P C t))
/-- does a pair fit -/
theorem fitL {sL : Nat} {a0 : Nat → Int32} (k85 : (Nat → Int32) × Int32 × HS × Nat → Option Int32) (k1512 : Int32 × Int32 × Int32 × Nat → Option Int32) {a2 a3 : Nat → Int32} {x4 x5 : Int32} {a21 a22 : Nat → Int32} {x23 x24 : Int32} {σ : HS} {g : Nat} {P : PP} {C : CC} {lg : Nat → Nat → Nat} {en : Nat → Nat} {z : Nat}
    (w : WfP P) (wc : WfC P C) (hL : LwA a2 a3 P C) (hG : LwG a21 a22 P C lg en 4) (hz : z < 50) (hg : g + 8 < 80000)
    (hK : ∀ g', g' ≤ g + 8 → (okG P C lg en z = true → k1512 (x23 + 1, nI z, dn z, g') = some 1) ∧ (¬ okG P C lg en z = true → k1512 (x23 + 0, x24, dn z, g') = some 1)) :
    g_law_1523 sL a0 k85 k1512 a2 a3 x4 x5 (nI (turnsN P C)) a21 a22 x23 x24 (nI z) σ (1, 0, g) = some 1 := by
  obtain ⟨tb1, tb2⟩ := turnsB hL
  have h4 := hL.2.1
  have zd := Nat.div_le_self z 10
  have zm := Nat.mod_lt z (show 10 > 0 by omega)
  unfold g_law_1523
  refine wl_to (fun s : Int32 × Int32 × Nat => ∃ i, i ≤ 4 ∧ s.2.1 = nI i ∧ s.2.2 ≤ g + 2 * i ∧ ((s.1 = 1 ∧ ∀ i', i' < i → Ends P C lg en i' (if z / 10 ≤ i' then z % 10 else 0) = true) ∨ (s.1 = 0 ∧ ¬ okG P C lg en z = true))) (fun s => 10 - s.2.1.toNatClampNeg) _ _ ⟨0, by omega, rfl, Nat.le_refl _, Or.inl ⟨rfl, fun i hi => absurd hi (Nat.not_lt_zero i)⟩⟩ (by show 10 - _ < _; omega) ?_
  rintro k1523 ⟨x26, x27, g1⟩ ⟨i, hi, e1, e2, e3⟩ ih
  have e1 : x27 = nI i := e1
  subst e1
  have e2 : g1 ≤ g + 2 * i := e2
  have e3 : (x26 = 1 ∧ ∀ i', i' < i → Ends P C lg en i' (if z / 10 ≤ i' then z % 10 else 0) = true) ∨ (x26 = 0 ∧ ¬ okG P C lg en z = true) := e3
  dsimp only
  unfold g_law_1523_b
  by_cases c : 4 ≤ i
  · have : i = 4 := by omega
    subst this
    rw [if_pos (show (4 : Int32) ≤ nI 4 by decide)]
    unfold g_law_1635 g_law_1650
    rcases e3 with ⟨rfl, y3⟩ | ⟨rfl, y3⟩
    · rw [if_neg n10, if_neg n10, dn_s (by omega)]
      exact (hK g1 (by omega)).1 (okG_e.mpr y3)
    · rw [if_pos rfl, if_pos rfl, dn_s (by omega)]
      exact (hK g1 (by omega)).2 y3
  · rw [if_neg (show ¬ (4 : Int32) ≤ nI i from nI_ge (b := 4) (by omega) (by omega)), if_neg (by omega)]
    obtain ⟨f1, f2, f3⟩ := hG i (by omega)
    unfold g_law_1538
    refine wl_to (fun s : (Nat → Int32) × Int32 => ∃ t, t ≤ turnsN P C ∧ s.2 = nI t ∧ ∀ t', t' < t → s.1 t' = cd (lg i t')) (fun s => 10 - s.2.toNatClampNeg) _ _ ⟨0, by omega, rfl, fun t ht => absurd ht (Nat.not_lt_zero t)⟩ (by show 10 - _ < _; omega) ?_
    rintro k1538 ⟨a28, x29⟩ ⟨t, ht, d1, d2⟩ ih2
    have d1 : x29 = nI t := d1
    subst d1
    have d2 : ∀ t', t' < t → a28 t' = cd (lg i t') := d2
    dsimp only
    unfold g_law_1538_b
    by_cases ct : turnsN P C ≤ t
    · have : t = turnsN P C := by omega
      subst this
      rw [if_pos (nI_le ct (by omega))]
      unfold g_law_1614 g_law_1615
      have go : ∀ (v : Int32) (g2 : Nat), ((v = 1 ∧ ∀ i', i' < i + 1 → Ends P C lg en i' (if z / 10 ≤ i' then z % 10 else 0) = true) ∨ (v = 0 ∧ ¬ okG P C lg en z = true)) → g2 ≤ g1 + 2 → k1523 (v, nI i + 1, g2) = some 1 := by
        intro v g2 hv hg2
        rw [nI_1]
        refine ih _ ⟨i + 1, by omega, rfl, ?_, hv⟩ ?_
        · show g2 ≤ _; omega
        · show 10 - (nI (i + 1)).toNatClampNeg < 10 - (nI i).toNatClampNeg
          rw [nI_clamp (by omega), nI_clamp (by omega)]; omega
      rcases e3 with ⟨rfl, y3⟩ | ⟨rfl, y3⟩
      · rw [if_neg n10]
        have run : ∀ L : Nat, L = (if z / 10 ≤ i then z % 10 else 0) → g_law_1597 sL a0 k85 k1512 k1523 a2 a3 x4 x5 (nI (turnsN P C)) a21 a22 x23 x24 (nI z) (nI i) (nI L) (nI (turnsN P C)) a28 σ (g1 + 1) = some 1 := by
          intro L eL
          have hL9 : L ≤ 9 := by rw [eL]; split <;> omega
          obtain ⟨r, r1, r2⟩ := dayL hL w wc hL9 (fun t ht => (f3 t ht).2) d2
          have wcL : WfC P (cw C, L, co C) := ⟨wc.1, hL9, wc.2.2⟩
          have db := (dok w wcL (sd := fun t _ => lg i t) (fun t x ht _ => (f3 t ht).2) (turnsN P C) (Nat.le_refl _)).1
          have h99 := w.2.1
          unfold g_law_1597 g_law_1614 g_law_1615
          rw [r1, bd_s, if_neg (by omega), ix_in (by omega) (by omega), nI_clamp (by omega), f1, ct2, r2.2.1]
          have eE : Ends P C lg en i L = true ↔ (dday P (cw C, L, co C) (fun t _ => lg i t) (turnsN P C)).1 = en i := decide_eq_true_iff
          by_cases cE : (dday P (cw C, L, co C) (fun t _ => lg i t) (turnsN P C)).1 = en i
          · rw [if_pos (by rw [cE])]
            refine go 1 _ (Or.inl ⟨rfl, fun i' hi' => ?_⟩) (by omega)
            by_cases ci : i' = i
            · rw [ci, ← eL]; exact eE.mpr cE
            · exact y3 i' (by omega)
          · rw [if_neg (fun y => cE ((nIc (by omega) (by omega)).mp y))]
            refine go 0 _ (Or.inr ⟨rfl, fun y => cE (eE.mp ?_)⟩) (by omega)
            have := okG_e.mp y i (by omega)
            rw [eL]; exact this
        rw [show nI z / (10 : Int32) = nI (z / 10) from pk_div (d := 10) (by omega) (by omega) (by omega)]
        by_cases ck : z / 10 ≤ i
        · rw [if_pos (nI_le ck (by omega)), show nI (z / 10) = nI z / (10 : Int32) from (pk_div (d := 10) (by omega) (by omega) (by omega)).symm, show nI z - nI z / (10 : Int32) * (10 : Int32) = nI (z % 10) from pk_rem (d := 10) (by omega) (by omega) (by omega)]
          exact run _ (by rw [if_pos ck])
        · rw [if_neg (nI_ge (by omega) (by omega))]
          exact run 0 (by rw [if_neg ck])
      · rw [if_pos rfl]
        exact go 0 _ (Or.inr ⟨rfl, y3⟩) (by omega)
    · rw [if_neg (nI_ge (by omega) (by omega)), lm6, nI_add, ix_in (by omega) (by omega), ix_in (by omega) (by omega), nI_clamp (by omega), nI_clamp (by omega), (f3 t (by omega)).1, bd_s, nI_1]
      refine ih2 _ ⟨t + 1, by omega, rfl, fun t' ht' => ?_⟩ ?_
      · show upd a28 t _ t' = _
        by_cases ci : t' = t
        · rw [ci, upS]
        · rw [upN ci]; exact d2 t' (by omega)
      · show 10 - (nI (t + 1)).toNatClampNeg < 10 - (nI t).toNatClampNeg
        rw [nI_clamp (by omega), nI_clamp (by omega)]; omega
