/-! the model's day -/
def DayM (τ : HS) (P : PP) (C : CC) (sd : Nat → Nat → Nat) (t : Nat) : Prop := τ.1 13 t = nI (dday P C sd t).1 ∧ τ.1 0 23 = nI (dday P C sd t).2.1 ∧ τ.1 0 24 = cd (dday P C sd t).2.2.1 ∧ (∀ j, j < pn P → τ.1 14 j = nI ((dday P C sd t).2.2.2 j)) ∧ ∀ i, i < t → τ.1 12 i = cd (sd i (dday P C sd i).1) ∧ τ.1 13 i = nI (dday P C sd i).1
def FrM (τ τ' : HS) : Prop := (∀ b, b ≠ 0 → b ≠ 12 → b ≠ 13 → b ≠ 14 → τ'.1 b = τ.1 b) ∧ ∀ y, y ≠ 23 → y ≠ 24 → τ'.1 0 y = τ.1 0 y
theorem FrM.rfl' (τ : HS) : FrM τ τ := ⟨fun _ _ _ _ _ => rfl, fun _ _ _ => rfl⟩
theorem FrM.tr {a b c : HS} (h : FrM a b) (h2 : FrM b c) : FrM a c := ⟨fun x h7 h8 h9 h0 => (h2.1 x h7 h8 h9 h0).trans (h.1 x h7 h8 h9 h0), fun x h7 h8 => (h2.2 x h7 h8).trans (h.2 x h7 h8)⟩
theorem FrM.rm {a b : HS} (h : FrM a b) {P : PP} {C : CC} (r : RepM a P C) : RepM b P C := r.congr ⟨h.2 1 (by omega) (by omega), h.2 2 (by omega) (by omega), h.2 3 (by omega) (by omega), h.2 4 (by omega) (by omega)⟩ (fun x z1 z2 => h.1 x (by omega) (by omega) (by omega) (by omega))
theorem e3 (k q : Nat) : (3 : Int32) * nI k + nI q = nI (3 * k + q) := by show nI 3 * nI k + nI q = _; rw [pk_mul, nI_add]
theorem m9lt : (-9 : Int32) < 0 := by decide
theorem m9nle : ¬ (0 : Int32) ≤ -9 := by decide
theorem heard_9 (k : Int32) (x : Int32) (τ : HS) : f9_isHeard k (-9) x τ = some (0, τ) := by
  unfold f9_isHeard f9_isHeard_22
  rw [if_pos m9lt]
theorem heard_c {τ : HS} {P : PP} {C : CC} (rm : RepM τ P C) (w : WfP P) {k q x : Nat} (hk : k < pn P) (hq : q < pw P k) (hx : x ≤ 99) : f9_isHeard (nI k) (nI q) (nI x) τ = some (nI (if pl P (3 * k + q) ≤ x then 1 else 0), τ) := by
  have h5 := w.1
  have h3 := (w.2.2.2 k hk).2.2.1
  have hl := (w.2.2.2 k hk).2.2.2 q hq
  unfold f9_isHeard f9_isHeard_22
  rw [if_neg (nI_pos (by omega)), e3, ix_in (by omega) (by omega), nI_clamp (by omega), ((rm.2.2.2.2.1 k hk).2.2 q hq).1]
  by_cases c : pl P (3 * k + q) ≤ x
  · rw [if_neg (nI_nlt c (by omega)), if_pos c]; rfl
  · rw [if_pos (nI_lt (by omega) (by omega)), if_neg c]; rfl
theorem worthFor_c {τ : HS} {P : PP} {C : CC} (rm : RepM τ P C) (w : WfP P) {j k q : Nat} (hj : j < pn P) (hk : k < pn P) (hq : q < pw P k) : f9_worthFor (nI j) (nI k) (nI q) τ = some (nI (gn P k q j), τ) := by
  have h5 := w.1
  have h3 := (w.2.2.2 k hk).2.2.1
  unfold f9_worthFor gn
  rw [if_pos (nI_pos' (by omega)), e3, ix_in (by omega) (by omega), ix_in (by omega) (by omega), nI_clamp (by omega), ((rm.2.2.2.2.1 k hk).2.2 q hq).2.1, ((rm.2.2.2.2.1 k hk).2.2 q hq).2.2, if_pos hj]
  by_cases c : j = k
  · rw [if_pos (by rw [c]), if_pos c]
  · rw [if_neg (fun z => c ((nIc (by omega) (by omega)).mp z)), if_neg c]
theorem left_9 (k : Int32) (x : Int32) (τ : HS) : f9_leftBy k (-9) x τ = some (x, τ) := by
  unfold f9_leftBy
  rw [if_neg m9nle]
theorem left_c {τ : HS} {P : PP} {C : CC} (rm : RepM τ P C) (w : WfP P) {k q x : Nat} (hk : k < pn P) (hq : q < pw P k) (hx : x ≤ 99) : f9_leftBy (nI k) (nI q) (nI x) τ = some (nI (if pl P (3 * k + q) ≤ x then x - pl P (3 * k + q) else 0), τ) := by
  have h5 := w.1
  have h3 := (w.2.2.2 k hk).2.2.1
  have hl := (w.2.2.2 k hk).2.2.2 q hq
  unfold f9_leftBy
  rw [if_pos (nI_pos' (by omega)), e3, ix_in (by omega) (by omega), nI_clamp (by omega), ((rm.2.2.2.2.1 k hk).2.2 q hq).1]
  by_cases c : pl P (3 * k + q) ≤ x
  · rw [if_neg (nI_nlt c (by omega)), ixc (by omega) (by omega), if_pos c, pk_sub c]
  · rw [if_pos (nI_lt (by omega) (by omega)), if_neg c]; rfl
theorem begin_m {τ : HS} {P : PP} {C : CC} (rm : RepM τ P C) (w : WfP P) (wc : WfC P C) (L : Nat) (sd : Nat → Nat → Nat) : ∃ τ', f9_beginDay τ = some τ' ∧ FrM τ τ' ∧ DayM τ' P (cw C, L, co C) sd 0 := by
  have h5 := w.1
  unfold f9_beginDay f9_beginDay_2
  refine wl_fuel (body := fun k2 p => f9_beginDay_2_b k2 p.1 p.2) (fun p : Int32 × HS => ∃ i, i ≤ 5 ∧ p.1 = nI i ∧ (∀ b, b ≠ 14 → p.2.1 b = τ.1 b) ∧ ∀ x, x < i → p.2.1 14 x = 0) (fun p => 10 - p.1.toNatClampNeg) (fun r : HS => FrM τ r ∧ DayM r P (cw C, L, co C) sd 0) (0, τ) ⟨0, by omega, rfl, fun _ _ => rfl, fun x hx => absurd hx (Nat.not_lt_zero x)⟩ (by show 10 - _ < _; omega) ?_
  rintro kk ⟨x6, τ2⟩ ⟨i, hi, e, g1, g3⟩ ih
  have e : x6 = nI i := e
  subst e
  have g1 : ∀ b, b ≠ 14 → τ2.1 b = τ.1 b := g1
  have g3 : ∀ x, x < i → τ2.1 14 x = 0 := g3
  show ∃ r, f9_beginDay_2_b kk (nI i) τ2 = some r ∧ _
  unfold f9_beginDay_2_b
  by_cases c : 5 ≤ i
  · have : i = 5 := by omega
    subst this
    have f1 : FrM τ (uI (uI τ2 0 23 0) 0 24 (-9)) := ⟨fun b h0 h1 h2 h3 => by rw [uI_other h0, uI_other h0]; exact g1 b h3, fun y h1 h2 => by rw [uI_at, if_neg (by omega), uI_at, if_neg (by omega), g1 0 (by omega)]⟩
    rw [if_pos (show (5 : Int32) ≤ nI 5 by decide), fw_m (f1.rm rm) w wc, bd_s, if_neg (by decide)]
    refine ⟨_, rfl, ⟨fun b h0 h1 h2 h3 => by rw [uI_other h2]; exact f1.1 b h0 h1 h2 h3, fun y h1 h2 => by rw [uI_other (by omega)]; exact f1.2 y h1 h2⟩, ?_, ?_, ?_, fun j hj => ?_, fun i h => absurd h (Nat.not_lt_zero i)⟩
    · show _ = nI (fw P C)
      rw [uI_at]; exact if_pos ⟨rfl, rfl⟩
    · simp [uI_at]; rfl
    · simp [uI_at]; rfl
    · rw [uI_other (by omega), uI_other (by omega), uI_other (by omega), g3 j (by omega)]; rfl
  · rw [if_neg (show ¬ (5 : Int32) ≤ nI i from nI_ge (b := 5) (by omega) (by omega)), ix_in (by omega) (by omega), nI_clamp (by omega), nI_1]
    refine ih _ ⟨i + 1, by omega, rfl, fun b hb => by show (uI τ2 14 _ _).1 b = _; rw [uI_other hb]; exact g1 b hb, fun x hx => ?_⟩ ?_
    · show (uI τ2 14 i 0).1 14 x = _
      rw [uI_at]
      by_cases c1 : x = i
      · rw [if_pos ⟨rfl, c1⟩]
      · rw [if_neg (fun z => c1 z.2)]; exact g3 x (by omega)
    · show 10 - (nI (i + 1)).toNatClampNeg < 10 - (nI i).toNatClampNeg
      rw [nI_clamp (by omega), nI_clamp (by omega)]; omega
theorem turn_m {τ : HS} {t L : Nat} {P : PP} {C : CC} (rm : RepM τ P C) (w : WfP P) (wc : WfC P C) (hL : L ≤ 9) {sd : Nat → Nat → Nat} (hs : SaidOk P C sd) (ht : t < turnsN P C) (hd : DayM τ P (cw C, L, co C) sd t) : ∃ τ', f9_goTurn (nI t) (cd (sd t (dday P (cw C, L, co C) sd t).1)) (nI L) τ = some τ' ∧ FrM τ τ' ∧ DayM τ' P (cw C, L, co C) sd (t + 1) := by
  have h5 := w.1
  have h99 := w.2.1
  have h6 := turns_le C w
  have wc' : WfC P (cw C, L, co C) := ⟨wc.1, hL, wc.2.2⟩
  have ok := dok (C := (cw C, L, co C)) w wc' (sd := sd) hs t (by show t ≤ turnsN P C; omega)
  have hw := who_lt wc ht
  have hc := hs t _ ht ok.1
  obtain ⟨d1, d3, d4, d5, d6⟩ := hd
  have step : dday P (cw C, L, co C) sd (t + 1) = dstep P (cw C, L, co C) t (sd t (dday P (cw C, L, co C) sd t).1) (dday P (cw C, L, co C) sd t) := rfl
  have arr : ∀ τ2 : HS, τ2.1 12 = (uI τ 12 t (cd (sd t (dday P (cw C, L, co C) sd t).1))).1 12 → (∀ i, i ≤ t → τ2.1 13 i = τ.1 13 i) → ∀ i, i < t + 1 → τ2.1 12 i = cd (sd i (dday P (cw C, L, co C) sd i).1) ∧ τ2.1 13 i = nI (dday P (cw C, L, co C) sd i).1 := by
    intro σ2 e8 e9 i hi
    rw [e8, e9 i (by omega), uI_at]
    by_cases c : i = t
    · subst c; simp; exact d1
    · rw [if_neg (fun z => c z.2)]; exact d6 i (by omega)
  generalize hcc : sd t (dday P (cw C, L, co C) sd t).1 = c at *
  generalize hdd : dday P (cw C, L, co C) sd t = d at *
  have ok1 := ok.1
  have ok2 := ok.2.1
  have ok3 := ok.2.2.1
  unfold f9_goTurn
  rw [who_m rm w wc ht, bd_s, ix_in (by omega) (by omega), ix_in (by omega) (by omega), nI_clamp (by omega), d1]
  generalize hτ3 : uI τ 12 t (cd c) = τ3 at *
  have f3 : FrM τ τ3 := by
    subst hτ3
    exact ⟨fun b h0 h1 h2 h3 => uI_other h1 _ _, fun y h1 h2 => by rw [uI_other (by omega)]⟩
  have e0 : τ3.1 0 = τ.1 0 := by subst hτ3; exact uI_other (by omega) _ _
  have e13 : τ3.1 13 = τ.1 13 := by subst hτ3; exact uI_other (by omega) _ _
  have e14 : τ3.1 14 = τ.1 14 := by subst hτ3; exact uI_other (by omega) _ _
  have rm3 := f3.rm rm
  have fin : ∀ (τ4 : HS) (y : Nat), y ≤ 99 → (∀ τ5 : HS, RepM τ5 P C → f9_leftBy (nI (who P C t)) (cd c) (nI d.1) τ5 = some (nI y, τ5)) → FrM τ3 τ4 → τ4.1 12 = τ3.1 12 → τ4.1 13 = τ3.1 13 → (dstep P (cw C, L, co C) t c d).1 = bh P (cw C, L, co C) y → τ4.1 0 23 = nI (dstep P (cw C, L, co C) t c d).2.1 → τ4.1 0 24 = cd (dstep P (cw C, L, co C) t c d).2.2.1 → (∀ j, j < pn P → τ4.1 14 j = nI ((dstep P (cw C, L, co C) t c d).2.2.2 j)) → ∃ τ', f9_goTurn_100 (nI t) (cd c) (nI L) (nI (who P C t)) (nI d.1) τ4 = some τ' ∧ FrM τ τ' ∧ DayM τ' P (cw C, L, co C) sd (t + 1) := by
    intro τ4 y hy hleft f4 u12 u13 uu v7 v8 v9
    unfold f9_goTurn_100
    rw [hleft τ4 (f4.rm rm3), bd_s, bh_m (f4.rm rm3) w wc hy hL, bd_s, nI_1, ix_in (by omega) (by omega), nI_clamp (by omega)]
    refine ⟨_, rfl, (f3.tr f4).tr ⟨fun b h0 h1 h2 h3 => uI_other h2 _ _, fun y h1 h2 => by rw [uI_other (by omega)]⟩, ?_, ?_, ?_, fun j hj => ?_, arr _ ?_ (fun i hi => ?_)⟩
    · rw [step, uu, uI_at, if_pos ⟨rfl, rfl⟩]
    · rw [step, uI_other (by omega), v7]
    · rw [step, uI_other (by omega), v8]
    · rw [step, uI_other (by omega), v9 j hj]
    · rw [uI_other (by omega), u12]
    · rw [uI_at, if_neg (by omega), u13, e13]
  by_cases c9 : c = 9
  · subst c9
    have ds : dstep P (cw C, L, co C) t 9 d = (bh P (cw C, L, co C) d.1, d.2.1, d.2.2.1, d.2.2.2) := if_pos rfl
    have hf := fin τ3 d.1 (by omega) (fun τ5 _ => left_9 _ _ _) (FrM.rfl' _) rfl rfl (by rw [ds]) (by rw [ds, e0, d3]) (by rw [ds, e0, d4]) (fun j hj => by rw [ds, e14, d5 j hj])
    rw [cd_9] at hf ⊢
    rw [heard_9, bd_s, if_pos rfl, if_pos m9lt]
    exact hf
  · have hcw : c < pw P (who P C t) := by omega
    have h3 := (w.2.2.2 _ hw).2.2.1
    have hl := (w.2.2.2 _ hw).2.2.2 c hcw
    have e9c : cd c = nI c := cd_z (by omega)
    have hleft : ∀ τ5 : HS, RepM τ5 P C → f9_leftBy (nI (who P C t)) (cd c) (nI d.1) τ5 = some (nI (if pl P (3 * who P C t + c) ≤ d.1 then d.1 - pl P (3 * who P C t + c) else 0), τ5) := fun τ5 r => by rw [e9c]; exact left_c r w hw hcw (by omega)
    have fin2 := fun (τ4 : HS) (y : Nat) (hy : y ≤ 99) (e : (if pl P (3 * who P C t + c) ≤ d.1 then d.1 - pl P (3 * who P C t + c) else 0) = y) => fin τ4 y hy (fun τ5 r => by rw [hleft τ5 r, e])
    rw [e9c] at fin2 ⊢
    rw [heard_c rm3 w hw hcw (by omega), bd_s]
    by_cases c2 : pl P (3 * who P C t + c) ≤ d.1
    · have ds : dstep P (cw C, L, co C) t c d = (bh P (cw C, L, co C) (d.1 - pl P (3 * who P C t + c)), d.2.1 + 1, d.2.2.1, fun j => d.2.2.2 j + gn P (who P C t) c j) := by
        unfold dstep; rw [if_neg c9]; exact if_pos c2
      rw [if_pos c2, if_neg (show ¬ nI 1 = 0 from n10), e0, d3, nI_1]
      unfold f9_goTurn_47
      refine wl_fuel (body := fun k47 p => f9_goTurn_47_b k47 (nI t) (nI c) (nI L) (nI (who P C t)) (nI d.1) p.1 p.2) (fun p : Int32 × HS => ∃ i, i ≤ pn P ∧ p.1 = nI i ∧ (∀ b, b ≠ 14 → p.2.1 b = (uI τ3 0 23 (nI (d.2.1 + 1))).1 b) ∧ (∀ x, x < i → p.2.1 14 x = nI (d.2.2.2 x + gn P (who P C t) c x)) ∧ ∀ x, i ≤ x → p.2.1 14 x = τ.1 14 x) (fun p => 10 - p.1.toNatClampNeg) (fun r : HS => FrM τ r ∧ DayM r P (cw C, L, co C) sd (t + 1)) (0, uI τ3 0 23 (nI (d.2.1 + 1))) ⟨0, by omega, rfl, fun _ _ => rfl, fun x hx => absurd hx (Nat.not_lt_zero x), fun x _ => by show (uI τ3 0 23 _).1 14 x = _; rw [uI_other (by omega), e14]⟩ (by show 10 - _ < _; omega) ?_
      rintro kk ⟨x6, τ2⟩ ⟨i, hi, e, g1, g3, g4⟩ ih
      have e : x6 = nI i := e
      subst e
      have g1 : ∀ b, b ≠ 14 → τ2.1 b = (uI τ3 0 23 (nI (d.2.1 + 1))).1 b := g1
      have g3 : ∀ x, x < i → τ2.1 14 x = nI (d.2.2.2 x + gn P (who P C t) c x) := g3
      have g4 : ∀ x, i ≤ x → τ2.1 14 x = τ.1 14 x := g4
      have f2 : FrM τ3 τ2 := ⟨fun b h0 h1 h2 h3 => by rw [g1 b h3, uI_other h0], fun y h1 h2 => by rw [g1 0 (by omega), uI_at, if_neg (by omega)]⟩
      show ∃ r, f9_goTurn_47_b kk (nI t) (nI c) (nI L) (nI (who P C t)) (nI d.1) (nI i) τ2 = some r ∧ _
      unfold f9_goTurn_47_b
      rw [(f2.rm rm3).1]
      by_cases c4 : pn P ≤ i
      · have : i = pn P := by omega
        subst this
        rw [if_pos (nI_le c4 (by omega))]
        exact fin2 τ2 _ (by omega) (if_pos c2) f2 (by rw [g1 12 (by omega), uI_other (by omega)]) (by rw [g1 13 (by omega), uI_other (by omega)]) (by rw [ds]) (by rw [ds, g1 0 (by omega), uI_at, if_pos ⟨rfl, rfl⟩]) (by rw [ds, g1 0 (by omega), uI_at, if_neg (by omega), e0, d4]) (fun j hj => by rw [ds]; exact g3 j hj)
      · rw [if_neg (nI_ge (by omega) (by omega)), ix_in (by omega) (by omega), worthFor_c (f2.rm rm3) w (by omega) hw hcw, bd_s, ix_in (by omega) (by omega), nI_clamp (by omega), g4 i (by omega), d5 i (by omega), nI_add, nI_1]
        refine ih _ ⟨i + 1, by omega, rfl, fun b hb => by show (uI τ2 14 _ _).1 b = _; rw [uI_other hb]; exact g1 b hb, fun x hx => ?_, fun x hx => ?_⟩ ?_
        · show (uI τ2 14 i _).1 14 x = _
          rw [uI_at]
          by_cases c1 : x = i
          · rw [if_pos ⟨rfl, c1⟩, c1]
          · rw [if_neg (fun z => c1 z.2)]; exact g3 x (by omega)
        · show (uI τ2 14 i _).1 14 x = _
          rw [uI_at, if_neg (by omega)]; exact g4 x (by omega)
        · show 10 - (nI (i + 1)).toNatClampNeg < 10 - (nI i).toNatClampNeg
          rw [nI_clamp (by omega), nI_clamp (by omega)]; omega
    · have ds : dstep P (cw C, L, co C) t c d = (bh P (cw C, L, co C) 0, d.2.1, (if d.2.2.1 = 9 then t else d.2.2.1), d.2.2.2) := by
        unfold dstep; rw [if_neg c9]; exact if_neg c2
      rw [if_neg c2, if_pos (show nI 0 = 0 from rfl), if_neg (nI_pos (by omega)), e0, d4]
      by_cases c3 : d.2.2.1 = 9
      · rw [c3, cd_9, if_neg m9nle]
        refine fin2 _ 0 (by omega) (if_neg c2) ⟨fun b h0 h1 h2 h3 => uI_other h0 _ _, fun y h1 h2 => by rw [uI_at, if_neg (by omega)]⟩ (uI_other (by omega) _ _) (uI_other (by omega) _ _) (by rw [ds]) ?_ ?_ (fun j hj => ?_)
        · rw [ds, uI_at, if_neg (by omega), e0, d3]
        · rw [ds, uI_at, if_pos ⟨rfl, rfl⟩]; dsimp only; rw [if_pos c3, cd_z (by omega)]
        · rw [ds, uI_other (by omega), e14, d5 j hj]
      · rw [cd_z (by omega), if_pos (nI_pos' (by omega))]
        refine fin2 τ3 0 (by omega) (if_neg c2) (FrM.rfl' _) rfl rfl (by rw [ds]) (by rw [ds, e0, d3]) ?_ (fun j hj => by rw [ds, e14, d5 j hj])
        rw [ds, e0, d4]; dsimp only; rw [if_neg c3]
