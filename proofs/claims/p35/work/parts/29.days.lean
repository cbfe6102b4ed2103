/-! days, turn by turn, on both sides -/
theorem n9n (a : Nat) (h : a < 1000000) : ¬ nI a = -9 := by
  intro e
  have := congrArg Int32.toInt e
  rw [nI_toInt (by omega), tn9] at this
  omega
theorem nIc {k c : Nat} (hk : k < 1000000) (hc : c < 1000000) : nI k = nI c ↔ k = c := nI_eq (by omega) (by omega)
theorem turns_le {P : PP} (C : CC) (w : WfP P) : turnsN P C ≤ 6 := by
  have := w.1
  unfold turnsN; split <;> omega
theorem turn_pos {P : PP} {C : CC} (wc : WfC P C) {t : Nat} (h : t < turnsN P C) : 0 < pn P := by
  have := wc.2.2.1
  unfold turnsN at h; split at h <;> omega
theorem who_lt {P : PP} {C : CC} (wc : WfC P C) {t : Nat} (h : t < turnsN P C) : who P C t < pn P := by
  have := turn_pos wc h
  unfold who
  apply wc.2.2.2.1
  split <;> omega
theorem whoIn_g {σ : HS} {g t : Nat} {P : PP} {C : CC} (rp : RepP σ P) (rc : RepC σ g P C) (w : WfP P) (wc : WfC P C) (ht : t < turnsN P C) : f0_whoIn g (nI t) σ = some (nI (who P C t), σ) := by
  have h5 := w.1
  have h0 := turn_pos wc ht
  have h6 := turns_le C w
  unfold f0_whoIn f0_whoIn_20 who
  rw [rp.1]
  by_cases c : t < pn P
  · rw [if_neg (nI_ge c (by omega)), if_pos c]; exact whoAt_g rc w c
  · rw [if_pos (nI_le (by omega) (by omega)), if_neg c]
    rw [show (0 : Int32) = nI 0 from rfl]; exact whoAt_g rc w h0
theorem who_m {τ : HS} {t : Nat} {P : PP} {C : CC} (rm : RepM τ P C) (w : WfP P) (wc : WfC P C) (ht : t < turnsN P C) : f9_speakerOf (nI t) τ = some (nI (who P C t), τ) := by
  have h5 := w.1
  have h0 := turn_pos wc ht
  have h6 := turns_le C w
  unfold f9_speakerOf
  have e : t % pn P = if t < pn P then t else 0 := by
    by_cases c : t < pn P
    · rw [if_pos c, Nat.mod_eq_of_lt c]
    · rw [if_neg c]
      have : t = pn P := by unfold turnsN at ht; split at ht <;> omega
      rw [this, Nat.mod_self]
  have l : (if t < pn P then t else 0) < pn P := by split <;> omega
  rw [rm.1, if_neg (nI_ne0 h0 (by omega)), pk_rem (by omega) h0 (by omega), e, ix_in (by omega) (by omega), nI_clamp (by omega), rm.2.2.2.2.2 _ l]
  rfl
theorem fw_le {P : PP} {C : CC} : fw P C ≤ pj P := by
  unfold fw; split
  · exact Nat.div_le_self _ _
  · exact Nat.le_refl _
theorem bh_le {P : PP} {C : CC} {x : Nat} (h : x ≤ pj P) : bh P C x ≤ pj P := by
  unfold bh; split
  · exact Nat.div_le_self _ _
  · split <;> omega
theorem fw_g {σ : HS} {g : Nat} {P : PP} {C : CC} (rp : RepP σ P) (rc : RepC σ g P C) (w : WfP P) (wc : WfC P C) : f0_firstWater g σ = some (nI (fw P C), σ) := by
  have h5 := w.1
  have h6 := w.2.1
  have h7 := wc.1
  have h8 := wc.2.2.1
  unfold f0_firstWater f0_firstWater_36 fw
  rw [rc.1, rp.1, rp.2.1]
  by_cases c : cw C = 1
  · have : 0 < pn P := by
      rcases Nat.eq_zero_or_pos (pn P) with z | z
      · have := h8 z; omega
      · exact z
    rw [if_pos (by rw [c]; rfl), if_neg (nI_nle this (by omega)), if_neg (nI_ne0 this (by omega)), pk_div (by omega) this (by omega), if_pos c]
  · rw [if_neg (fun e => c ((nIc (by omega) (by omega)).mp (e.trans rfl))), if_neg c]
theorem fw_m {τ : HS} {P : PP} {C : CC} (rm : RepM τ P C) (w : WfP P) (wc : WfC P C) : f9_startWater τ = some (nI (fw P C), τ) := by
  have h5 := w.1
  have h6 := w.2.1
  have h7 := wc.1
  have h8 := wc.2.2.1
  unfold f9_startWater fw
  rw [rm.2.2.2.1, rm.1, rm.2.1]
  by_cases c : cw C = 1
  · have : 0 < pn P := by
      rcases Nat.eq_zero_or_pos (pn P) with z | z
      · have := h8 z; omega
      · exact z
    rw [if_pos (by rw [c]; rfl), if_neg (nI_ne0 this (by omega)), pk_div (by omega) this (by omega), if_pos c]
  · rw [if_neg (fun e => c ((nIc (by omega) (by omega)).mp (e.trans rfl))), if_neg c]
theorem wb_g {σ : HS} {g x : Nat} {P : PP} {C : CC} (rp : RepP σ P) (rc : RepC σ g P C) (w : WfP P) (wc : WfC P C) (hx : x ≤ 99) : f0_waterBehind g (nI x) σ = some (nI (bh P C x), σ) := by
  have h5 := w.1
  have h6 := w.2.1
  have h7 := wc.1
  have h8 := wc.2.1
  have hf := fw_g rp rc w wc
  unfold f0_waterBehind f0_waterBehind_31 bh
  rw [rc.1, rc.2.1]
  by_cases c : cw C = 1
  · rw [if_pos (by rw [c]; rfl), hf, bd_s, if_pos c]; unfold fw; rw [if_pos c]
  · rw [if_neg (fun e => c ((nIc (by omega) (by omega)).mp (e.trans rfl))), if_neg c]
    have z : (if nI x ≤ nI (cl C) then (if nI (cw C) = (2 : Int32) then some ((0 : Int32) / 2, σ) else some (0, σ)) else (if nI (cw C) = (2 : Int32) then some ((nI x - nI (cl C)) / 2, σ) else some (nI x - nI (cl C), σ))) = some (nI (if cw C = 2 then (x - cl C) / 2 else x - cl C), σ) := by
      by_cases c2 : cw C = 2
      · have y2 : nI (cw C) = (2 : Int32) := by rw [c2]; rfl
        rw [if_pos y2, if_pos y2, if_pos c2]
        by_cases c3 : x ≤ cl C
        · rw [if_pos (nI_le c3 (by omega)), show (x - cl C) / 2 = 0 by omega]; rfl
        · rw [if_neg (nI_ge (by omega) (by omega)), pk_sub (by omega)]
          show some (nI (x - cl C) / nI 2, σ) = _
          rw [pk_div (by omega) (by omega) (by omega)]
      · have n2 : ¬ nI (cw C) = (2 : Int32) := fun e => c2 ((nIc (by omega) (by omega)).mp (e.trans rfl))
        rw [if_neg n2, if_neg n2, if_neg c2]
        by_cases c3 : x ≤ cl C
        · rw [if_pos (nI_le c3 (by omega)), show x - cl C = 0 by omega]; rfl
        · rw [if_neg (nI_ge (by omega) (by omega)), pk_sub (by omega)]
    exact z
theorem greater0 {x L : Nat} (hx : x ≤ 1000) (hL : L ≤ 1000) (τ : HS) : f9_greater 0 (nI x - nI L) τ = some (nI (x - L), τ) := by
  unfold f9_greater
  by_cases c3 : L ≤ x
  · rw [pk_sub c3, if_pos (nI_pos' (by omega))]
  · have hs : (nI x - nI L).toInt = (x : Int) - L := pk_sub_toInt (by omega) (by omega)
    rw [if_neg (by rw [Int32.le_iff_toInt_le, hs]; show ¬ (0 : Int) ≤ _; omega), show x - L = 0 by omega]
    rfl
theorem bh_m {τ : HS} {x L : Nat} {P : PP} {C : CC} (rm : RepM τ P C) (w : WfP P) (wc : WfC P C) (hx : x ≤ 99) (hL : L ≤ 9) : f9_behind (nI x) (nI L) τ = some (nI (bh P (cw C, L, co C) x), τ) := by
  have h5 := w.1
  have h6 := w.2.1
  have h7 := wc.1
  have hf := fw_m rm w wc
  unfold f9_behind bh
  rw [rm.2.2.2.1]
  show _ = some (nI (if cw C = 1 then pj P / pn P else if cw C = 2 then (x - L) / 2 else x - L), τ)
  by_cases c : cw C = 1
  · rw [if_pos (by rw [c]; rfl), hf, bd_s, if_pos c]; unfold fw; rw [if_pos c]
  · rw [if_neg (fun e => c ((nIc (by omega) (by omega)).mp (e.trans rfl))), if_neg c, greater0 (by omega) (by omega), bd_s, rm.2.2.2.1]
    by_cases c2 : cw C = 2
    · rw [if_pos (by rw [c2]; rfl), if_pos c2]
      show some (nI (x - L) / nI 2, τ) = _
      rw [pk_div (by omega) (by omega) (by omega)]
    · rw [if_neg (fun e => c2 ((nIc (by omega) (by omega)).mp (e.trans rfl))), if_neg c2]
/-! bounds of a day -/
def SaidOk (P : PP) (C : CC) (sd : Nat → Nat → Nat) : Prop := ∀ t x, t < turnsN P C → x ≤ pj P → sd t x = 9 ∨ sd t x < pw P (who P C t)
def DOk (P : PP) (t : Nat) (d : DD) : Prop := d.1 ≤ pj P ∧ d.2.1 ≤ t ∧ (d.2.2.1 = 9 ∨ d.2.2.1 < t) ∧ (∀ j, d.2.2.2 j ≤ 9 * t) ∧ ∀ j, pn P ≤ j → d.2.2.2 j = 0
theorem gn_le {P : PP} (w : WfP P) {k q : Nat} (hk : k < pn P) (hq : q < pw P k) (j : Nat) : gn P k q j ≤ 9 := by
  have := (w.2.2.2 k hk).2.2.2 q hq
  unfold gn; split
  · split <;> omega
  · omega
theorem gn_z {P : PP} {k q j : Nat} (h : pn P ≤ j) : gn P k q j = 0 := if_neg (by omega)
theorem dok_step {P : PP} {C : CC} (w : WfP P) (wc : WfC P C) {t c : Nat} {d : DD} (ht : t < turnsN P C) (hd : DOk P t d) (hc : c = 9 ∨ c < pw P (who P C t)) : DOk P (t + 1) (dstep P C t c d) := by
  obtain ⟨d1, d2, d3, d4, d5⟩ := hd
  have hw := who_lt wc ht
  unfold dstep
  by_cases c9 : c = 9
  · rw [if_pos c9]
    exact ⟨bh_le d1, by show d.2.1 ≤ _; omega, by show d.2.2.1 = 9 ∨ d.2.2.1 < _; omega, fun j => by have := d4 j; show d.2.2.2 j ≤ _; omega, d5⟩
  · rw [if_neg c9]
    have hc : c < pw P (who P C t) := by omega
    by_cases c2 : pl P (3 * who P C t + c) ≤ d.1
    · rw [if_pos c2]
      refine ⟨bh_le (by omega), by show d.2.1 + 1 ≤ _; omega, by show d.2.2.1 = 9 ∨ d.2.2.1 < _; omega, fun j => ?_, fun j hj => ?_⟩
      · have := d4 j
        have := gn_le w hw hc j
        show d.2.2.2 j + gn P (who P C t) c j ≤ _; omega
      · show d.2.2.2 j + gn P (who P C t) c j = 0
        rw [d5 j hj, gn_z hj]
    · rw [if_neg c2]
      refine ⟨bh_le (Nat.zero_le _), by show d.2.1 ≤ _; omega, ?_, fun j => by have := d4 j; show d.2.2.2 j ≤ _; omega, d5⟩
      show (if d.2.2.1 = 9 then t else d.2.2.1) = 9 ∨ (if d.2.2.1 = 9 then t else d.2.2.1) < t + 1
      split <;> omega
theorem dok {P : PP} {C : CC} (w : WfP P) (wc : WfC P C) {sd : Nat → Nat → Nat} (hs : SaidOk P C sd) : ∀ t, t ≤ turnsN P C → DOk P t (dday P C sd t) := by
  intro t
  induction t with
  | zero => intro _; exact ⟨fw_le, Nat.le_refl _, Or.inl rfl, fun _ => Nat.zero_le _, fun _ _ => rfl⟩
  | succ t ih =>
    intro ht
    have h := ih (by omega)
    exact dok_step w wc (by omega) h (hs t _ (by omega) h.1)
/-! the class's day in a course: group g -/
def DayC (σ : HS) (g : Nat) (P : PP) (C : CC) (sd : Nat → Nat → Nat) (t : Nat) : Prop := σ.1 (g + 7) 5 = nI t ∧ σ.1 (g + 7) 6 = nI (dday P C sd t).1 ∧ σ.1 (g + 7) 7 = nI (dday P C sd t).2.1 ∧ σ.1 (g + 7) 8 = cd (dday P C sd t).2.2.1 ∧ σ.2 (g + 7) 9 = lN (pkw (dday P C sd t).2.2.2 5) ∧ ∀ i, i < t → σ.1 (g + 8) i = cd (sd i (dday P C sd i).1) ∧ σ.1 (g + 9) i = nI (dday P C sd i).1
def FrC (g : Nat) (σ σ' : HS) : Prop := (∀ b, b ≠ g + 7 → b ≠ g + 8 → b ≠ g + 9 → σ'.1 b = σ.1 b) ∧ ∀ b, b ≠ g + 7 → σ'.2 b = σ.2 b
theorem FrC.tr {g : Nat} {a b c : HS} (h : FrC g a b) (h2 : FrC g b c) : FrC g a c := ⟨fun x h7 h8 h9 => (h2.1 x h7 h8 h9).trans (h.1 x h7 h8 h9), fun x h7 => (h2.2 x h7).trans (h.2 x h7)⟩
theorem FrC.rp {g : Nat} {a b : HS} (h : FrC g a b) (hg : 20 ≤ g) {P : PP} (r : RepP a P) : RepP b P := r.congr (fun x z1 z2 => ⟨h.1 x (by omega) (by omega) (by omega), h.2 x (by omega)⟩)
theorem FrC.rc {g : Nat} {a b : HS} (h : FrC g a b) {P : PP} {C : CC} (r : RepC a g P C) : RepC b g P C := r.congr (h.1 g (by omega) (by omega) (by omega)) (h.1 (g + 1) (by omega) (by omega) (by omega))
theorem begin_c {σ : HS} {g : Nat} {P : PP} {C : CC} (hg : 20 ≤ g) (rp : RepP σ P) (rc : RepC σ g P C) (w : WfP P) (wc : WfC P C) (sd : Nat → Nat → Nat) : ∃ σ', f1_begin g σ = some σ' ∧ FrC g σ σ' ∧ DayC σ' g P C sd 0 := by
  have f1 : FrC g σ (uI σ (g + 7) 5 0) := ⟨fun b h7 h8 h9 => uI_other h7 _ _, fun b _ => rfl⟩
  unfold f1_begin
  rw [fw_g (f1.rp hg rp) (f1.rc rc) w wc, bd_s]
  refine ⟨_, rfl, ⟨fun b h7 h8 h9 => by rw [uL_1, uI_other h7, uI_other h7, uI_other h7, uI_other h7], fun b h7 => by rw [uL_other h7]; rfl⟩, ?_, ?_, ?_, ?_, ?_, fun i h => absurd h (Nat.not_lt_zero i)⟩
  · simp [uL_1, uI_at]; rfl
  · simp [uL_1, uI_at]; rfl
  · simp [uL_1, uI_at]; rfl
  · simp [uL_1, uI_at]; rfl
  · have z : (dday P C sd 0).2.2.2 = fun _ => 0 := rfl
    rw [uL_at, if_pos ⟨rfl, rfl⟩, z, show pkw (fun _ => 0) 5 = 0 by simp [pkw5]]; rfl
theorem speak_c {σ : HS} {g t : Nat} {P : PP} {C : CC} (hg : 20 ≤ g) (rp : RepP σ P) (rc : RepC σ g P C) (w : WfP P) (wc : WfC P C) {sd : Nat → Nat → Nat} (hs : SaidOk P C sd) (ht : t < turnsN P C) (hd : DayC σ g P C sd t) : ∃ σ', f1_speak g (cd (sd t (dday P C sd t).1)) σ = some σ' ∧ FrC g σ σ' ∧ DayC σ' g P C sd (t + 1) := by
  have h5 := w.1
  have h99 := w.2.1
  have h6 := turns_le C w
  have ok := dok w wc hs t (by omega)
  have hw := who_lt wc ht
  have hc := hs t _ ht ok.1
  obtain ⟨d1, d2, d3, d4, d5, d6⟩ := hd
  have step : dday P C sd (t + 1) = dstep P C t (sd t (dday P C sd t).1) (dday P C sd t) := rfl
  have arr : ∀ σ2 : HS, σ2.1 (g + 8) = (uI σ (g + 8) t (cd (sd t (dday P C sd t).1))).1 (g + 8) → σ2.1 (g + 9) = (uI σ (g + 9) t (nI (dday P C sd t).1)).1 (g + 9) → ∀ i, i < t + 1 → σ2.1 (g + 8) i = cd (sd i (dday P C sd i).1) ∧ σ2.1 (g + 9) i = nI (dday P C sd i).1 := by
    intro σ2 e8 e9 i hi
    rw [e8, e9, uI_at, uI_at]
    by_cases c : i = t
    · subst c; simp
    · rw [if_neg (fun z => c z.2), if_neg (fun z => c z.2)]; exact d6 i (by omega)
  generalize hcc : sd t (dday P C sd t).1 = c at *
  generalize hdd : dday P C sd t = d at *
  unfold f1_speak
  rw [d1, whoIn_g rp rc w wc ht, bd_s, d1, set_in (by omega) (by omega), bd_s, show (uI σ (g + 8) t (cd c)).1 (g + 7) 5 = nI t by rw [uI_other (by omega)]; exact d1, show (uI σ (g + 8) t (cd c)).1 (g + 7) 6 = nI d.1 by rw [uI_other (by omega)]; exact d2, set_in (by omega) (by omega), bd_s]
  generalize hσ3 : uI (uI σ (g + 8) t (cd c)) (g + 9) t (nI d.1) = σ3
  have f3 : FrC g σ σ3 := by
    subst hσ3
    exact ⟨fun b h7 h8 h9 => by rw [uI_other h9, uI_other h8], fun b _ => rfl⟩
  have e7 : σ3.1 (g + 7) = σ.1 (g + 7) := by subst hσ3; rw [uI_other (by omega), uI_other (by omega)]
  have e72 : σ3.2 = σ.2 := by subst hσ3; rfl
  have e8 : σ3.1 (g + 8) = (uI σ (g + 8) t (cd c)).1 (g + 8) := by subst hσ3; rw [uI_other (by omega)]
  have e9 : σ3.1 (g + 9) = (uI σ (g + 9) t (nI d.1)).1 (g + 9) := by subst hσ3; rw [uI_same, uI_same, uI_other (by omega)]
  have rp3 := f3.rp hg rp
  have rc3 := f3.rc rc
  -- the end of a turn
  have fin : ∀ (σ4 : HS) (y : Nat), y ≤ 99 → FrC g σ3 σ4 → σ4.1 (g + 8) = σ3.1 (g + 8) → σ4.1 (g + 9) = σ3.1 (g + 9) → σ4.1 (g + 7) 5 = nI t → σ4.1 (g + 7) 6 = nI y → (dstep P C t c d).1 = bh P C y → σ4.1 (g + 7) 7 = nI (dstep P C t c d).2.1 → σ4.1 (g + 7) 8 = cd (dstep P C t c d).2.2.1 → σ4.2 (g + 7) 9 = lN (pkw (dstep P C t c d).2.2.2 5) → ∃ σ', f1_speak_143 g σ4 = some σ' ∧ FrC g σ σ' ∧ DayC σ' g P C sd (t + 1) := by
    intro σ4 y hy f4 u8 u9 u5 u6 uu v7 v8 v9
    unfold f1_speak_143
    rw [u6, wb_g (f4.rp hg rp3) (f4.rc rc3) w wc hy, bd_s]
    refine ⟨_, rfl, (f3.tr f4).tr ⟨fun b h7 h8 h9 => by rw [uI_other h7, uI_other h7], fun b _ => rfl⟩, ?_, ?_, ?_, ?_, ?_, arr _ ?_ ?_⟩
    · simp [uI_at, u5]; rw [nI_1]
    · rw [step, uu]; simp [uI_at]
    · rw [step]; simp [uI_at]; exact v7
    · rw [step]; simp [uI_at]; exact v8
    · rw [step]; exact v9
    · rw [uI_other (by omega), uI_other (by omega), u8, e8]
    · rw [uI_other (by omega), uI_other (by omega), u9, e9]
  by_cases c9 : c = 9
  · subst c9
    have ds : dstep P C t 9 d = (bh P C d.1, d.2.1, d.2.2.1, d.2.2.2) := if_pos rfl
    unfold f1_speak_58
    rw [if_pos cd_9, e7, d2, if_pos (nI_pos' (by have := ok.1; omega)), if_pos cd_9]
    exact fin σ3 d.1 (by have := ok.1; omega) ⟨fun _ _ _ _ => rfl, fun _ _ => rfl⟩ rfl rfl (by rw [e7, d1]) (by rw [e7, d2]) (by rw [ds]) (by rw [ds, e7, d3]) (by rw [ds, e7, d4]) (by rw [ds, e72, d5])
  · have hcw : c < pw P (who P C t) := by omega
    have h3 := (w.2.2.2 _ hw).2.2.1
    have hl := (w.2.2.2 _ hw).2.2.2 c hcw
    have ok1 := ok.1
    have ok2 := ok.2.1
    rw [if_neg (cd_m9 (by omega)), cd_z (by omega), lengthOf_5 rp3 w hw hcw, bd_s]
    unfold f1_speak_58 f1_speak_88
    dsimp only
    rw [e7, d2, d3, d4, d1]
    by_cases c2 : pl P (3 * who P C t + c) ≤ d.1
    · have ds : dstep P C t c d = (bh P C (d.1 - pl P (3 * who P C t + c)), d.2.1 + 1, d.2.2.1, fun j => d.2.2.2 j + gn P (who P C t) c j) := by
        unfold dstep; rw [if_neg c9, if_pos c2]
      rw [if_pos (nI_le c2 (by omega)), if_neg (n9n _ (by omega)), nI_1]
      have f4 : FrC g σ3 (uI σ3 (g + 7) 7 (nI (d.2.1 + 1))) := ⟨fun b h7 h8 h9 => uI_other h7 _ _, fun b _ => rfl⟩
      rw [gainBy_5 (f4.rp hg rp3) w hw hcw, bd_s, uI_2, e72, d5, lN_add]
      rw [show (uL (uI σ3 (g + 7) 7 (nI (d.2.1 + 1))) (g + 7) 9 (lN (pkw d.2.2.2 5 + pkw (gn P (who P C t) c) 5))).1 (g + 7) 6 = nI d.1 by rw [uL_1, uI_at, if_neg (by omega), e7, d2], pk_sub c2]
      refine fin _ (d.1 - pl P (3 * who P C t + c)) (by omega) ⟨fun b h7 h8 h9 => by rw [uI_other h7, uL_1, uI_other h7], fun b h7 => by rw [uI_2, uL_other h7, uI_2]⟩ ?_ ?_ ?_ ?_ ?_ ?_ ?_ ?_
      · rw [uI_other (by omega), uL_1, uI_other (by omega)]
      · rw [uI_other (by omega), uL_1, uI_other (by omega)]
      · simp [uI_at, uL_1, e7, d1]
      · simp [uI_at, uL_1]
      · rw [ds]
      · rw [ds]; simp [uI_at, uL_1]
      · rw [ds]; simp [uI_at, uL_1, e7, d4]
      · rw [ds, uI_2, uL_at, if_pos ⟨rfl, rfl⟩, pkw_add]
    · have ds : dstep P C t c d = (bh P C 0, d.2.1, (if d.2.2.1 = 9 then t else d.2.2.1), d.2.2.2) := by
        unfold dstep; rw [if_neg c9, if_neg c2]
      rw [if_neg (nI_ge (by omega) (by omega))]
      have last : ∀ z : Nat, z = (if d.2.2.1 = 9 then t else d.2.2.1) → ∃ σ', f1_speak_143 g (uI (uI σ3 (g + 7) 8 (nI z)) (g + 7) 6 0) = some σ' ∧ FrC g σ σ' ∧ DayC σ' g P C sd (t + 1) := by
        intro z hz
        refine fin _ 0 (by omega) ⟨fun b h7 h8 h9 => by rw [uI_other h7, uI_other h7], fun b h7 => rfl⟩ ?_ ?_ ?_ ?_ ?_ ?_ ?_ ?_
        · rw [uI_other (by omega), uI_other (by omega)]
        · rw [uI_other (by omega), uI_other (by omega)]
        · simp [uI_at, e7, d1]
        · simp [uI_at]; rfl
        · rw [ds]
        · rw [ds]; simp [uI_at, e7, d3]
        · rw [ds]; simp [uI_at]
          rw [← hz, cd_z]
          have := ok.2.2.1
          rw [hz]; split <;> omega
        · rw [ds]; exact (congrFun (congrFun e72 _) _).trans d5
      by_cases c3 : d.2.2.1 = 9
      · rw [if_pos (by rw [c3]; rfl)]
        exact last t (by rw [if_pos c3])
      · have ok3 := ok.2.2.1
        rw [if_neg (cd_m9 (by omega)), cd_z (by omega)]
        exact last _ (by rw [if_neg c3])
