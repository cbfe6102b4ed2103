/-! the class's calls, each by its answer: planned is the state in which what all say is laid -/
def PB (j : Nat) (σ τ : HS) (P : PP) (C : CC) : Prop := InvB j σ τ P C ∧ σ.1 0 11 = 1
theorem ahead_d {j : Nat} {σ τ : HS} {P : PP} {C : CC} (hB : InvB j σ τ P C) (hj : j < 512) : ∃ σ', f8_planAhead σ = some σ' ∧ PB (j + 1) σ' τ P C ∧ PlanAt σ' 20 P C := by
  obtain ⟨w, wc, rp, rc, rm, rs, rl, a8, a9, b1, b2, b3, b4⟩ := id hB
  unfold f8_planAhead
  rcases a8 with c | ⟨c, pa⟩
  · rw [if_pos c]
    obtain ⟨σ1, v1, v2, v3, v4, v5⟩ := each_c rp rc w wc b1 (by omega)
    rw [v1, bd_s]
    refine ⟨_, rfl, ⟨hB.mk' (fun a ha => by rw [uI_other (by omega), v4 a (by omega) (by omega) (by omega) (by omega)]) (v5 11 (by omega)) ⟨by rw [uI_at, if_neg (by omega), v4 0 (by omega) (by omega) (by omega) (by omega)], by rw [uI_at, if_neg (by omega), v4 0 (by omega) (by omega) (by omega) (by omega)]⟩ (Or.inr ⟨by rw [uI_at, if_pos ⟨rfl, rfl⟩], v2.congr (uI_other (by omega) _ _) rfl⟩) (a9.congr (by rw [uI_other (by omega), v4 44 (by omega) (by omega) (by omega) (by omega)]) (by rw [uI_other (by omega), v4 45 (by omega) (by omega) (by omega) (by omega)]) (by rw [uI_other (by omega), v4 46 (by omega) (by omega) (by omega) (by omega)])) ((v3.congr (by rw [uI_other (by omega)]) (uI_other (by omega) _ _)).mono (by omega)) ((b2.congr (by rw [uI_other (by omega), v4 32 (by omega) (by omega) (by omega) (by omega)]) (by rw [uI_other (by omega), v4 36 (by omega) (by omega) (by omega) (by omega)])).mono (by omega)) (fun _ _ => rfl) (fun _ _ _ => rfl), by rw [uI_at, if_pos ⟨rfl, rfl⟩]⟩, v2.congr (uI_other (by omega) _ _) rfl⟩
  · rw [if_neg (by rw [c]; exact n10)]
    exact ⟨σ, rfl, ⟨hB.mono, c⟩, pa⟩
theorem ahead_p {j : Nat} {σ τ : HS} {P : PP} {C : CC} (hB : PB j σ τ P C) : f8_planAhead σ = some σ ∧ PlanAt σ 20 P C := by
  obtain ⟨⟨-, -, -, -, -, -, -, a8, -⟩, h1⟩ := hB
  rcases a8 with c | ⟨c, pa⟩
  · rw [h1] at c; exact absurd c n10
  · refine ⟨?_, pa⟩
    unfold f8_planAhead
    rw [if_neg (by rw [c]; exact n10)]
theorem PB.fr {j : Nat} {σ τ σ' : HS} {P : PP} {C : CC} {g : Nat} (hg : g = 20 ∨ g = 30) (h : PB j σ τ P C) (f : FrC g σ σ') : PB j σ' τ P C := ⟨h.1.fr hg f (FrM.rfl' τ), by rw [f.1 0 (by omega) (by omega) (by omega)]; exact h.2⟩
theorem hasT_y {σ : HS} {P : PP} {C : CC} (rp : RepP σ P) (rc : RepC σ 20 P C) (w : WfP P) (wc : WfC P C) {t : Nat} (ht : t < turnsN P C) : f0_hasTurn (nI t) σ = some (1, σ) := by
  have h6 := turns_le C w
  unfold f0_hasTurn
  rw [if_neg (nI_pos (by omega)), turns_g rp rc w wc, bd_s, if_neg (nI_ge ht (by omega))]
theorem choice_s {σ0 σ : HS} {P : PP} {C : CC} (rp : RepP σ0 P) (rc : RepC σ0 20 P C) (w : WfP P) (wc : WfC P C) {t x : Nat} (ht : t < turnsN P C) (hx : x ≤ pj P) (e : f8_planAhead σ0 = some σ) (pa : PlanAt σ 20 P C) : f8_choice (nI t) (nI x) σ0 = some (cd (freeSaid P C t x), σ) := by
  have h99 := w.2.1
  have h6 := turns_le C w
  unfold f8_choice
  rw [hasT_y rp rc w wc ht, bd_s, if_neg n10]
  dsimp only
  rw [rp.2.1, if_neg (nI_pos (by omega)), if_pos (nI_le hx (by omega)), e, bd_s]
  unfold f5_wordAt
  have pe := (pa t x ht hx).1
  rw [show t * 100 + x = 100 * t + x by omega] at pe
  rw [e100s, bd_s, at_in (by omega) (by omega), bd_s, bd_s, pe]
  rfl
theorem choice_d {j : Nat} {σ τ : HS} {P : PP} {C : CC} (hB : InvB j σ τ P C) (hj : j < 512) {t x : Nat} (ht : t < turnsN P C) (hx : x ≤ pj P) : ∃ σ', f8_choice (nI t) (nI x) σ = some (cd (freeSaid P C t x), σ') ∧ PB (j + 1) σ' τ P C := by
  obtain ⟨σ', e, h, pa⟩ := ahead_d hB hj
  exact ⟨σ', choice_s hB.2.2.1 hB.2.2.2.1 hB.1 hB.2.1 ht hx e pa, h⟩
theorem choice_p {j : Nat} {σ τ : HS} {P : PP} {C : CC} (hB : PB j σ τ P C) {t x : Nat} (ht : t < turnsN P C) (hx : x ≤ pj P) : f8_choice (nI t) (nI x) σ = some (cd (freeSaid P C t x), σ) := by
  obtain ⟨e, pa⟩ := ahead_p hB
  exact choice_s hB.1.2.2.1 hB.1.2.2.2.1 hB.1.1 hB.1.2.1 ht hx e pa
theorem says_s {j : Nat} {σ0 σ τ : HS} {P : PP} {C : CC} (rp0 : RepP σ0 P) (rc0 : RepC σ0 20 P C) (hB : PB j σ τ P C) {t : Nat} (ht : t < turnsN P C) (e : f8_planAhead σ0 = some σ) (pa : PlanAt σ 20 P C) : ∃ σ', f8_says (nI t) σ0 = some (cd (saysN P C t), σ') ∧ PB j σ' τ P C := by
  obtain ⟨w, wc, rp, rc, -⟩ := id hB.1
  have h6 := turns_le C w
  obtain ⟨σ2, r1, r2, r3⟩ := freeC rp rc w wc pa
  unfold f8_says f1_saidIn
  rw [hasT_y rp0 rc0 w wc ht, bd_s, if_neg n10]
  dsimp only
  rw [e, bd_s, r1, bd_s, at_in (by omega) (by omega), bd_s, bd_s, (r3.2.2.2.2.2 t ht).1]
  exact ⟨_, rfl, hB.fr (Or.inl rfl) r2⟩
theorem says_d {j : Nat} {σ τ : HS} {P : PP} {C : CC} (hB : InvB j σ τ P C) (hj : j < 512) {t : Nat} (ht : t < turnsN P C) : ∃ σ', f8_says (nI t) σ = some (cd (saysN P C t), σ') ∧ PB (j + 1) σ' τ P C := by
  obtain ⟨σ', e, h, pa⟩ := ahead_d hB hj
  exact says_s hB.2.2.1 hB.2.2.2.1 h ht e pa
theorem says_p {j : Nat} {σ τ : HS} {P : PP} {C : CC} (hB : PB j σ τ P C) {t : Nat} (ht : t < turnsN P C) : ∃ σ', f8_says (nI t) σ = some (cd (saysN P C t), σ') ∧ PB j σ' τ P C := by
  obtain ⟨e, pa⟩ := ahead_p hB
  exact says_s hB.1.2.2.1 hB.1.2.2.2.1 hB ht e pa
/-- who is owed what: worth to one of a day in which something is forced -/
def forcedW (P : PP) (C : CC) (p c : Nat) : Nat → Nat := (dday P C (forceSaid P C p c) (turnsN P C)).2.2.2
def freeW (P : PP) (C : CC) : Nat → Nat := (dday P C (freeSaid P C) (turnsN P C)).2.2.2
def freeX (P : PP) (C : CC) (t : Nat) : Nat := (dday P C (freeSaid P C) t).1
theorem two_y {P : PP} {σ : HS} (C : CC) (rp : RepP σ P) (w : WfP P) {k l : Nat} (hk : k < pn P) (hl : l < pn P) (hne : k ≠ l) : f8_areTwo (nI k) (nI l) σ = some (1, σ) := by
  have h5 := w.1
  rcases two_c (C := C) rp w (nI k) (nI l) with ⟨hx | ⟨_, hy⟩ | ⟨z, hz, e1, e2⟩, e⟩ | ⟨_, _, _, _, _, _, _, e⟩
  · rw [nI_toInt (by omega)] at hx; omega
  · rw [nI_toInt (by omega)] at hy; omega
  · exact absurd ((nIc (by omega) (by omega)).mp (e1.trans e2.symm)) hne
  · exact e
theorem two_n {P : PP} {σ : HS} (C : CC) (rp : RepP σ P) (w : WfP P) {x y : Int32} (h : (pn P : Int) ≤ x.toInt ∨ x = y) : f8_areTwo x y σ = some (0, σ) := by
  have h5 := w.1
  rcases two_c (C := C) rp w x y with ⟨_, e⟩ | ⟨k, l, hk, hl, hne, rfl, rfl, e⟩
  · exact e
  · exfalso
    rcases h with h | h
    · rw [nI_toInt (by omega)] at h; omega
    · exact hne ((nIc (by omega) (by omega)).mp h)
theorem longest_ok {P : PP} {C : CC} {p k X : Nat} (hp : p < pn P) (ep : co C p = k) : (longest P k X (pw P k)).1 = 9 ∨ (longest P k X (pw P k)).1 < pw P (who P C p) := by
  rw [(place_turn (C := C) hp).2, ep]
  rcases longest_c P k X (pw P k) with h | h
  · exact Or.inl h.1
  · exact Or.inr h.1
theorem owed_p {j : Nat} {σ τ : HS} {P : PP} {C : CC} (hB : PB j σ τ P C) {k l p : Nat} (hk : k < pn P) (hl : l < pn P) (hne : k ≠ l) (hp : p < pn P) (ep : co C p = k) : ∃ σ', f8_owed (nI k) (nI l) σ = some ((nI (forcedW P C p 9 l) - nI (forcedW P C p (longest P k (freeX P C p) (pw P k)).1 l)).toInt64, σ') ∧ PB j σ' τ P C := by
  obtain ⟨w, wc, rp, rc, -⟩ := id hB.1
  have h5 := w.1
  have h99 := w.2.1
  have h6 := turns_le C w
  obtain ⟨q1, q3⟩ := ahead_p hB
  obtain ⟨pt1, pt2⟩ := place_turn (C := C) hp
  obtain ⟨σ2, r1, r2, r3⟩ := forceC (p := p) (c := 9) rp rc w wc q3 (by omega) (fun _ => Or.inl rfl)
  rw [cd_9] at r1
  have rp2 := r2.rp (by omega) rp
  have rc2 := r2.rc rc
  have same : dday P C (forceSaid P C p 9) p = dday P C (freeSaid P C) p := dday_ext P C _ _ p (fun i x hi => by unfold forceSaid; rw [if_neg (by omega)])
  have hw99 := (dok w wc (free_ok w wc) p (by omega)).1
  unfold freeX forcedW
  generalize hX : (dday P C (freeSaid P C) p).1 = X at *
  have hcl : p < turnsN P C → (longest P k X (pw P k)).1 = 9 ∨ (longest P k X (pw P k)).1 < pw P (who P C p) := fun _ => longest_ok hp ep
  obtain ⟨σ3, s1, s2, s3⟩ := forceC (p := p) (c := (longest P k X (pw P k)).1) rp2 rc2 w wc (q3.fr r2) (by omega) hcl
  have wl9 := worth_lt (C := C) w wc (force_ok (p := p) (c := 9) w wc (fun _ => Or.inl rfl)) (Nat.le_refl _)
  have wlq := worth_lt (C := C) w wc (force_ok w wc hcl) (Nat.le_refl _)
  unfold f8_owed
  rw [two_y C rp w hk hl hne, bd_s, if_neg n10, placeOf_c rp rc w wc hp ep, bd_s, q1, bd_s, r1, bd_s, r3.2.2.2.2.1, worthIn_c (fun i _ => by have := wl9 i; omega) (by omega), bd_s]
  unfold f1_waterIn
  rw [at_in (by omega) (by omega), bd_s, bd_s, (r3.2.2.2.2.2 p pt1).2, same, hX, longC rp2 w hk (by omega), bd_s, s1, bd_s, s3.2.2.2.2.1, worthIn_c (fun i _ => by have := wlq i; omega) (by omega), bd_s]
  exact ⟨_, rfl, hB.fr (Or.inl rfl) (r2.tr s2)⟩
theorem bargain_p {j : Nat} {σ τ : HS} {P : PP} {C : CC} (hB : PB j σ τ P C) {k l p : Nat} (hk : k < pn P) (hl : l < pn P) (hne : k ≠ l) (hp : p < pn P) (ep : co C p = k) : ∃ σ', f8_bargain (nI k) (nI l) σ = some ((nI (forcedW P C p 9 k) + nI (forcedW P C p 9 l) - nI (freeW P C k) - nI (freeW P C l)).toInt64, σ') ∧ PB j σ' τ P C := by
  obtain ⟨w, wc, rp, rc, -⟩ := id hB.1
  have h5 := w.1
  have h6 := turns_le C w
  obtain ⟨q1, q3⟩ := ahead_p hB
  obtain ⟨σ2, r1, r2, r3⟩ := forceC (p := p) (c := 9) rp rc w wc q3 (by omega) (fun _ => Or.inl rfl)
  rw [cd_9] at r1
  have rp2 := r2.rp (by omega) rp
  have rc2 := r2.rc rc
  obtain ⟨σ3, s1, s2, s3⟩ := freeC rp2 rc2 w wc (q3.fr r2)
  have wl9 := worth_lt (C := C) w wc (force_ok (p := p) (c := 9) w wc (fun _ => Or.inl rfl)) (Nat.le_refl _)
  have wlf := worth_lt (C := C) w wc (free_ok w wc) (Nat.le_refl _)
  have b9 := fun i => (show (dday P C (forceSaid P C p 9) (turnsN P C)).2.2.2 i < 256 by have := wl9 i; omega)
  have bf := fun i => (show (dday P C (freeSaid P C) (turnsN P C)).2.2.2 i < 256 by have := wlf i; omega)
  unfold f8_bargain forcedW freeW
  rw [two_y C rp w hk hl hne, bd_s, if_neg n10]
  dsimp only
  rw [q1, bd_s, placeOf_c rp rc w wc hp ep, bd_s, r1, bd_s, r3.2.2.2.2.1, worthIn_c (fun i _ => b9 i) (by omega), bd_s]
  dsimp only
  rw [r3.2.2.2.2.1, worthIn_c (fun i _ => b9 i) (by omega), bd_s, s1, bd_s, s3.2.2.2.2.1, worthIn_c (fun i _ => bf i) (by omega), bd_s]
  dsimp only
  rw [s3.2.2.2.2.1, worthIn_c (fun i _ => bf i) (by omega), bd_s]
  exact ⟨_, rfl, hB.fr (Or.inl rfl) (r2.tr s2)⟩
theorem owed_n {P : PP} {σ : HS} (C : CC) (rp : RepP σ P) (w : WfP P) {x y : Int32} (h : (pn P : Int) ≤ x.toInt ∨ x = y) : f8_owed x y σ = some (-9223372036854775808, σ) := by
  unfold f8_owed
  rw [two_n C rp w h, bd_s, if_pos rfl]
theorem bargain_n {P : PP} {σ : HS} (C : CC) (rp : RepP σ P) (w : WfP P) {x y : Int32} (h : (pn P : Int) ≤ x.toInt ∨ x = y) : f8_bargain x y σ = some (-9223372036854775808, σ) := by
  unfold f8_bargain
  rw [two_n C rp w h, bd_s, if_pos rfl]
theorem share_p {j : Nat} {σ τ : HS} {P : PP} {C : CC} (hB : PB j σ τ P C) {k x : Nat} (hk : k < pn P) (hx : x < 2) : ∃ σ', f8_share (nI k) (nI x) σ = some (lN ((if nI x = 0 then away P C (freeSaid P C) k (turnsN P C) else pj P) / Nat.gcd (away P C (freeSaid P C) k (turnsN P C)) (pj P)), σ') ∧ PB j σ' τ P C := by
  obtain ⟨w, wc, rp, rc, -⟩ := id hB.1
  have h5 := w.1
  have h99 := w.2.1
  have h6 := turns_le C w
  obtain ⟨q0, pa⟩ := ahead_p hB
  obtain ⟨σ1, q1, r2, q6⟩ := freeC rp rc w wc pa
  have rp1 := r2.rp (by omega) rp
  have rc1 := r2.rc rc
  have al := away_le w wc (free_ok w wc) k _ (Nat.le_refl _)
  have jp : 1 ≤ pj P := by rcases w.2.2.1 with z | z <;> omega
  have hg : 0 < Nat.gcd (away P C (freeSaid P C) k (turnsN P C)) (pj P) := Nat.gcd_pos_of_pos_right _ jp
  have gle : Nat.gcd (away P C (freeSaid P C) k (turnsN P C)) (pj P) ≤ pj P := Nat.gcd_le_right _ jp
  have cl : f8_share_24 (nI k) (nI x) σ = some (lN ((if nI x = 0 then away P C (freeSaid P C) k (turnsN P C) else pj P) / Nat.gcd (away P C (freeSaid P C) k (turnsN P C)) (pj P)), σ1) := by
    unfold f8_share_24
    rw [q0, bd_s, q1, bd_s, awayC rp1 rc1 w wc (free_ok w wc) q6 hk, bd_s]
    dsimp only
    rw [rp1.2.1, gcdC (by omega) h99, bd_s, if_pos (show (0 : Int32) < nI _ from nI_lt (a := 0) hg (by omega))]
    have d1 := Nat.div_le_self (away P C (freeSaid P C) k (turnsN P C)) (Nat.gcd (away P C (freeSaid P C) k (turnsN P C)) (pj P))
    have d2 := Nat.div_le_self (pj P) (Nat.gcd (away P C (freeSaid P C) k (turnsN P C)) (pj P))
    by_cases c : nI x = 0
    · rw [if_pos c, if_pos c, if_neg (nI_ne0 hg (by omega)), pk_div (by omega) hg (by omega), nI_l (by omega)]
    · rw [if_neg c, if_neg c, if_neg (nI_ne0 hg (by omega)), pk_div (by omega) hg (by omega), nI_l (by omega)]
  refine ⟨σ1, ?_, hB.fr (Or.inl rfl) r2⟩
  unfold f8_share
  rw [has_y rp.1 h5 hk, bd_s, if_neg n10]
  dsimp only
  by_cases c : nI x = 0
  · rw [if_pos c]; exact cl
  · rw [if_neg c, if_pos]
    · exact cl
    · have : x = 1 := by
        rcases Nat.eq_zero_or_pos x with z | z
        · exact absurd (by rw [z]; rfl) c
        · omega
      rw [this]; rfl
theorem share_2 {P : PP} {σ : HS} (rp : RepP σ P) (w : WfP P) {k : Nat} (hk : k < pn P) : f8_share (nI k) 2 σ = some (-9223372036854775808, σ) := by
  have h5 := w.1
  unfold f8_share f8_share_20
  rw [has_y rp.1 h5 hk, bd_s, if_neg n10]
  rfl
theorem dry_p {j : Nat} {σ τ : HS} {P : PP} {C : CC} (hB : PB j σ τ P C) {k1 q1 : Nat} (hk1 : k1 < pn P) (hq1 : q1 < pw P k1) {b : Nat → Bool} (hb : ∀ k, b k = true ↔ (k ≠ k1 ∧ ∃ p, p < pn P ∧ co C p = k ∧ Silences P C p k1 q1 k (pw P k))) : ∃ σ', f8_dry (nI k1) (nI q1) σ = some (maskN b (pn P), σ') ∧ PB j σ' τ P C := by
  obtain ⟨w, wc, rp, rc, -⟩ := id hB.1
  have h5 := w.1
  have h6 := turns_le C w
  have hq3 : q1 < 3 := by have := (w.2.2.2 k1 hk1).2.2.1; omega
  obtain ⟨e1, e3⟩ := ahead_p hB
  unfold f8_dry
  rw [hasW_y rp w hk1 hq1, bd_s, if_neg n10]
  dsimp only
  rw [e1, bd_s]
  have cl : ∃ σ2, f8_dry_23 (nI k1) (nI q1) (0, 0, σ) = some (maskN b (pn P), σ2) ∧ FrC 20 σ σ2 := by
    unfold f8_dry_23
    obtain ⟨⟨s1, s2⟩, t1, t2, t3⟩ := wl_fuel (body := fun k23 p1 => f8_dry_23_b k23 (nI k1) (nI q1) p1.1 p1.2.1 p1.2.2) (fun p1 : Int32 × Int32 × HS => ∃ k, k ≤ pn P ∧ p1.1 = maskN b k ∧ p1.2.1 = nI k ∧ FrC 20 σ p1.2.2) (fun p1 => 10 - p1.2.1.toNatClampNeg) (fun r : Int32 × HS => r.1 = maskN b (pn P) ∧ FrC 20 σ r.2) (0, 0, σ) ⟨0, by omega, rfl, rfl, ⟨fun _ _ _ _ => rfl, fun _ _ => rfl⟩⟩ (by show 10 - _ < _; omega) (by
      rintro k2 ⟨x3, x4, σ2⟩ ⟨k, hk, e, e', g1⟩ ih
      have e : x3 = maskN b k := e
      have e' : x4 = nI k := e'
      subst e e'
      have g1 : FrC 20 σ σ2 := g1
      dsimp only
      unfold f8_dry_23_b f8_dry_65
      have rp2 := g1.rp (by omega) rp
      have rc2 := g1.rc rc
      rw [rp2.1]
      have go : ∀ (m : Int32) (σ3 : HS), m = maskN b (k + 1) → FrC 20 σ2 σ3 → k < pn P → ∃ r, k2 (m, nI k + 1, σ3) = some r ∧ r.1 = maskN b (pn P) ∧ FrC 20 σ r.2 := by
        rintro m σ3 rfl u2 hk2
        rw [nI_1]
        refine ih _ ⟨k + 1, by omega, rfl, rfl, g1.tr u2⟩ ?_
        show 10 - (nI (k + 1)).toNatClampNeg < 10 - (nI k).toNatClampNeg
        rw [nI_clamp (by omega), nI_clamp (by omega)]; omega
      by_cases c : pn P ≤ k
      · have : k = pn P := by omega
        subst this
        rw [if_pos (nI_le c (by omega))]
        exact ⟨_, rfl, rfl, g1⟩
      · rw [if_neg (nI_ge (by omega) (by omega)), if_neg (show ¬ (5 : Int32) ≤ nI k from nI_ge (b := 5) (by omega) (by omega))]
        by_cases c1 : k = k1
        · rw [if_pos (by rw [c1])]
          exact go _ σ2 (by rw [maskN, if_neg (fun z => ((hb k).mp z).1 c1)]) ⟨fun _ _ _ _ => rfl, fun _ _ => rfl⟩ (by omega)
        · rw [if_neg (fun z => c1 ((nIc (by omega) (by omega)).mp z))]
          obtain ⟨p, hp, ep⟩ := place_ex wc (show k < pn P by omega)
          obtain ⟨r, σ3, u1, u2, u3⟩ := silC rp2 rc2 w wc (e3.fr g1) (show k < pn P by omega) hk1 hq3 hp ep
          rw [u1, bd_s]
          rcases u3 with ⟨rfl, y⟩ | ⟨rfl, y⟩
          · rw [if_neg n10]
            exact go _ σ3 (by rw [maskN, if_pos ((hb k).mpr ⟨c1, p, hp, ep, y⟩)]; rfl) u2 (by omega)
          · rw [if_pos rfl]
            refine go _ σ3 ?_ u2 (by omega)
            rw [maskN, if_neg]
            intro z
            obtain ⟨_, p2, hp2, ep2, y2⟩ := (hb k).mp z
            rw [wc.2.2.2.2 p2 p hp2 hp (by omega)] at y2
            exact y y2)
    have t2 : s1 = maskN b (pn P) := t2
    subst t2
    exact ⟨s2, t1, t3⟩
  obtain ⟨σ2, x1, x2⟩ := cl
  rw [x1]
  exact ⟨_, rfl, hB.fr (Or.inl rfl) x2⟩
theorem dry_n {P : PP} {σ : HS} (rp : RepP σ P) (w : WfP P) {k q : Nat} (hk : k < pn P) (hq : pw P k ≤ q) (hq2 : q < 1000) : f8_dry (nI k) (nI q) σ = some (-1, σ) := by
  unfold f8_dry
  rw [hasW_n rp w (Or.inr ⟨k, hk, rfl, Or.inr (by rw [nI_toInt (by omega)]; omega)⟩), bd_s, if_pos rfl]
