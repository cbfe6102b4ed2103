/-! together, laws, the leak guessed, motions -/
theorem together_n {P : PP} {C : CC} {σ : HS} (rp : RepP σ P) (rc : RepC σ 20 P C) (w : WfP P) (wc : WfC P C) {x : Int32} (h : x = nI (turnsN P C) ∨ x = -2) : f8_together x σ = some (-1, σ) := by
  have h6 := turns_le C w
  unfold f8_together f0_hasTurn f0_hasTurn_16
  rcases h with rfl | rfl
  · rw [if_neg (nI_m1 (by omega)), if_neg (nI_pos (by omega)), turns_g rp rc w wc, bd_s, if_pos (nI_le (Nat.le_refl _) (by omega)), bd_s, if_pos rfl]
  · rw [if_neg (by decide), if_pos (by decide), bd_s, if_pos rfl]
/-- the worth of what all would say, and what is said -/
def togW (P : PP) (C : CC) : Nat := sumW (dday P C (saidM 1 P C) (turnsN P C)).2.2.2 5
def togS (P : PP) (C : CC) (t : Nat) : Nat := saidM 1 P C t (dday P C (saidM 1 P C) t).1
theorem together_c {j : Nat} {σ τ : HS} {P : PP} {C : CC} (hB : InvB j σ τ P C) (hj : j < 512) (hn : 0 < pn P) : ∃ σ3, (∀ x : Int32, f8_together_18 x σ = if x = -1 then bd (f8_worthToAll (σ3.2 37 9) σ3) fun r5 => some (r5.1, r5.2) else bd (f1_saidIn 30 x σ3) fun r7 => some (r7.1, r7.2)) ∧ InvB (j + 1) σ3 τ P C ∧ σ3.1 0 11 = σ.1 0 11 ∧ DayC σ3 30 P C (saidM 1 P C) (turnsN P C) := by
  obtain ⟨w, wc, rp, rc, rm, -, -, -, -, -, mk, -⟩ := id hB
  have h5 := w.1
  have h99 := w.2.1
  have h6 := turns_le C w
  have hT := turns_pos (C := C) hn
  obtain ⟨σ1, q1, q2, q3, q4⟩ := follow_c rc w
  have rp1 : RepP σ1 P := rp.congr (fun x z1 z2 => ⟨q3 x (by omega) (by omega), by rw [q4]⟩)
  obtain ⟨σ2, r1, r2, r3, r4⟩ := made_c (m := 1) rp1 q2 w wc (Or.inr rfl) (mk.congr (by rw [q3 32 (by omega) (by omega)]) (q3 36 (by omega) (by omega))) (by omega) hT
  have r1 : (bd (f5_openWhatIsReached σ1) fun r1 => bd (f5_settleAll 30 1 r1) fun r2 => some r2) = some σ2 := r1
  obtain ⟨σ3, s1, s2, s3⟩ := free30 (r2.rp rp1) (r2.rc q2) w wc r4
  refine ⟨σ3, fun x => ?_, hB.f30 (by omega) (fun b hb => ⟨by rw [(s2.f30 b (by omega)).1, (r2 b (by omega)).1, q3 b (by omega) (by omega)], by rw [(s2.f30 b (by omega)).2, (r2 b (by omega)).2, q4]⟩) ((s2.mk30 r3).mono (by omega)) (fun _ _ => rfl) (fun _ _ _ => rfl), by rw [(s2.f30 0 (by omega)).1, (r2 0 (by omega)).1, q3 0 (by omega) (by omega)], s3⟩
  unfold f8_together_18
  rw [rp.1, if_neg (nI_ne0 hn (by omega)), q1, bd_s]
  unfold f5_makeForAll
  rw [r1, bd_s, s1, bd_s]
theorem together_w {j : Nat} {σ τ : HS} {P : PP} {C : CC} (hB : InvB j σ τ P C) (hj : j < 512) (hn : 0 < pn P) : ∃ σ', f8_together (-1) σ = some (nI (togW P C), σ') ∧ InvB (j + 1) σ' τ P C ∧ σ'.1 0 11 = σ.1 0 11 := by
  obtain ⟨w, wc, -⟩ := id hB
  obtain ⟨σ3, h1, h2, h3, h4⟩ := together_c hB hj hn
  have wl := worth_lt w wc (saidM_SaidOk 1 w wc) (Nat.le_refl (turnsN P C))
  refine ⟨σ3, ?_, h2, h3⟩
  unfold f8_together
  rw [if_pos rfl, h1, if_pos rfl, h4.2.2.2.2.1, toAll_c (fun i _ => by have := wl i; omega), bd_s]
  rfl
theorem together_t {j : Nat} {σ τ : HS} {P : PP} {C : CC} (hB : InvB j σ τ P C) (hj : j < 512) (hn : 0 < pn P) {t : Nat} (ht : t < turnsN P C) : ∃ σ', f8_together (nI t) σ = some (cd (togS P C t), σ') ∧ InvB (j + 1) σ' τ P C ∧ σ'.1 0 11 = σ.1 0 11 := by
  obtain ⟨w, wc, rp, rc, -⟩ := id hB
  have h6 := turns_le C w
  obtain ⟨σ3, h1, h2, h3, h4⟩ := together_c hB hj hn
  refine ⟨σ3, ?_, h2, h3⟩
  unfold f8_together
  rw [if_neg (nI_m1 (by omega)), hasT_y rp rc w wc ht, bd_s, if_neg n10]
  dsimp only
  rw [h1, if_neg (nI_m1 (by omega))]
  unfold f1_saidIn
  rw [at_in (by omega) (by omega), bd_s, bd_s, (h4.2.2.2.2.2 t ht).1]
  rfl
theorem lawW_lt {P : PP} {C : CC} (w : WfP P) (wc : WfC P C) {L : Nat} (hL : L ≤ 3) (hn : 0 < pn P) : lawW P C L < 1000 := by
  have wc2 : WfC P (L, cl C, co C) := ⟨hL, wc.2.1, fun z => by omega, wc.2.2.2⟩
  have wl := worth_lt w wc2 (saidM_SaidOk 0 w wc2) (Nat.le_refl _)
  unfold lawW
  rw [sumW5]
  have := wl 0
  have := wl 1
  have := wl 2
  have := wl 3
  have := wl 4
  omega
theorem lawBest_b {P : PP} {C : CC} (w : WfP P) (wc : WfC P C) (hn : 0 < pn P) : ∀ n, n ≤ 3 → (lawBest P C n).1 ≤ n ∧ (lawBest P C n).2 < 1000 := by
  intro n
  induction n with
  | zero => intro _; exact ⟨Nat.le_refl _, lawW_lt w wc (by omega) hn⟩
  | succ n ih =>
    intro hn3
    have := ih (by omega)
    unfold lawBest
    split
    · exact ⟨by omega, this.2⟩
    · exact ⟨Nat.le_refl _, lawW_lt w wc hn3 hn⟩
theorem byLaw_v {j : Nat} {σ τ : HS} {P : PP} {C : CC} (hB : InvB j σ τ P C) (hj : j < 512) (hn : 0 < pn P) {L : Nat} (hL : L ≤ 3) : ∃ σ', f8_byLaw (nI L) σ = some (nI (lawW P C L), σ') ∧ InvB (j + 1) σ' τ P C ∧ σ'.1 0 11 = σ.1 0 11 := by
  obtain ⟨w, wc, rp, rc, rm, -, -, -, -, -, mk, -⟩ := id hB
  have h5 := w.1
  obtain ⟨σ1, q1, q2, q3⟩ := under_c (L := L) rp rc w wc hL mk (by omega) hn
  refine ⟨σ1, ?_, hB.f30 (by omega) q2 (q3.mono (by omega)) (fun _ _ => rfl) (fun _ _ _ => rfl), (q2 0 (by omega)).1 ▸ rfl⟩
  unfold f8_byLaw
  rw [rp.1, if_neg (by rw [Int32.lt_iff_toInt_lt, tn1, nI_toInt (by omega)]; omega), if_pos (by rw [Int32.lt_iff_toInt_lt, tp4, nI_toInt (by omega)]; omega), if_neg (nI_ne0 hn (by omega)), if_neg (nI_pos (by omega)), q1, bd_s]
  rfl
theorem byLaw_n (σ : HS) : f8_byLaw (-2) σ = some (-2, σ) := by
  unfold f8_byLaw
  rw [if_pos (by decide)]
theorem byLaw_b {j : Nat} {σ τ : HS} {P : PP} {C : CC} (hB : InvB j σ τ P C) (hj : j < 512) (hn : 0 < pn P) : ∃ σ', f8_byLaw (-1) σ = some (nI (lawBest P C 3).1, σ') ∧ InvB (j + 1) σ' τ P C ∧ σ'.1 0 11 = σ.1 0 11 := by
  obtain ⟨w, wc, rp, rc, rm, -, -, -, -, -, mk, -⟩ := id hB
  have h5 := w.1
  have lb : ∀ L, L ≤ 3 → lawW P C L < 1000 := fun L hL => lawW_lt w wc hL hn
  have lbb := lawBest_b w wc hn
  have cl : ∃ σ2, (bd (f8_worthUnder 0 σ) fun r5 => f8_byLaw_47 (0, r5.1, 1, r5.2)) = some (nI (lawBest P C 3).1, σ2) ∧ F30 σ σ2 ∧ MkAt σ2 30 (200 * j + 4) := by
    obtain ⟨σ1, q1, q2, q3⟩ := under_c (L := 0) rp rc w wc (by omega) mk (by omega) hn
    have q1 : f8_worthUnder 0 σ = some (nI (lawW P C 0), σ1) := q1
    rw [q1, bd_s]
    unfold f8_byLaw_47
    obtain ⟨⟨s1, s2⟩, p1, p2, p3⟩ := wl_fuel (body := fun k47 p => f8_byLaw_47_b k47 p.1 p.2.1 p.2.2.1 p.2.2.2) (fun p : Int32 × Int32 × Int32 × HS => ∃ n, n ≤ 3 ∧ p.1 = nI (lawBest P C n).1 ∧ p.2.1 = nI (lawBest P C n).2 ∧ p.2.2.1 = nI (n + 1) ∧ F30 σ p.2.2.2 ∧ MkAt p.2.2.2 30 (200 * j + (n + 1))) (fun p => 10 - p.2.2.1.toNatClampNeg) (fun r : Int32 × HS => r.1 = nI (lawBest P C 3).1 ∧ F30 σ r.2 ∧ MkAt r.2 30 (200 * j + 4)) (0, nI (lawW P C 0), 1, σ1) ⟨0, by omega, rfl, rfl, rfl, q2, q3⟩ (by show 10 - _ < _; omega) (by
      rintro kk ⟨x1, x2, x3, σ2⟩ ⟨n, hn3, e1, e2, e3, g1, g2⟩ ih
      have e1 : x1 = nI (lawBest P C n).1 := e1
      have e2 : x2 = nI (lawBest P C n).2 := e2
      have e3 : x3 = nI (n + 1) := e3
      subst e1 e2 e3
      have g1 : F30 σ σ2 := g1
      have g2 : MkAt σ2 30 (200 * j + (n + 1)) := g2
      dsimp only
      unfold f8_byLaw_47_b f8_byLaw_73
      have := lbb n hn3
      by_cases c : 4 ≤ n + 1
      · have : n = 3 := by omega
        subst this
        rw [if_pos (show (4 : Int32) ≤ nI (3 + 1) by decide)]
        exact ⟨_, rfl, rfl, g1, g2⟩
      · have := lb (n + 1) (by omega)
        obtain ⟨σ3, v1, v2, v3⟩ := under_c (L := n + 1) (g1.rp rp) (g1.rc rc) w wc (by omega) g2 (by omega) hn
        have v1 : f8_worthUnder (nI (n + 1)) σ2 = some (nI (lawW P C (n + 1)), σ3) := v1
        rw [if_neg (show ¬ (4 : Int32) ≤ nI (n + 1) from nI_ge (b := 4) (by omega) (by omega)), v1, bd_s, nI_1]
        have go : ∀ z : Nat × Nat, z = lawBest P C (n + 1) → ∃ r, kk (nI z.1, nI z.2, nI (n + 1 + 1), σ3) = some r ∧ r.1 = nI (lawBest P C 3).1 ∧ F30 σ r.2 ∧ MkAt r.2 30 (200 * j + 4) := by
          rintro z rfl
          refine ih _ ⟨n + 1, by omega, rfl, rfl, rfl, g1.tr v2, v3⟩ ?_
          show 10 - (nI (n + 1 + 1)).toNatClampNeg < 10 - (nI (n + 1)).toNatClampNeg
          rw [nI_clamp (by omega), nI_clamp (by omega)]; omega
        by_cases c2 : lawW P C (n + 1) ≤ (lawBest P C n).2
        · rw [if_pos (nI_le c2 (by omega))]
          exact go _ (by rw [lawBest, if_pos c2])
        · rw [if_neg (nI_ge (by omega) (by omega))]
          exact go (n + 1, lawW P C (n + 1)) (by rw [lawBest, if_neg c2]))
    have p2 : s1 = _ := p2
    subst p2
    exact ⟨s2, p1, p3⟩
  obtain ⟨σ2, x1, x2, x3⟩ := cl
  refine ⟨σ2, ?_, hB.f30 (by omega) x2 (x3.mono (by omega)) (fun _ _ => rfl) (fun _ _ _ => rfl), by rw [(x2 0 (by omega)).1]⟩
  unfold f8_byLaw
  rw [rp.1, if_neg (by decide), if_pos (by decide), if_neg (nI_ne0 hn (by omega)), if_pos (by decide), x1]
/-- what the class's log is, by what the other side has of it -/
def LgF (τ : HS) (P : PP) (C : CC) (d : Nat) (lg : Nat → Nat → Nat) (en : Nat → Nat) : Prop := d ≤ 6 ∧ τ.1 0 29 = nI d ∧ ∀ i, i < d → en i ≤ 99 ∧ τ.1 20 i = nI (en i) ∧ ∀ t, t < turnsN P C → τ.1 19 (6 * i + t) = cd (lg i t) ∧ (lg i t = 9 ∨ lg i t < pw P (who P C t))
theorem log_s {σ τ : HS} {P : PP} {C : CC} (rl : RepLog σ τ P C) {d : Nat} {lg : Nat → Nat → Nat} {en : Nat → Nat} (h : LgF τ P C d lg en) : σ.1 40 3 = nI d ∧ ∀ i, i < d → σ.1 42 i = nI (en i) ∧ ∀ t, t < turnsN P C → σ.1 41 (6 * i + t) = cd (lg i t) := by
  obtain ⟨d', lg', en', l1, l2, l3, l4⟩ := rl
  obtain ⟨hd, h2, h3⟩ := h
  have : d' = d := (nIc (by omega) (by omega)).mp (l3.symm.trans h2)
  subst this
  refine ⟨l2, fun i hi => ?_⟩
  obtain ⟨m1, m2, m3, m4⟩ := l4 i hi
  obtain ⟨n1, n2, n3⟩ := h3 i hi
  refine ⟨by rw [m2, ← m3, n2], fun t ht => ?_⟩
  rw [(m4 t ht).1, ← (m4 t ht).2.1, (n3 t ht).1]
theorem guess_s {j : Nat} {σ τ : HS} {P : PP} {C : CC} (hB : InvB j σ τ P C) (hn : 0 < pn P) {d : Nat} {lg : Nat → Nat → Nat} {en : Nat → Nat} (h : LgF τ P C d lg en) {ok : Nat → Bool} (hok : ∀ k L, L < 10 → (ok (10 * k + L) = true ↔ FitP (Ends P C lg en) d k L)) {x : Nat} (hx : x < 2) : ∃ σ', f8_guess (nI x) σ = some (if nI x = 0 then nI (gs ok (10 * (d + 1))).1 else (gs ok (10 * (d + 1))).2, σ') ∧ InvB j σ' τ P C ∧ σ'.1 0 11 = σ.1 0 11 := by
  obtain ⟨w, wc, rp, rc, rm, rs, rl, a8, a9, b1, b2, b3, b4⟩ := id hB
  have h5 := w.1
  have h6 := turns_le C w
  obtain ⟨s1, s2⟩ := log_s rl h
  have e8 : f8_guess (nI x) σ = f8_guess_12 (nI x) σ := by
    unfold f8_guess
    by_cases c : nI x = 0
    · rw [if_pos c]
    · rw [if_neg c, if_pos]
      have : x = 1 := by
        rcases Nat.eq_zero_or_pos x with z | z
        · exact absurd (by rw [z]; rfl) c
        · omega
      rw [this]; rfl
  rw [e8]
  unfold f8_guess_12
  rw [rp.1, if_neg (nI_ne0 (by omega) (by omega))]
  have hs : LogS P C d lg := fun i hi t _ ht _ => ((h.2.2 i hi).2.2 t ht).2
  obtain ⟨σ1, q1, q2, q3, q4⟩ := follow_c rc w
  obtain ⟨σ2, r1, r2, r3⟩ := comp_c (σ := σ1) (d := d) (lg := lg) (en := en) (rp.congr (fun x z1 z2 => ⟨q3 x (by omega) (by omega), by rw [q4]⟩)) w wc q2.1 q2.2.2 h.1 (by rw [q3 40 (by omega) (by omega)]; exact s1) hs (fun i t hi ht => by rw [q3 41 (by omega) (by omega)]; exact (s2 i hi).2 t ht) (fun i hi => ⟨by rw [q3 42 (by omega) (by omega)]; exact (s2 i hi).1, (h.2.2 i hi).1⟩)
  have gc := guessC hok h.1 (by rw [r2.1 40 (by omega) (by omega) (by omega) (by omega) (by omega), q3 40 (by omega) (by omega)]; exact s1) r3 (nI x)
  rw [q1, bd_s, r1, bd_s, gc]
  have fe : ∀ b, b ≠ 30 → b ≠ 31 → b ≠ 37 → b ≠ 38 → b ≠ 39 → b ≠ 43 → σ2.1 b = σ.1 b := fun b b1 b2 b3 b4 b5 b6 => by rw [r2.1 b b1 b3 b4 b5 b6, q3 b b1 b2]
  have fe2 : ∀ b, b ≠ 37 → σ2.2 b = σ.2 b := fun b hb => by rw [r2.2.2 b hb, q4]
  exact ⟨_, rfl, hB.mk' (fun a ha => fe a (by omega) (by omega) (by omega) (by omega) (by omega) (by omega)) (fe2 11 (by omega)) ⟨by rw [fe 0 (by omega) (by omega) (by omega) (by omega) (by omega) (by omega)], by rw [fe 0 (by omega) (by omega) (by omega) (by omega) (by omega) (by omega)]⟩ (a8.congr (by rw [fe 0 (by omega) (by omega) (by omega) (by omega) (by omega) (by omega)]) (fe _ (by omega) (by omega) (by omega) (by omega) (by omega) (by omega)) (fe2 _ (by omega))) (a9.congr (by rw [fe 44 (by omega) (by omega) (by omega) (by omega) (by omega) (by omega)]) (fe _ (by omega) (by omega) (by omega) (by omega) (by omega) (by omega)) (fe _ (by omega) (by omega) (by omega) (by omega) (by omega) (by omega))) (b1.congr (by rw [fe _ (by omega) (by omega) (by omega) (by omega) (by omega) (by omega)]) (fe _ (by omega) (by omega) (by omega) (by omega) (by omega) (by omega))) (b2.congr (by rw [fe _ (by omega) (by omega) (by omega) (by omega) (by omega) (by omega)]) (fe _ (by omega) (by omega) (by omega) (by omega) (by omega) (by omega))) (fun _ _ => rfl) (fun _ _ _ => rfl), by rw [fe 0 (by omega) (by omega) (by omega) (by omega) (by omega) (by omega)]⟩
theorem guess_n (σ : HS) : f8_guess 2 σ = some (-2, σ) := rfl
theorem many_5 {σ τ : HS} {P : PP} {C : CC} (rl : RepLog σ τ P C) {d : Nat} (h : τ.1 0 29 = nI d) (hd : d ≤ 6) : f8_many 5 σ = some (nI d, σ) := by
  obtain ⟨d', lg', en', l1, l2, l3, l4⟩ := rl
  have : d' = d := (nIc (by omega) (by omega)).mp (l3.symm.trans h)
  subst this
  unfold f8_many
  rw [if_neg (by decide), if_neg (by decide), if_neg (by decide), if_neg (by decide), if_neg (by decide), if_pos rfl, l2]
theorem many_3 {σ : HS} {P : PP} {C : CC} (rc : RepC σ 20 P C) : f8_many 3 σ = some (nI (cw C), σ) := by
  unfold f8_many
  rw [if_neg (by decide), if_neg (by decide), if_neg (by decide), if_pos rfl, rc.1]
theorem back_n {σ τ : HS} {P : PP} {C : CC} (rl : RepLog σ τ P C) {d : Nat} (h : τ.1 0 29 = nI d) (hd : d < 5) : f8_back 5 σ = some (-2, σ) := by
  obtain ⟨d', lg', en', l1, l2, l3, l4⟩ := rl
  have : d' = d := (nIc (by omega) (by omega)).mp (l3.symm.trans h)
  subst this
  unfold f8_back
  rw [if_neg (by decide), l2, if_neg (show ¬ (5 : Int32) ≤ nI d' from nI_ge (b := 5) hd (by omega))]
/-- a motion: the order of fewest changes that has the word said, and of these the first row -/
def MotR (P : PP) (C : CC) (k q R : Nat) : Prop := R < pn P ^ pn P ∧ permB (pn P) R = true ∧ saidBy P C (dgt (pn P) R) k q ∧ ∀ R', R' < pn P ^ pn P → permB (pn P) R' = true → saidBy P C (dgt (pn P) R') k q → chg P C (dgt (pn P) R) (pn P) < chg P C (dgt (pn P) R') (pn P) ∨ (chg P C (dgt (pn P) R) (pn P) = chg P C (dgt (pn P) R') (pn P) ∧ R ≤ R')
theorem motion_d {j : Nat} {σ τ : HS} {P : PP} {C : CC} (hB : InvB j σ τ P C) (hj : j < 512) (hn : 0 < pn P) {k q : Nat} (hk : k < pn P) (hq : q < pw P k) : ∃ σ', InvB (j + 1) σ' τ P C ∧ ((∀ x : Int32, (x = -1 ∨ ∃ p, p < pn P ∧ x = nI p) → f8_motion (nI k) (nI q) x σ = some (-9, σ')) ∧ (∀ R, R < pn P ^ pn P → permB (pn P) R = true → ¬ saidBy P C (dgt (pn P) R) k q) ∨ ∃ R, MotR P C k q R ∧ f8_motion (nI k) (nI q) (-1) σ = some (nI (chg P C (dgt (pn P) R) (pn P)), σ') ∧ ∀ p, p < pn P → f8_motion (nI k) (nI q) (nI p) σ = some (nI (dgt (pn P) R p), σ')) := by
  obtain ⟨w, wc, rp, rc, -⟩ := id hB
  have h5 := w.1
  have h3 := (w.2.2.2 k hk).2.2.1
  have h2 : 2 ≤ pn P := by rcases w.2.2.1 with z | z <;> omega
  obtain ⟨σ1, q1, q2, q3⟩ := seek_c hB hj hn
  have head : ∀ x : Int32, (x = -1 ∨ ∃ p, p < pn P ∧ x = nI p) → f8_motion (nI k) (nI q) x σ = (bd (f3_isFound (nI k) (nI q) σ1) fun r6 => if (r6.1 : Int32) = 0 then some (-9, r6.2) else if x = -1 then bd (f3_changesFor (nI k) (nI q) r6.2) fun r9 => some (r9.1, r9.2) else bd (f3_whoFor (nI k) (nI q) x r6.2) fun r11 => some (r11.1, r11.2)) := by
    intro x hx
    unfold f8_motion
    rw [hasW_y rp w hk hq, bd_s, if_neg n10]
    dsimp only
    rw [rp.1, if_neg (by
      rcases hx with rfl | ⟨p, hp, rfl⟩
      · decide
      · rw [Int32.lt_iff_toInt_lt, tn1, nI_toInt (by omega)]; omega), if_pos (by
      rcases hx with rfl | ⟨p, hp, rfl⟩
      · rw [Int32.lt_iff_toInt_lt, tn1, nI_toInt (by omega)]; omega
      · exact nI_lt hp (by omega)), q1, bd_s]
  refine ⟨σ1, q2, ?_⟩
  unfold f3_isFound f3_changesFor f3_whoFor at head
  rcases q3 k q hk hq with ⟨m1, m2⟩ | ⟨R, r, m1, m2, m3, m4, m5, m6, m7, m8⟩
  · left
    refine ⟨fun x hx => ?_, m2⟩
    rw [head x hx, pow3, bd_s, at_in (by omega) (by omega), bd_s, bd_s]
    dsimp only
    rw [m1, if_pos (show (6 : Int32) ≤ 6 by decide), bd_s, if_pos rfl]
  · right
    have cle := chg_le P C (dgt (pn P) R) (pn P)
    refine ⟨R, ⟨m1, m2, m3, m4⟩, ?_, fun t ht => ?_⟩
    · rw [head _ (Or.inl rfl), pow3, bd_s, at_in (by omega) (by omega), bd_s, bd_s]
      dsimp only
      rw [m5, if_neg (show ¬ (6 : Int32) ≤ nI _ from nI_ge (b := 6) (by omega) (by omega)), bd_s, if_neg n10, if_pos rfl, pow3, bd_s, at_in (by omega) (by omega), bd_s, bd_s, m5]
    · rw [head _ (Or.inr ⟨t, ht, rfl⟩), pow3, bd_s, at_in (by omega) (by omega), bd_s, bd_s]
      dsimp only
      rw [m5, if_neg (show ¬ (6 : Int32) ≤ nI _ from nI_ge (b := 6) (by omega) (by omega)), bd_s, if_neg n10, if_neg (nI_m1 (by omega)), pow3, bd_s, at_in (by omega) (by omega), bd_s, bd_s, m6]
      have e3t : nI t * (3 : Int32) = nI (3 * t) := by show nI t * nI 3 = _; rw [pk_mul, Nat.mul_comm]
      have e8 : (8 : Nat) ^ t = 2 ^ (3 * t) := by rw [Nat.pow_mul]
      have dr := Nat.div_le_self r (2 ^ (3 * t))
      rw [e3t, shr1 (by omega) (by omega), pk_andN (by omega) 3 (m := 7) (by decide), ← e8, show (2 : Nat) ^ 3 = 8 from rfl, m8 t ht]
theorem motion_n {P : PP} {σ : HS} (rp : RepP σ P) (w : WfP P) {x y : Int32} (hx : (x.toInt < 0 ∨ (pn P : Int) ≤ x.toInt) ∨ ∃ k, k < pn P ∧ x = nI k ∧ (y.toInt < 0 ∨ (pw P k : Int) ≤ y.toInt)) (z : Int32) : f8_motion x y z σ = some (-1, σ) := by
  unfold f8_motion
  rw [hasW_n rp w hx, bd_s, if_pos rfl]
theorem motion_p {P : PP} {σ : HS} (rp : RepP σ P) (w : WfP P) {k q : Nat} (hk : k < pn P) (hq : q < pw P k) : f8_motion (nI k) (nI q) (nI (pn P)) σ = some (-1, σ) := by
  have h5 := w.1
  unfold f8_motion
  rw [hasW_y rp w hk hq, bd_s, if_neg n10]
  dsimp only
  rw [rp.1, if_neg (by rw [Int32.lt_iff_toInt_lt, tn1, nI_toInt (by omega)]; omega), if_neg (by rw [Int32.lt_iff_toInt_lt]; omega)]
