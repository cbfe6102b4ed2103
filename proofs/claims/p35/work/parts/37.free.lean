/-! free days and forced days, on both sides -/
def LayAt (τ : HS) (P : PP) (C : CC) : Prop := ∀ t x, t < turnsN P C → x ≤ pj P → EntM τ P C t x
theorem LayAt.fr {τ τ' : HS} {P : PP} {C : CC} (h : LayAt τ P C) (f : FrM τ τ') : LayAt τ' P C := fun t x ht hx => by
  have := h t x ht hx
  unfold EntM at this ⊢
  rw [f.1 15 (by omega) (by omega) (by omega) (by omega), f.1 16 (by omega) (by omega) (by omega) (by omega)]
  exact this
theorem PlanAt.fr {σ σ' : HS} {P : PP} {C : CC} {g : Nat} (h : PlanAt σ g P C) (f : FrC g σ σ') : PlanAt σ' g P C := h.congr (f.1 _ (by omega) (by omega) (by omega)) (f.2 _ (by omega))
theorem InvB.lay {j : Nat} {σ τ τ' : HS} {P : PP} {C : CC} (h : InvB j σ τ P C) (f : FrL τ τ') : InvB j σ τ' P C := by
  obtain ⟨a1, a2, a3, a4, a5, a6, a7, a8, a9, b1, b2, b3, b4⟩ := id h
  exact h.mk' (fun _ _ => rfl) rfl ⟨rfl, rfl⟩ a8 a9 b1 b2 (fun a ha => f a (by omega) (by omega)) (fun y _ _ => by rw [f 0 (by omega) (by omega)])
theorem free_ok {P : PP} {C : CC} (w : WfP P) (wc : WfC P C) : SaidOk P C (freeSaid P C) := fun t x ht _ => by
  have := (plan_b (m := 0) w wc (turnsN P C - t) x (by omega)).2.2 (by omega)
  rw [show turnsN P C - (turnsN P C - t) = t by omega] at this
  have nl := nWords_le 0 P (who P C t)
  unfold freeSaid
  omega
def forceSaid (P : PP) (C : CC) (p c : Nat) : Nat → Nat → Nat := fun t x => if t = p then c else freeSaid P C t x
theorem force_ok {P : PP} {C : CC} (w : WfP P) (wc : WfC P C) {p c : Nat} (hc : p < turnsN P C → c = 9 ∨ c < pw P (who P C p)) : SaidOk P C (forceSaid P C p c) := fun t x ht hx => by
  unfold forceSaid
  by_cases e : t = p
  · rw [if_pos e, e]; exact hc (by omega)
  · rw [if_neg e]; exact free_ok w wc t x ht hx
theorem m1_ne (t : Nat) (h : t < 1000) : nI t ≠ -1 := nI_m1 (by omega)
theorem m7_ne (t : Nat) (h : t < 1000) : nI t ≠ -7 := fun e => by
  have := congrArg Int32.toInt e
  rw [nI_toInt (by omega), tn7] at this
  omega
theorem freeC {σ : HS} {P : PP} {C : CC} (rp : RepP σ P) (rc : RepC σ 20 P C) (w : WfP P) (wc : WfC P C) (pa : PlanAt σ 20 P C) : ∃ σ', f1_goFreely 20 σ = some σ' ∧ FrC 20 σ σ' ∧ DayC σ' 20 P C (freeSaid P C) (turnsN P C) := by
  have h6 := turns_le C w
  obtain ⟨σ', q1, q2, q3⟩ := go_c (x1 := -1) (c := 9) (by omega) rp rc w wc (free_ok w wc) (fun t ht _ => by
    have := (pa t _ ht (dok w wc (free_ok w wc) t (by omega)).1).1
    rw [show t * 100 + (dday P C (freeSaid P C) t).1 = 100 * t + (dday P C (freeSaid P C) t).1 by omega] at this
    exact this) (fun t ht e => absurd e (m1_ne t (by omega)))
  rw [cd_9] at q1
  unfold f1_goFreely
  rw [q1, bd_s]
  exact ⟨σ', rfl, q2, q3⟩
theorem forceC {σ : HS} {P : PP} {C : CC} {p c : Nat} (rp : RepP σ P) (rc : RepC σ 20 P C) (w : WfP P) (wc : WfC P C) (pa : PlanAt σ 20 P C) (hp : p < 1000) (hc : p < turnsN P C → c = 9 ∨ c < pw P (who P C p)) : ∃ σ', f1_goForced 20 (nI p) (cd c) σ = some σ' ∧ FrC 20 σ σ' ∧ DayC σ' 20 P C (forceSaid P C p c) (turnsN P C) := by
  have h6 := turns_le C w
  exact go_c (x1 := nI p) (c := c) (by omega) rp rc w wc (force_ok w wc hc) (fun t ht e => by
    have ne : ¬ t = p := fun z => e (by rw [z])
    have := (pa t _ ht (dok w wc (force_ok w wc hc) t (by omega)).1).1
    rw [show t * 100 + (dday P C (forceSaid P C p c) t).1 = 100 * t + (dday P C (forceSaid P C p c) t).1 by omega] at this
    rw [this]
    unfold forceSaid
    rw [if_neg ne]; rfl) (fun t ht e => by
    have := (nIc (by omega) (by omega)).mp e
    unfold forceSaid
    rw [if_pos this])
theorem freeM {τ : HS} {P : PP} {C : CC} (rm : RepM τ P C) (w : WfP P) (wc : WfC P C) (la : LayAt τ P C) : ∃ τ', f9_goDay (-7) (-9) τ = some τ' ∧ FrM τ τ' ∧ DayM τ' P C (freeSaid P C) (turnsN P C) := by
  have h6 := turns_le C w
  exact go_m (x1 := -7) (c := 9) rm w wc (free_ok w wc) (fun t ht _ => (la t _ ht (dok w wc (free_ok w wc) t (by omega)).1).1) (fun t ht e => absurd e (m7_ne t (by omega)))
theorem forceM {τ : HS} {P : PP} {C : CC} {p c : Nat} (rm : RepM τ P C) (w : WfP P) (wc : WfC P C) (la : LayAt τ P C) (hp : p < 1000) (hc : p < turnsN P C → c = 9 ∨ c < pw P (who P C p)) : ∃ τ', f9_goDay (nI p) (cd c) τ = some τ' ∧ FrM τ τ' ∧ DayM τ' P C (forceSaid P C p c) (turnsN P C) := by
  have h6 := turns_le C w
  exact go_m (x1 := nI p) (c := c) rm w wc (force_ok w wc hc) (fun t ht e => by
    have ne : ¬ t = p := fun z => e (by rw [z])
    rw [(la t _ ht (dok w wc (force_ok w wc hc) t (by omega)).1).1]
    unfold forceSaid
    rw [if_neg ne]) (fun t ht e => by
    have := (nIc (by omega) (by omega)).mp e
    unfold forceSaid
    rw [if_pos this])
theorem goFree_m {τ : HS} {P : PP} {C : CC} (rm : RepM τ P C) (w : WfP P) (wc : WfC P C) : ∃ τ1 τ', f9_goFree τ = some τ' ∧ FrL τ τ1 ∧ FrM τ1 τ' ∧ LayAt τ' P C ∧ DayM τ' P C (freeSaid P C) (turnsN P C) := by
  obtain ⟨τ1, q1, q2, q3⟩ := lay_m rm w wc
  obtain ⟨τ2, r1, r2, r3⟩ := freeM (q2.rm rm) w wc q3
  unfold f9_goFree
  rw [q1, bd_s, r1, bd_s]
  exact ⟨τ1, τ2, rfl, q2, r2, LayAt.fr q3 r2, r3⟩
theorem free_b {j : Nat} {σ τ : HS} {P : PP} {C : CC} (hB : InvB j σ τ P C) (hj : j < 512) : ∃ σ0 σ' τ', f8_planAhead σ = some σ0 ∧ f1_goFreely 20 σ0 = some σ' ∧ f9_goFree τ = some τ' ∧ InvB (j + 1) σ' τ' P C ∧ PlanAt σ' 20 P C ∧ LayAt τ' P C ∧ DayC σ' 20 P C (freeSaid P C) (turnsN P C) ∧ DayM τ' P C (freeSaid P C) (turnsN P C) := by
  obtain ⟨w, wc, rp, rc, rm, -⟩ := id hB
  obtain ⟨σ1, q1, q2, q3⟩ := ahead_c hB hj
  obtain ⟨σ2, r1, r2, r3⟩ := freeC q2.2.2.1 q2.2.2.2.1 w wc q3
  obtain ⟨τ1, τ2, s1, s2, s3, s4, s5⟩ := goFree_m rm w wc
  exact ⟨σ1, σ2, τ2, q1, r1, s1, (q2.lay s2).fr (Or.inl rfl) r2 s3, q3.fr r2, s4, r3, s5⟩
theorem turn_c {P : PP} {C : CC} {σ τ : HS} (rp : RepP σ P) (rc : RepC σ 20 P C) (rm : RepM τ P C) (w : WfP P) (wc : WfC P C) (x : Int32) : (f0_hasTurn x σ = some (0, σ) ∧ f9_noTurn x τ = some (1, τ)) ∨ ∃ t, t < turnsN P C ∧ x = nI t ∧ f0_hasTurn x σ = some (1, σ) ∧ f9_noTurn x τ = some (0, τ) := by
  have h6 := turns_le C w
  unfold f0_hasTurn f0_hasTurn_16 f9_noTurn
  rw [turns_g rp rc w wc, turns_m rm w wc, bd_s, bd_s]
  rcases arg_c x (turnsN P C) (by omega) with h | ⟨t, ht, rfl⟩
  · left
    rw [in_n (by rw [w64, i64_sub1 _ (by omega)]; show _ < (0 : Int) ∨ _; omega), bd_s, if_pos rfl]
    refine ⟨?_, rfl⟩
    by_cases c : x < 0
    · rw [if_pos c]
    · rw [if_neg c, if_pos]
      rw [Int32.lt_iff_toInt_lt] at c
      have : (0 : Int32).toInt = 0 := rfl
      rw [Int32.le_iff_toInt_le, nI_toInt (by omega)]; omega
  · right
    rw [in_y (by rw [w64, nI_toInt (by omega)]; show (0 : Int) ≤ _; omega) (by rw [w64, nI_toInt (by omega), i64_sub1 _ (by omega)]; omega), bd_s, if_neg n10, if_neg (nI_pos (by omega)), if_neg (nI_ge ht (by omega))]
    exact ⟨t, ht, rfl, rfl, rfl⟩
theorem op_choice (j : Nat) (σ τ : HS) (a1 a2 : Int32) (hI : Inv j σ τ) (hj : j < 512) : ∃ (r : Int32) (σ1 τ1 : HS), f8_choice a1 a2 σ = some (r, σ1) ∧ f9_choice a1 a2 τ = some (r, τ1) ∧ Inv (j + 1) σ1 τ1 := by
  obtain ⟨P, C, hB⟩ := hI
  obtain ⟨w, wc, rp, rc, rm, -⟩ := id hB
  have h99 := w.2.1
  have h6 := turns_le C w
  unfold f8_choice f9_choice
  rcases turn_c rp rc rm w wc a1 with ⟨e1, e2⟩ | ⟨t, ht, rfl, e1, e2⟩
  · rw [e1, bd_s, if_pos rfl, e2, bd_s, if_neg n10]
    exact ⟨_, _, _, rfl, rfl, P, C, hB.mono⟩
  · rw [e1, bd_s, if_neg n10, e2, bd_s, if_pos rfl]
    dsimp only
    rw [rp.2.1, rm.2.1]
    rcases arg_c a2 (pj P + 1) (by omega) with hx | ⟨x, hx, rfl⟩
    · rw [in_n (by rw [w64, w64, nI_toInt (by omega)]; show _ < (0 : Int) ∨ _; omega), bd_s, if_pos rfl]
      refine ⟨_, _, _, ?_, rfl, P, C, hB.mono⟩
      by_cases c : a2 < 0
      · rw [if_pos c]
      · rw [if_neg c, if_neg]
        rw [Int32.lt_iff_toInt_lt] at c
        have : (0 : Int32).toInt = 0 := rfl
        rw [Int32.le_iff_toInt_le, nI_toInt (by omega)]; omega
    · rw [in_y (by rw [w64, nI_toInt (by omega)]; show (0 : Int) ≤ _; omega) (by rw [w64, w64, nI_toInt (by omega), nI_toInt (by omega)]; omega), bd_s, if_neg n10, if_neg (nI_pos (by omega)), if_pos (nI_le (by omega) (by omega))]
      obtain ⟨σ1, q1, q2, q3⟩ := ahead_c hB hj
      obtain ⟨τ1, r1, r2, r3⟩ := lay_m rm w wc
      rw [q1, bd_s, r1, bd_s]
      unfold f5_wordAt
      have pe := (q3 t x ht (by omega)).1
      rw [show t * 100 + x = 100 * t + x by omega] at pe
      rw [e100s, bd_s, at_in (by omega) (by omega), bd_s, bd_s, pe, e100, ix_in (by omega) (by omega), nI_clamp (by omega), (r3 t x ht (by omega)).1]
      exact ⟨_, _, _, rfl, rfl, P, C, q2.lay r2⟩
theorem op_says (j : Nat) (σ τ : HS) (a1 : Int32) (hI : Inv j σ τ) (hj : j < 512) : ∃ (r : Int32) (σ1 τ1 : HS), f8_says a1 σ = some (r, σ1) ∧ f9_says a1 τ = some (r, τ1) ∧ Inv (j + 1) σ1 τ1 := by
  obtain ⟨P, C, hB⟩ := hI
  obtain ⟨w, wc, rp, rc, rm, -⟩ := id hB
  have h6 := turns_le C w
  unfold f8_says f9_says f1_saidIn
  rcases turn_c rp rc rm w wc a1 with ⟨e1, e2⟩ | ⟨t, ht, rfl, e1, e2⟩
  · rw [e1, bd_s, if_pos rfl, e2, bd_s, if_neg n10]
    exact ⟨_, _, _, rfl, rfl, P, C, hB.mono⟩
  · obtain ⟨σ0, σ1, τ1, q0, q1, q2, q3, q4, q5, q6, q7⟩ := free_b hB hj
    rw [e1, bd_s, if_neg n10, e2, bd_s, if_pos rfl, q0, bd_s, q1, bd_s, q2, bd_s, at_in (by omega) (by omega), bd_s, bd_s, ix_in (by omega) (by omega), nI_clamp (by omega), (q6.2.2.2.2.2 t ht).1, (q7.2.2.2.2 t ht).1]
    exact ⟨_, _, _, rfl, rfl, P, C, q3⟩
theorem op_water (j : Nat) (σ τ : HS) (a1 : Int32) (hI : Inv j σ τ) (hj : j < 512) : ∃ (r : Int32) (σ1 τ1 : HS), f8_water a1 σ = some (r, σ1) ∧ f9_water a1 τ = some (r, τ1) ∧ Inv (j + 1) σ1 τ1 := by
  obtain ⟨P, C, hB⟩ := hI
  obtain ⟨w, wc, rp, rc, rm, -⟩ := id hB
  have h6 := turns_le C w
  unfold f8_water f9_water f1_waterIn
  rcases turn_c rp rc rm w wc a1 with ⟨e1, e2⟩ | ⟨t, ht, rfl, e1, e2⟩
  · rw [e1, bd_s, if_pos rfl, e2, bd_s, if_neg n10]
    exact ⟨_, _, _, rfl, rfl, P, C, hB.mono⟩
  · obtain ⟨σ0, σ1, τ1, q0, q1, q2, q3, q4, q5, q6, q7⟩ := free_b hB hj
    rw [e1, bd_s, if_neg n10, e2, bd_s, if_pos rfl, q0, bd_s, q1, bd_s, q2, bd_s, at_in (by omega) (by omega), bd_s, bd_s, ix_in (by omega) (by omega), nI_clamp (by omega), (q6.2.2.2.2.2 t ht).2, (q7.2.2.2.2 t ht).2]
    exact ⟨_, _, _, rfl, rfl, P, C, q3⟩
theorem op_worth (j : Nat) (σ τ : HS) (a1 : Int32) (hI : Inv j σ τ) (hj : j < 512) : ∃ (r : Int32) (σ1 τ1 : HS), f8_worth a1 σ = some (r, σ1) ∧ f9_worth a1 τ = some (r, τ1) ∧ Inv (j + 1) σ1 τ1 := by
  obtain ⟨P, C, hB⟩ := hI
  obtain ⟨w, wc, rp, rc, rm, -⟩ := id hB
  have h5 := w.1
  unfold f8_worth f9_worth
  rcases arg_c a1 (pn P) (by omega) with hx | ⟨k, hk, rfl⟩
  · rw [has_n rp.1 h5 hx, bd_s, if_pos rfl, nsp_n rm.1 h5 hx, bd_s, if_neg n10]
    exact ⟨_, _, _, rfl, rfl, P, C, hB.mono⟩
  · obtain ⟨σ0, σ1, τ1, q0, q1, q2, q3, q4, q5, q6, q7⟩ := free_b hB hj
    have wl := worth_lt (C := C) w wc (free_ok w wc) (Nat.le_refl _)
    rw [has_y rp.1 h5 hk, bd_s, if_neg n10, nsp_y rm.1 h5 hk, bd_s, if_pos rfl, q0, bd_s, q1, bd_s, q2, bd_s, q6.2.2.2.2.1, worthIn_c (fun i _ => by have := wl i; omega) (by omega), bd_s, ix_in (by omega) (by omega), nI_clamp (by omega), q7.2.2.2.1 k hk]
    exact ⟨_, _, _, rfl, rfl, P, C, q3⟩
theorem two_c {P : PP} {C : CC} {σ : HS} (rp : RepP σ P) (w : WfP P) (x y : Int32) : (((x.toInt < 0 ∨ (pn P : Int) ≤ x.toInt) ∨ ((∃ k, k < pn P ∧ x = nI k) ∧ (y.toInt < 0 ∨ (pn P : Int) ≤ y.toInt)) ∨ ∃ k, k < pn P ∧ x = nI k ∧ y = nI k) ∧ f8_areTwo x y σ = some (0, σ)) ∨ ∃ k l, k < pn P ∧ l < pn P ∧ k ≠ l ∧ x = nI k ∧ y = nI l ∧ f8_areTwo x y σ = some (1, σ) := by
  have h5 := w.1
  unfold f8_areTwo f8_areTwo_31
  rcases arg_c x (pn P) (by omega) with hx | ⟨k, hk, rfl⟩
  · rw [has_n rp.1 h5 hx, bd_s, if_pos rfl]; exact Or.inl ⟨Or.inl hx, rfl⟩
  · rw [has_y rp.1 h5 hk, bd_s, if_neg n10]
    rcases arg_c y (pn P) (by omega) with hy | ⟨l, hl, rfl⟩
    · rw [has_n rp.1 h5 hy, bd_s, if_pos rfl]; exact Or.inl ⟨Or.inr (Or.inl ⟨⟨k, hk, rfl⟩, hy⟩), rfl⟩
    · rw [has_y rp.1 h5 hl, bd_s, if_neg n10]
      by_cases c : k = l
      · subst c
        rw [if_pos rfl]; exact Or.inl ⟨Or.inr (Or.inr ⟨k, hk, rfl, rfl⟩), rfl⟩
      · rw [if_neg (fun z => c ((nIc (by omega) (by omega)).mp z))]
        exact Or.inr ⟨k, l, hk, hl, c, rfl, rfl, rfl⟩
/-- a day up to a turn rests on what is said before it -/
theorem dday_ext (P : PP) (C : CC) (s1 s2 : Nat → Nat → Nat) : ∀ t, (∀ i x, i < t → s1 i x = s2 i x) → dday P C s1 t = dday P C s2 t := by
  intro t
  induction t with
  | zero => intro _; rfl
  | succ t ih =>
    intro h
    have e := ih (fun i x hi => h i x (by omega))
    show dstep P C t (s1 t (dday P C s1 t).1) (dday P C s1 t) = dstep P C t (s2 t (dday P C s2 t).1) (dday P C s2 t)
    rw [e, h t _ (by omega)]
theorem place_turn {P : PP} {C : CC} {p : Nat} (hp : p < pn P) : p < turnsN P C ∧ who P C p = co C p := by
  refine ⟨by unfold turnsN; split <;> omega, ?_⟩
  unfold who; rw [if_pos hp]
def longest (P : PP) (k x : Nat) : Nat → Nat × Nat
  | 0 => (9, 0)
  | q + 1 => if pl P (3 * k + q) ≤ x ∧ (longest P k x q).2 < pl P (3 * k + q) then (q, pl P (3 * k + q)) else longest P k x q
theorem longest_c (P : PP) (k x : Nat) : ∀ n, ((longest P k x n).1 = 9 ∧ (longest P k x n).2 = 0) ∨ ((longest P k x n).1 < n ∧ (longest P k x n).2 = pl P (3 * k + (longest P k x n).1)) := by
  intro n
  induction n with
  | zero => exact Or.inl ⟨rfl, rfl⟩
  | succ n ih =>
    unfold longest
    split
    · exact Or.inr ⟨Nat.lt_succ_self n, rfl⟩
    · rcases ih with h | h
      · exact Or.inl h
      · exact Or.inr ⟨by omega, h.2⟩
theorem longC {σ : HS} {P : PP} (rp : RepP σ P) (w : WfP P) {k x : Nat} (hk : k < pn P) (hx : x ≤ 99) : f4_longestWithin (nI k) (nI x) σ = some (cd (longest P k x (pw P k)).1, σ) := by
  have h5 := w.1
  have h3 := (w.2.2.2 k hk).2.2.1
  unfold f4_longestWithin f4_longestWithin_9
  refine wl_eq (fun p : Int32 × Int32 × Int32 × HS => ∃ q, q ≤ pw P k ∧ p = (cd (longest P k x q).1, nI (longest P k x q).2, nI q, σ)) (fun p => 10 - p.2.2.1.toNatClampNeg) _ _ ⟨0, by omega, rfl⟩ (by show 10 - _ < _; omega) ?_
  rintro k2 _ ⟨q, hq, rfl⟩ ih
  dsimp only
  unfold f4_longestWithin_9_b f4_longestWithin_54
  rw [wordsOf_5 rp w hk, bd_s]
  by_cases c : pw P k ≤ q
  · have : q = pw P k := by omega
    subst this
    rw [if_pos (nI_le c (by omega))]
  · have hl := (w.2.2.2 k hk).2.2.2 q (by omega)
    have bl : (longest P k x q).2 < 1000 := by
      rcases longest_c P k x q with h | h
      · omega
      · have := (w.2.2.2 k hk).2.2.2 (longest P k x q).1 (by omega)
        omega
    have go : ∀ z : Nat × Nat, z = longest P k x (q + 1) → k2 (cd z.1, nI z.2, nI q + 1, σ) = some (cd (longest P k x (pw P k)).1, σ) := by
      rintro z rfl
      rw [nI_1]
      refine ih _ ⟨q + 1, by omega, rfl⟩ ?_
      show 10 - (nI (q + 1)).toNatClampNeg < 10 - (nI q).toNatClampNeg
      rw [nI_clamp (by omega), nI_clamp (by omega)]; omega
    rw [if_neg (nI_ge (by omega) (by omega)), if_neg (show ¬ (3 : Int32) ≤ nI q from nI_ge (b := 3) (by omega) (by omega)), lengthOf_5 rp w hk (by omega), bd_s]
    dsimp only
    by_cases c1 : pl P (3 * k + q) ≤ x
    · rw [if_neg (nI_nlt c1 (by omega))]
      by_cases c2 : (longest P k x q).2 < pl P (3 * k + q)
      · rw [if_neg (nI_ge c2 (by omega)), ← cd_z (show q < 9 by omega)]
        have := go (q, pl P (3 * k + q)) (by rw [longest, if_pos ⟨c1, c2⟩])
        rw [cd_z (show q < 9 by omega)] at this ⊢
        exact this
      · rw [if_pos (nI_le (by omega) (by omega))]
        exact go _ (by rw [longest, if_neg (fun z => c2 z.2)])
    · rw [if_pos (nI_lt (by omega) (by omega))]
      exact go _ (by rw [longest, if_neg (fun z => c1 z.1)])
theorem longM {τ : HS} {P : PP} {C : CC} (rm : RepM τ P C) (w : WfP P) {k x : Nat} (hk : k < pn P) (hx : x ≤ 99) : f9_longestBy (nI k) (nI x) τ = some (cd (longest P k x (pw P k)).1, τ) := by
  have h5 := w.1
  have h3 := (w.2.2.2 k hk).2.2.1
  unfold f9_longestBy f9_longestBy_6
  refine wl_eq (fun p : Int32 × Int32 × HS => ∃ q, q ≤ pw P k ∧ p = (cd (longest P k x q).1, nI q, τ)) (fun p => 10 - p.2.1.toNatClampNeg) _ _ ⟨0, by omega, rfl⟩ (by show 10 - _ < _; omega) ?_
  rintro k2 _ ⟨q, hq, rfl⟩ ih
  dsimp only
  unfold f9_longestBy_6_b f9_longestBy_49 f9_longestBy_50
  rw [ix_in (by omega) (by omega), nI_clamp (by omega), (rm.2.2.2.2.1 k hk).2.1]
  by_cases c : pw P k ≤ q
  · have : q = pw P k := by omega
    subst this
    rw [if_pos (nI_le c (by omega))]
  · have hl := (w.2.2.2 k hk).2.2.2 q (by omega)
    have bl : f9_lengthAs (nI k) (cd (longest P k x q).1) τ = some (nI (longest P k x q).2, τ) ∧ (longest P k x q).2 ≤ 100 := by
      rcases longest_c P k x q with ⟨e1, e2⟩ | ⟨e1, e2⟩
      · rw [e1, e2, cd_9, len_9]; exact ⟨rfl, by omega⟩
      · have hq3 : (longest P k x q).1 < pw P k := by omega
        have := (w.2.2.2 k hk).2.2.2 _ hq3
        rw [e2, cd_z (by omega), len_q rm w hk hq3]; exact ⟨rfl, by omega⟩
    have go : ∀ z : Nat × Nat, z = longest P k x (q + 1) → k2 (cd z.1, nI q + 1, τ) = some (cd (longest P k x (pw P k)).1, τ) := by
      rintro z rfl
      rw [nI_1]
      refine ih _ ⟨q + 1, by omega, rfl⟩ ?_
      show 10 - (nI (q + 1)).toNatClampNeg < 10 - (nI q).toNatClampNeg
      rw [nI_clamp (by omega), nI_clamp (by omega)]; omega
    rw [if_neg (nI_ge (by omega) (by omega)), heard_c rm w hk (by omega) hx, bd_s]
    by_cases c1 : pl P (3 * k + q) ≤ x
    · rw [if_pos c1, if_neg (show ¬ nI 1 = 0 from n10), len_q rm w hk (by omega), bd_s, bl.1, bd_s]
      by_cases c2 : (longest P k x q).2 < pl P (3 * k + q)
      · rw [if_neg (nI_ge c2 (by omega))]
        have := go (q, pl P (3 * k + q)) (by rw [longest, if_pos ⟨c1, c2⟩])
        rw [cd_z (show q < 9 by omega)] at this
        exact this
      · rw [if_pos (nI_le (by omega) (by omega))]
        exact go _ (by rw [longest, if_neg (fun z => c2 z.2)])
    · rw [if_neg c1, if_pos (show nI 0 = 0 from rfl)]
      exact go _ (by rw [longest, if_neg (fun z => c1 z.1)])
theorem op_owed (j : Nat) (σ τ : HS) (a1 a2 : Int32) (hI : Inv j σ τ) (hj : j < 512) : ∃ (r : Int64) (σ1 τ1 : HS), f8_owed a1 a2 σ = some (r, σ1) ∧ f9_owed a1 a2 τ = some (r, τ1) ∧ Inv (j + 1) σ1 τ1 := by
  obtain ⟨P, C, hB⟩ := hI
  obtain ⟨w, wc, rp, rc, rm, -⟩ := id hB
  have h5 := w.1
  have h99 := w.2.1
  have h6 := turns_le C w
  unfold f8_owed f9_owed f9_owed_21 f9_lost
  rcases two_c (C := C) rp w a1 a2 with ⟨hx | ⟨⟨k, hk, rfl⟩, hy⟩ | ⟨k, hk, rfl, rfl⟩, e⟩ | ⟨k, l, hk, hl, hne, rfl, rfl, e⟩
  · rw [e, bd_s, if_pos rfl, nsp_n rm.1 h5 hx, bd_s, if_neg n10, bd_s]
    exact ⟨_, _, _, rfl, rfl, P, C, hB.mono⟩
  · rw [e, bd_s, if_pos rfl, nsp_y rm.1 h5 hk, bd_s, if_pos rfl, nsp_n rm.1 h5 hy, bd_s, if_neg n10, bd_s]
    exact ⟨_, _, _, rfl, rfl, P, C, hB.mono⟩
  · rw [e, bd_s, if_pos rfl, nsp_y rm.1 h5 hk, bd_s, if_pos rfl, nsp_y rm.1 h5 hk, bd_s, if_pos rfl, if_pos rfl, bd_s]
    exact ⟨_, _, _, rfl, rfl, P, C, hB.mono⟩
  · obtain ⟨p, hp, ep⟩ := place_ex wc hk
    obtain ⟨pt1, pt2⟩ := place_turn (C := C) hp
    obtain ⟨σ1, q1, q2, q3⟩ := ahead_c hB hj
    obtain ⟨σ2, r1, r2, r3⟩ := forceC (p := p) (c := 9) q2.2.2.1 q2.2.2.2.1 w wc q3 (by omega) (fun _ => Or.inl rfl)
    rw [cd_9] at r1
    have rp2 := r2.rp (by omega) q2.2.2.1
    have rc2 := r2.rc q2.2.2.2.1
    have same : dday P C (forceSaid P C p 9) p = dday P C (freeSaid P C) p := dday_ext P C _ _ p (fun i x hi => by unfold forceSaid; rw [if_neg (by omega)])
    have hw99 := (dok w wc (free_ok w wc) p (by omega)).1
    generalize hX : (dday P C (freeSaid P C) p).1 = X at *
    have hcl : p < turnsN P C → (longest P k X (pw P k)).1 = 9 ∨ (longest P k X (pw P k)).1 < pw P (who P C p) := fun _ => by
      rw [pt2, ep]
      rcases longest_c P k X (pw P k) with h | h
      · exact Or.inl h.1
      · exact Or.inr h.1
    obtain ⟨σ3, s1, s2, s3⟩ := forceC (p := p) (c := (longest P k X (pw P k)).1) rp2 rc2 w wc (q3.fr r2) (by omega) hcl
    have wl9 := worth_lt (C := C) w wc (force_ok (p := p) (c := 9) w wc (fun _ => Or.inl rfl)) (Nat.le_refl _)
    have wlq := worth_lt (C := C) w wc (force_ok w wc hcl) (Nat.le_refl _)
    obtain ⟨τ1, τ2, t1, t2, t3, t4, t5⟩ := goFree_m rm w wc
    have rm2 := t3.rm (t2.rm rm)
    obtain ⟨τ3, u1, u2, u3⟩ := forceM (p := p) (c := 9) rm2 w wc t4 (by omega) (fun _ => Or.inl rfl)
    rw [cd_9] at u1
    obtain ⟨τ4, v1, v2, v3⟩ := forceM (p := p) (c := (longest P k X (pw P k)).1) (u2.rm rm2) w wc (t4.fr u2) (by omega) hcl
    rw [e, bd_s, if_neg n10, placeOf_c rp rc w wc hp ep, bd_s, q1, bd_s, r1, bd_s, r3.2.2.2.2.1, worthIn_c (fun i _ => by have := wl9 i; omega) (by omega), bd_s]
    unfold f1_waterIn
    rw [at_in (by omega) (by omega), bd_s, bd_s, (r3.2.2.2.2.2 p pt1).2, same, hX, longC rp2 w hk (by omega), bd_s, s1, bd_s, s3.2.2.2.2.1, worthIn_c (fun i _ => by have := wlq i; omega) (by omega), bd_s]
    rw [nsp_y rm.1 h5 hk, bd_s, if_pos rfl, nsp_y rm.1 h5 hl, bd_s, if_pos rfl, if_neg (fun z => hne ((nIc (by omega) (by omega)).mp z)), t1, bd_s, placeOf_m rm2 w wc hp ep, bd_s, ix_in (by omega) (by omega), nI_clamp (by omega)]
    dsimp only
    rw [(t5.2.2.2.2 p pt1).2, hX, longM rm2 w hk (by omega), bd_s, u1, bd_s, ix_in (by omega) (by omega), v1, bd_s, ix_in (by omega) (by omega), nI_clamp (by omega), u3.2.2.2.1 l hl, v3.2.2.2.1 l hl]
    exact ⟨_, _, _, rfl, rfl, P, C, (q2.lay t2).fr (Or.inl rfl) (r2.tr s2) (t3.tr (u2.tr v2))⟩
theorem op_bargain (j : Nat) (σ τ : HS) (a1 a2 : Int32) (hI : Inv j σ τ) (hj : j < 512) : ∃ (r : Int64) (σ1 τ1 : HS), f8_bargain a1 a2 σ = some (r, σ1) ∧ f9_bargain a1 a2 τ = some (r, τ1) ∧ Inv (j + 1) σ1 τ1 := by
  obtain ⟨P, C, hB⟩ := hI
  obtain ⟨w, wc, rp, rc, rm, -⟩ := id hB
  have h5 := w.1
  have h99 := w.2.1
  have h6 := turns_le C w
  unfold f8_bargain f9_bargain f9_bargain_21 f9_lost
  rcases two_c (C := C) rp w a1 a2 with ⟨hx | ⟨⟨k, hk, rfl⟩, hy⟩ | ⟨k, hk, rfl, rfl⟩, e⟩ | ⟨k, l, hk, hl, hne, rfl, rfl, e⟩
  · rw [e, bd_s, if_pos rfl, nsp_n rm.1 h5 hx, bd_s, if_neg n10, bd_s]
    exact ⟨_, _, _, rfl, rfl, P, C, hB.mono⟩
  · rw [e, bd_s, if_pos rfl, nsp_y rm.1 h5 hk, bd_s, if_pos rfl, nsp_n rm.1 h5 hy, bd_s, if_neg n10, bd_s]
    exact ⟨_, _, _, rfl, rfl, P, C, hB.mono⟩
  · rw [e, bd_s, if_pos rfl, nsp_y rm.1 h5 hk, bd_s, if_pos rfl, nsp_y rm.1 h5 hk, bd_s, if_pos rfl, if_pos rfl, bd_s]
    exact ⟨_, _, _, rfl, rfl, P, C, hB.mono⟩
  · obtain ⟨p, hp, ep⟩ := place_ex wc hk
    obtain ⟨pt1, pt2⟩ := place_turn (C := C) hp
    obtain ⟨σ1, q1, q2, q3⟩ := ahead_c hB hj
    obtain ⟨σ2, r1, r2, r3⟩ := forceC (p := p) (c := 9) q2.2.2.1 q2.2.2.2.1 w wc q3 (by omega) (fun _ => Or.inl rfl)
    rw [cd_9] at r1
    have rp2 := r2.rp (by omega) q2.2.2.1
    have rc2 := r2.rc q2.2.2.2.1
    obtain ⟨σ3, s1, s2, s3⟩ := freeC rp2 rc2 w wc (q3.fr r2)
    have wl9 := worth_lt (C := C) w wc (force_ok (p := p) (c := 9) w wc (fun _ => Or.inl rfl)) (Nat.le_refl _)
    have wlf := worth_lt (C := C) w wc (free_ok w wc) (Nat.le_refl _)
    obtain ⟨τ1, τ2, t1, t2, t3, t4, t5⟩ := goFree_m rm w wc
    have rm2 := t3.rm (t2.rm rm)
    obtain ⟨τ3, u1, u2, u3⟩ := forceM (p := p) (c := 9) rm2 w wc t4 (by omega) (fun _ => Or.inl rfl)
    rw [cd_9] at u1
    have b9 := fun i => (show (dday P C (forceSaid P C p 9) (turnsN P C)).2.2.2 i < 256 by have := wl9 i; omega)
    have bf := fun i => (show (dday P C (freeSaid P C) (turnsN P C)).2.2.2 i < 256 by have := wlf i; omega)
    rw [e, bd_s, if_neg n10, q1, bd_s, placeOf_c q2.2.2.1 q2.2.2.2.1 w wc hp ep, bd_s, r1, bd_s, r3.2.2.2.2.1, worthIn_c (fun i _ => b9 i) (by omega), bd_s]
    dsimp only
    rw [r3.2.2.2.2.1, worthIn_c (fun i _ => b9 i) (by omega), bd_s, s1, bd_s, s3.2.2.2.2.1, worthIn_c (fun i _ => bf i) (by omega), bd_s]
    dsimp only
    rw [s3.2.2.2.2.1, worthIn_c (fun i _ => bf i) (by omega), bd_s]
    rw [nsp_y rm.1 h5 hk, bd_s, if_pos rfl, nsp_y rm.1 h5 hl, bd_s, if_pos rfl, if_neg (fun z => hne ((nIc (by omega) (by omega)).mp z)), t1, bd_s, ix_in (by omega) (by omega), ix_in (by omega) (by omega), placeOf_m rm2 w wc hp ep, bd_s, u1, bd_s, ix_in (by omega) (by omega), ix_in (by omega) (by omega), nI_clamp (by omega), nI_clamp (by omega), u3.2.2.2.1 l hl, u3.2.2.2.1 k hk, t5.2.2.2.1 l hl, t5.2.2.2.1 k hk]
    refine ⟨_, _, _, rfl, ?_, P, C, (q2.lay t2).fr (Or.inl rfl) (r2.tr s2) (t3.tr u2)⟩
    have c1 := wl9 k
    have c2 := wl9 l
    have c3 := wlf k
    have c4 := wlf l
    congr 2
    apply congrArg Int32.toInt64
    rw [nI_add, nI_add]
    apply Int32.toInt_inj.mp
    have d1 : ∀ a b : Nat, a < 1000 → b < 1000 → (nI a - nI b).toInt = (a : Int) - b := fun a b h1 h2 => pk_sub_toInt (by omega) (by omega)
    rw [d1 _ _ (by omega) (by omega), sub32 _ _ (by rw [d1 _ _ (by omega) (by omega), nI_toInt (by omega)]; omega) (by rw [d1 _ _ (by omega) (by omega), nI_toInt (by omega)]; omega), d1 _ _ (by omega) (by omega), nI_toInt (by omega)]
    omega
