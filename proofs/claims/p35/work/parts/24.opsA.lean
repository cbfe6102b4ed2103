/-! calls that change nothing but the trace or the fault -/
theorem InvB.obj {j : Nat} {σ τ σ' τ' : HS} {P : PP} {C : CC} (h : InvB j σ τ P C) (e : ∀ a, 1 ≤ a → σ'.1 a = σ.1 a) (e2 : σ'.2 = σ.2) (e11 : σ'.1 0 11 = σ.1 0 11) (t : ∀ a, 1 ≤ a → τ'.1 a = τ.1 a) (t0 : τ'.1 0 1 = τ.1 0 1 ∧ τ'.1 0 2 = τ.1 0 2 ∧ τ'.1 0 3 = τ.1 0 3 ∧ τ'.1 0 4 = τ.1 0 4 ∧ τ'.1 0 29 = τ.1 0 29) (tr : σ'.1 0 12 = τ'.1 0 36) (fl : σ'.1 0 13 = τ'.1 0 0) : InvB j σ' τ' P C := by
  obtain ⟨a1, a2, a3, a4, a5, a6, a7, a8, a9, b1, b2, b3, b4⟩ := h
  refine ⟨a1, a2, a3.congr (fun a h1 _ => ⟨e a (by omega), by rw [e2]⟩), a4.congr (e _ (by omega)) (e _ (by omega)), a5.congr ⟨t0.1, t0.2.1, t0.2.2.1, t0.2.2.2.1⟩ (fun a h1 _ => t a h1), a6.congr ⟨e _ (by omega), e _ (by omega), e _ (by omega)⟩ ⟨t _ (by omega), t _ (by omega), t _ (by omega)⟩, a7.congr ⟨by rw [e _ (by omega)], e _ (by omega), e _ (by omega)⟩ ⟨t0.2.2.2.2, t _ (by omega), t _ (by omega)⟩, a8.congr e11 (e _ (by omega)) (by rw [e2]), a9.congr (by rw [e _ (by omega)]) (e _ (by omega)) (e _ (by omega)), b1.congr (by rw [e _ (by omega)]) (e _ (by omega)), b2.congr (by rw [e _ (by omega)]) (e _ (by omega)), tr, fl⟩
theorem InvB.flt {j : Nat} {σ τ : HS} {P : PP} {C : CC} (h : InvB j σ τ P C) (x : Int32) : InvB j (uI σ 0 13 x) (uI τ 0 0 x) P C := by
  refine h.obj (fun a ha => uI_other (by omega) _ _) rfl ?_ (fun a ha => uI_other (by omega) _ _) ⟨?_, ?_, ?_, ?_, ?_⟩ ?_ ?_ <;> simp only [uI_at] <;> first | rfl | exact h.2.2.2.2.2.2.2.2.2.2.2.1
theorem InvB.trc {j : Nat} {σ τ : HS} {P : PP} {C : CC} (h : InvB j σ τ P C) (x : Int32) : InvB j (uI σ 0 12 x) (uI τ 0 36 x) P C := by
  refine h.obj (fun a ha => uI_other (by omega) _ _) rfl ?_ (fun a ha => uI_other (by omega) _ _) ⟨?_, ?_, ?_, ?_, ?_⟩ ?_ ?_ <;> simp only [uI_at] <;> first | rfl | exact h.2.2.2.2.2.2.2.2.2.2.2.2
theorem op_trace (j : Nat) (σ τ : HS) (hI : Inv j σ τ) (hj : j < 512) : ∃ (r : Int32) (σ1 τ1 : HS), f8_trace σ = some (r, σ1) ∧ f9_trace τ = some (r, τ1) ∧ Inv (j + 1) σ1 τ1 := by
  obtain ⟨P, C, h⟩ := id hI
  exact ⟨_, _, _, rfl, by unfold f9_trace; rw [h.2.2.2.2.2.2.2.2.2.2.2.1], inv_mono hI⟩
theorem op_fault (j : Nat) (σ τ : HS) (hI : Inv j σ τ) (hj : j < 512) : ∃ (r : Int32) (σ1 τ1 : HS), f8_fault σ = some (r, σ1) ∧ f9_fault τ = some (r, τ1) ∧ Inv (j + 1) σ1 τ1 := by
  obtain ⟨P, C, h⟩ := id hI
  exact ⟨_, _, _, rfl, by unfold f9_fault; rw [h.2.2.2.2.2.2.2.2.2.2.2.2], inv_mono hI⟩
theorem op_many (j : Nat) (σ τ : HS) (a1 : Int32) (hI : Inv j σ τ) (hj : j < 512) : ∃ (r : Int32) (σ1 τ1 : HS), f8_many a1 σ = some (r, σ1) ∧ f9_many a1 τ = some (r, τ1) ∧ Inv (j + 1) σ1 τ1 := by
  obtain ⟨P, C, w, wc, rp, rc, rm, rs, rl, h⟩ := id hI
  have key : ∃ r : Int32, f8_many a1 σ = some (r, σ) ∧ f9_many a1 τ = some (r, τ) := by
    unfold f8_many f9_many
    rw [rp.1, rp.2.1, rc.1, rc.2.1, rm.1, rm.2.1, rm.2.2.1, rm.2.2.2.1, turns_g rp rc w wc, turns_m rm w wc, bd_s, bd_s]
    obtain ⟨d, lg, en, h1, h2, h3, -⟩ := rl
    rw [h2, h3]
    repeat' split
    all_goals exact ⟨_, rfl, rfl⟩
  obtain ⟨r, h1, h2⟩ := key
  exact ⟨r, σ, τ, h1, h2, inv_mono hI⟩
theorem op_as (j : Nat) (σ τ : HS) (a1 a2 : Int32) (hI : Inv j σ τ) (hj : j < 512) : ∃ (r : Int32) (σ1 τ1 : HS), f8_as a1 a2 σ = some (r, σ1) ∧ f9_as a1 a2 τ = some (r, τ1) ∧ Inv (j + 1) σ1 τ1 := by
  obtain ⟨P, C, hB⟩ := hI
  obtain ⟨w, wc, rp, rc, rm, -⟩ := id hB
  have h5 := w.1
  unfold f8_as f9_as f8_as_26 f8_as_52 f9_refused f9_failed
  rcases arg_c a1 (pn P) (by omega) with hx | ⟨k, hk, rfl⟩
  · rw [has_n rp.1 h5 hx, bd_s, if_pos rfl, nsp_n rm.1 h5 hx, bd_s, if_neg n10, told_0 (Or.inl (by decide)), bd_s, bd_s]
    exact ⟨_, _, _, rfl, rfl, P, C, (hB.flt 0).mono⟩
  · rw [has_y rp.1 h5 hk, bd_s, if_neg n10, nsp_y rm.1 h5 hk, bd_s, if_pos rfl]
    rcases arg_c a2 3 (by omega) with hy | ⟨d, hd, rfl⟩
    · rw [in_n (by rw [w64]; show _ < (0 : Int) ∨ (2 : Int) < _; omega), bd_s, if_pos rfl, told_0 (Or.inl (by decide)), bd_s, bd_s]
      refine ⟨_, _, _, ?_, rfl, P, C, (hB.flt 0).mono⟩
      by_cases c : a2 < 0
      · rw [if_pos c]
      · rw [if_neg c, if_neg]
        rw [Int32.lt_iff_toInt_lt] at c ⊢
        have : (0 : Int32).toInt = 0 := rfl
        have : (3 : Int32).toInt = 3 := rfl
        omega
    · rw [if_neg (nI_pos (by omega)), if_pos (show nI d < (3 : Int32) from nI_lt (b := 3) hd (by omega)), kindOf_5 rp w hk, bd_s, in_y (by rw [w64, nI_toInt (by omega)]; show (0 : Int) ≤ _; omega) (by rw [w64, nI_toInt (by omega)]; show _ ≤ (2 : Int); omega), bd_s, if_neg n10, ix_in (by omega) (by omega), nI_clamp (by omega), (rm.2.2.2.2.1 k hk).1]
      by_cases c : nI (pk P k) < nI d
      · rw [if_pos c, if_pos c, told_2, bd_s, bd_s]
        exact ⟨_, _, _, rfl, rfl, P, C, (hB.flt 2).mono⟩
      · rw [if_neg c, if_neg c, told_0 (Or.inl (by decide)), bd_s, bd_s]
        exact ⟨_, _, _, rfl, rfl, P, C, (hB.flt 0).mono⟩
theorem op_call (j : Nat) (σ τ : HS) (a1 : Int32) (hI : Inv j σ τ) (hj : j < 512) : ∃ (r : Int32) (σ1 τ1 : HS), f8_call a1 σ = some (r, σ1) ∧ f9_call a1 τ = some (r, τ1) ∧ Inv (j + 1) σ1 τ1 := by
  obtain ⟨P, C, hB⟩ := hI
  obtain ⟨w, wc, rp, rc, rm, -⟩ := id hB
  have h5 := w.1
  have ht := hB.2.2.2.2.2.2.2.2.2.2.2.1
  unfold f8_call f9_call f8_leaveTrace f9_call_26 f9_traced
  rcases arg_c a1 (pn P) (by omega) with hx | ⟨k, hk, rfl⟩
  · rw [has_n rp.1 h5 hx, bd_s, if_pos rfl, nsp_n rm.1 h5 hx, bd_s, if_neg n10]
    exact ⟨_, _, _, rfl, rfl, P, C, hB.mono⟩
  · have h2 := (w.2.2.2 k hk).1
    rw [has_y rp.1 h5 hk, bd_s, if_neg n10, nsp_y rm.1 h5 hk, bd_s, if_pos rfl, kindOf_5 rp w hk, bd_s, ix_in (by omega) (by omega), nI_clamp (by omega), (rm.2.2.2.2.1 k hk).1, bd_s, bd_s, bd_s, bd_s, ixc (by omega) (by omega), ixc (by omega) (by omega), ht, uI_other (a := 1) (by omega), uI_other (a := 1) (by omega), (rm.2.2.2.2.1 k hk).1]
    by_cases c : nI (pk P k) = 2
    · rw [if_pos c, if_pos c, if_pos c]
      exact ⟨_, _, _, rfl, rfl, P, C, (hB.trc _).mono⟩
    · rw [if_neg c, if_neg c, if_neg c]
      exact ⟨_, _, _, rfl, rfl, P, C, (hB.trc _).mono⟩
theorem op_ofWord (j : Nat) (σ τ : HS) (a1 a2 a3 : Int32) (hI : Inv j σ τ) (hj : j < 512) : ∃ (r : Int32) (σ1 τ1 : HS), f8_ofWord a1 a2 a3 σ = some (r, σ1) ∧ f9_ofWord a1 a2 a3 τ = some (r, τ1) ∧ Inv (j + 1) σ1 τ1 := by
  obtain ⟨P, C, hB⟩ := hI
  obtain ⟨w, wc, rp, rc, rm, -⟩ := id hB
  have h5 := w.1
  unfold f8_ofWord f9_ofWord
  rcases word_c P a1 a2 w with hx | ⟨k, q, hk, hq, rfl, rfl⟩
  · rw [hasW_n rp w hx, bd_s, if_pos rfl, nw_n rm w hx, bd_s, if_neg n10]
    exact ⟨_, _, _, rfl, rfl, P, C, hB.mono⟩
  · have h3 := (w.2.2.2 k hk).2.2.1
    have e3 : (3 : Int32) * nI k + nI q = nI (3 * k + q) := by show nI 3 * nI k + nI q = _; rw [pk_mul, nI_add]
    rw [hasW_y rp w hk hq, bd_s, if_neg n10, nw_y rm w hk hq, bd_s, if_pos rfl, lengthOf_5 rp w hk hq, ownOf_5 rp w hk hq, othersOf_5 rp w hk hq, bd_s, bd_s, bd_s, e3, ix_in (by omega) (by omega), ix_in (by omega) (by omega), ix_in (by omega) (by omega), nI_clamp (by omega), ((rm.2.2.2.2.1 k hk).2.2 q hq).1, ((rm.2.2.2.2.1 k hk).2.2 q hq).2.1, ((rm.2.2.2.2.1 k hk).2.2 q hq).2.2]
    repeat' split
    all_goals exact ⟨_, _, _, rfl, rfl, P, C, hB.mono⟩
theorem op_ofSpeaker (j : Nat) (σ τ : HS) (a1 a2 : Int32) (hI : Inv j σ τ) (hj : j < 512) : ∃ (r : Int32) (σ1 τ1 : HS), f8_ofSpeaker a1 a2 σ = some (r, σ1) ∧ f9_ofSpeaker a1 a2 τ = some (r, τ1) ∧ Inv (j + 1) σ1 τ1 := by
  obtain ⟨P, C, hB⟩ := hI
  obtain ⟨w, wc, rp, rc, rm, -⟩ := id hB
  have h5 := w.1
  unfold f8_ofSpeaker f9_ofSpeaker
  rcases arg_c a1 (pn P) (by omega) with hx | ⟨k, hk, rfl⟩
  · rw [has_n rp.1 h5 hx, bd_s, if_pos rfl, nsp_n rm.1 h5 hx, bd_s, if_neg n10]
    exact ⟨_, _, _, rfl, rfl, P, C, hB.mono⟩
  · obtain ⟨p, hp, e⟩ := place_ex wc hk
    rw [has_y rp.1 h5 hk, bd_s, if_neg n10, nsp_y rm.1 h5 hk, bd_s, if_pos rfl, kindOf_5 rp w hk, wordsOf_5 rp w hk, bd_s, bd_s, placeOf_c rp rc w wc hp e, placeOf_m rm w wc hp e, bd_s, bd_s, ix_in (by omega) (by omega), ix_in (by omega) (by omega), nI_clamp (by omega), (rm.2.2.2.2.1 k hk).1, (rm.2.2.2.2.1 k hk).2.1]
    repeat' split
    all_goals exact ⟨_, _, _, rfl, rfl, P, C, hB.mono⟩
theorem RepP.trc {σ : HS} {P : PP} (h : RepP σ P) (x : Int32) : RepP (uI σ 0 12 x) P := h.congr (fun a h1 _ => ⟨uI_other (by omega) _ _, rfl⟩)
theorem op_tell (j : Nat) (σ τ : HS) (a1 : Int32) (hI : Inv j σ τ) (hj : j < 512) : ∃ (r : Int32) (σ1 τ1 : HS), f8_tell a1 σ = some (r, σ1) ∧ f9_tell a1 τ = some (r, τ1) ∧ Inv (j + 1) σ1 τ1 := by
  obtain ⟨P, C, hB⟩ := hI
  obtain ⟨w, wc, rp, rc, rm, -⟩ := id hB
  have h5 := w.1
  have ht := hB.2.2.2.2.2.2.2.2.2.2.2.1
  unfold f8_tell f9_tell
  rcases arg_c a1 (pn P) (by omega) with hx | ⟨k, hk, rfl⟩
  · rw [has_n rp.1 h5 hx, bd_s, if_pos rfl, nsp_n rm.1 h5 hx, bd_s, if_neg n10]
    exact ⟨_, _, _, rfl, rfl, P, C, hB.mono⟩
  · have h2 := (w.2.2.2 k hk).1
    have plain : ∀ σ : HS, RepP σ P → f8_tellPlain (nI k) σ = some (nI (pw P k), uI σ 0 12 (31 * σ.1 0 12 + 1)) := by
      intro σ rp
      unfold f8_tellPlain f8_leaveTrace
      rw [bd_s, wordsOf_5 (rp.trc _) w hk, bd_s]
    have thrifty : ∀ σ : HS, RepP σ P → f8_tellThrifty (nI k) σ = some (nI (pw P k) + 100, uI (uI σ 0 12 (31 * σ.1 0 12 + 2)) 0 12 (31 * (31 * σ.1 0 12 + 2) + 1)) := by
      intro σ rp
      unfold f8_tellThrifty f8_leaveTrace
      rw [bd_s, plain _ (rp.trc _), bd_s, uI_at, if_pos ⟨rfl, rfl⟩]
    rw [has_y rp.1 h5 hk, bd_s, if_neg n10, nsp_y rm.1 h5 hk, bd_s, if_pos rfl, kindOf_5 rp w hk, bd_s, ix_in (by omega) (by omega), nI_clamp (by omega), (rm.2.2.2.2.1 k hk).1]
    unfold f9_tell_27 f9_tell_36 f9_tell_51 f9_traced
    have c3 : pk P k = 0 ∨ pk P k = 1 ∨ pk P k = 2 := by omega
    rcases c3 with c | c | c <;> rw [c]
    · rw [if_neg (show ¬ nI 0 = 1 by decide), if_neg (show ¬ nI 0 = 2 by decide), if_neg (show ¬ nI 0 = 2 by decide), plain _ rp, bd_s, if_pos (show nI 0 ≤ 0 by decide), bd_s, if_neg (show ¬ nI 0 = 2 by decide), ix_in (by omega) (by omega), nI_clamp (by omega), if_pos (show nI 0 = 0 from rfl), uI_other (by omega), (rm.2.2.2.2.1 k hk).2.1, ht]
      exact ⟨_, _, _, rfl, rfl, P, C, (hB.trc _).mono⟩
    · rw [if_pos (show nI 1 = 1 from rfl), if_neg (show ¬ nI 1 = 2 by decide), thrifty _ rp, bd_s, if_neg (show ¬ nI 1 ≤ 0 by decide), bd_s, bd_s, if_neg (show ¬ nI 1 = 2 by decide), ix_in (by omega) (by omega), nI_clamp (by omega), if_neg (show ¬ nI 1 = 0 by decide), if_pos (show nI 1 = 1 from rfl), uI_other (by omega), uI_other (by omega), (rm.2.2.2.2.1 k hk).2.1, uI_at, if_pos ⟨rfl, rfl⟩, ht]
      exact ⟨_, _, _, rfl, rfl, P, C, ((hB.trc _).trc _).mono⟩
    · have e2 : (2 : Int32) * nI (pw P k) + 100 = nI (pw P k) + 100 + nI (pw P k) := by
        show nI 2 * nI (pw P k) + nI 100 = nI (pw P k) + nI 100 + nI (pw P k)
        rw [pk_mul, nI_add, nI_add, nI_add]; congr 1; omega
      rw [if_neg (show ¬ nI 2 = 1 by decide), if_pos (show nI 2 = 2 from rfl), if_pos (show nI 2 = 2 from rfl)]
      unfold f8_tellOld f8_leaveTrace
      rw [bd_s, thrifty _ (rp.trc _), bd_s, plain _ (((rp.trc _).trc _).trc _), bd_s, bd_s, bd_s, if_neg (show ¬ nI 2 ≤ 0 by decide), bd_s, bd_s, if_pos (show nI 2 = 2 from rfl), bd_s, ix_in (by omega) (by omega), nI_clamp (by omega), if_neg (show ¬ nI 2 = 0 by decide), if_neg (show ¬ nI 2 = 1 by decide), uI_other (a := 2) (by omega), uI_other (a := 2) (by omega), uI_other (a := 2) (by omega), uI_other (a := 2) (by omega), (rm.2.2.2.2.1 k hk).2.1, e2]
      simp only [uI_at, and_self, if_true]
      rw [ht]
      exact ⟨_, _, _, rfl, rfl, P, C, ((((hB.trc _).trc _).trc _).trc _).mono⟩
theorem op_back (j : Nat) (σ τ : HS) (a1 : Int32) (hI : Inv j σ τ) (hj : j < 512) : ∃ (r : Int32) (σ1 τ1 : HS), f8_back a1 σ = some (r, σ1) ∧ f9_back a1 τ = some (r, τ1) ∧ Inv (j + 1) σ1 τ1 := by
  obtain ⟨P, C, hB⟩ := hI
  obtain ⟨w, wc, rp, rc, rm, rs, rl, a8, a9, b1, b2, b3, b4⟩ := id hB
  obtain ⟨d, lg, en, h1, h2, h3, h4⟩ := rl
  unfold f8_back f9_back
  rw [h2, h3]
  rcases arg_c a1 (d + 1) (by omega) with hx | ⟨k, hk, rfl⟩
  · rw [in_n (by rw [w64, w64, nI_toInt (by omega)]; show _ < (0 : Int) ∨ _; omega), bd_s, if_pos rfl]
    refine ⟨_, _, _, ?_, rfl, P, C, hB.mono⟩
    by_cases c : a1 < 0
    · rw [if_pos c]
    · rw [if_neg c, if_neg]
      rw [Int32.lt_iff_toInt_lt] at c
      rw [Int32.le_iff_toInt_le, nI_toInt (by omega)]
      have : (0 : Int32).toInt = 0 := rfl
      omega
  · rw [in_y (by rw [w64, nI_toInt (by omega)]; show (0 : Int) ≤ _; omega) (by rw [w64, w64, nI_toInt (by omega), nI_toInt (by omega)]; omega), bd_s, if_neg n10, if_neg (nI_pos (by omega)), if_pos (nI_le (by omega) (by omega)), pk_sub (by omega), h3, pk_sub (by omega), uI_at, if_pos ⟨rfl, rfl⟩, uI_at, if_pos ⟨rfl, rfl⟩]
    refine ⟨_, _, _, rfl, rfl, P, C, InvB.mono ⟨w, wc, rp.congr (fun a h1 _ => ⟨uI_other (by omega) _ _, rfl⟩), rc.congr (uI_other (by omega) _ _) (uI_other (by omega) _ _), rm.congr ?_ (fun a h1 _ => uI_other (by omega) _ _), rs.congr ⟨uI_other (by omega) _ _, uI_other (by omega) _ _, uI_other (by omega) _ _⟩ ⟨uI_other (by omega) _ _, uI_other (by omega) _ _, uI_other (by omega) _ _⟩, ?_, a8.congr (by rw [uI_other (by omega)]) (uI_other (by omega) _ _) rfl, a9.congr (by rw [uI_other (by omega)]) (uI_other (by omega) _ _) (uI_other (by omega) _ _), b1.congr (by rw [uI_other (by omega)]) (uI_other (by omega) _ _), b2.congr (by rw [uI_other (by omega)]) (uI_other (by omega) _ _), ?_, ?_⟩⟩
    · simp only [uI_at]; exact ⟨rfl, rfl, rfl, rfl⟩
    · refine ⟨d - k, lg, en, by omega, by rw [uI_at, if_pos ⟨rfl, rfl⟩], by rw [uI_at, if_pos ⟨rfl, rfl⟩], fun i hi => ?_⟩
      rw [uI_other (by omega), uI_other (by omega), uI_other (by omega), uI_other (by omega)]
      exact h4 i (by omega)
    · rw [uI_other (by omega), uI_at, if_neg (by omega)]; exact b3
    · rw [uI_other (by omega), uI_at, if_neg (by omega)]; exact b4
