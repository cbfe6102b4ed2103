/-! all speakers, the jar, the council -/
theorem spk_j {k i n : Nat} {v : Nat → Int32} (hk : k < 4) (hi : i + n ≤ 100) : ∀ r c F1 F2, c + r = 5 → r + 3 ≤ F1 → r + 3 ≤ F2 → ∀ (σ τ : HS) (p : Nat), Cs σ k i n v p → Ms τ k i n v p → σ.1 12 0 = nI c → τ.1 0 14 = nI c → (∀ k2, k2 < c → ∃ m, 1 ≤ m ∧ SDe σ τ k2 m) → (∃ (c' : Nat) (σ' τ' : HS), wloop (fun k34 p => f6_firstFault_34_b k34 p.1 p.2) F1 (nI c, σ) = some (-1, σ') ∧ wloop (fun k92 p => f9_readsCouncil_92_b k92 (nI (100 * k + i)) (nI n) p.1 p.2) F2 (1, τ) = some (1, τ') ∧ 2 ≤ c' ∧ c' ≤ 5 ∧ True ∧ σ'.1 12 0 = nI c' ∧ τ'.1 0 14 = nI c' ∧ FrR σ σ' ∧ FrQ τ τ' ∧ σ'.1 12 1 = σ.1 12 1 ∧ σ'.1 12 2 = σ.1 12 2 ∧ τ'.1 0 12 = τ.1 0 12 ∧ τ'.1 0 13 = τ.1 0 13 ∧ ∀ k2, k2 < c' → ∃ m, 1 ≤ m ∧ SDe σ' τ' k2 m) ∨ (∃ (f : Nat) (σ' τ' : HS), wloop (fun k34 p => f6_firstFault_34_b k34 p.1 p.2) F1 (nI c, σ) = some (nI f, σ') ∧ wloop (fun k92 p => f9_readsCouncil_92_b k92 (nI (100 * k + i)) (nI n) p.1 p.2) F2 (1, τ) = some (0, τ') ∧ FrR σ σ' ∧ FrQ τ τ' ∧ τ'.1 0 11 = nI f ∧ f ≤ 200) := by
  intro r
  induction r with
  | zero =>
    intro c F1 F2 hc hF1 hF2 σ τ p cs ms h12 h14 hs
    have c5 : c = 5 := by omega
    subst c5
    obtain ⟨F1, rfl⟩ : ∃ F, F1 = F + 1 := ⟨F1 - 1, by omega⟩
    obtain ⟨F2, rfl⟩ : ∃ F, F2 = F + 1 + 1 := ⟨F2 - 2, by omega⟩
    have hp := cs.2.2.2.2.2.1
    have ca : wloop (fun k34 p => f6_firstFault_34_b k34 p.1 p.2) (F1 + 1) (nI 5, σ) = if nI n ≤ nI p then some (-1, σ) else some (nI p, σ) := by
      show f6_firstFault_34_b _ (nI 5) σ = _
      unfold f6_firstFault_34_b
      rw [if_pos (show (5 : Int32) ≤ nI 5 by decide), cs.2.2.1, cs.2.2.2.1]
    have cb : wloop (fun k92 p => f9_readsCouncil_92_b k92 (nI (100 * k + i)) (nI n) p.1 p.2) (F2 + 1 + 1) (1, τ) = if nI n ≤ nI p then some (1, τ) else some (0, τ) := by
      show f9_readsCouncil_92_b (wloop _ (F2 + 1)) _ _ 1 τ = _
      unfold f9_readsCouncil_92_b f9_readsCouncil_112 f9_readsSpeaker
      rw [if_neg n10, h14, if_neg (show ¬ nI 5 < (2 : Int32) by decide), ms.1, if_pos (Or.inr rfl), if_pos (show nI 5 = (5 : Int32) from rfl), bd_s]
      by_cases c1 : nI n ≤ nI p
      · rw [if_pos c1, if_pos c1]
      · rw [if_neg c1, if_neg c1]
        show f9_readsCouncil_92_b _ _ _ 0 τ = _
        unfold f9_readsCouncil_92_b
        rw [if_pos rfl, if_pos (Or.inl rfl)]
    rw [ca, cb]
    by_cases c1 : n ≤ p
    · rw [if_pos (nI_le c1 (by omega)), if_pos (nI_le c1 (by omega))]
      exact Or.inl ⟨5, σ, τ, rfl, rfl, by omega, by omega, trivial, h12, h14, ⟨fun _ _ _ => rfl, rfl⟩, ⟨fun _ _ => rfl, fun _ _ => rfl⟩, rfl, rfl, rfl, rfl, hs⟩
    · rw [if_neg (nI_ge (by omega) (by omega)), if_neg (nI_ge (by omega) (by omega))]
      exact Or.inr ⟨p, σ, τ, rfl, rfl, ⟨fun _ _ _ => rfl, rfl⟩, ⟨fun _ _ => rfl, fun _ _ => rfl⟩, ms.1, by omega⟩
  | succ r ih =>
    intro c F1 F2 hc hF1 hF2 σ τ p cs ms h12 h14 hs
    obtain ⟨F1, rfl⟩ : ∃ F, F1 = F + 1 + 1 := ⟨F1 - 2, by omega⟩
    obtain ⟨F2, rfl⟩ : ∃ F, F2 = F + 1 + 1 := ⟨F2 - 2, by omega⟩
    have hp := cs.2.2.2.2.2.1
    have ca : wloop (fun k34 p => f6_firstFault_34_b k34 p.1 p.2) (F1 + 1 + 1) (nI c, σ) = if c < 2 ∨ p < n then f6_firstFault_57 (wloop (fun k34 p => f6_firstFault_34_b k34 p.1 p.2) (F1 + 1)) (nI c) σ else some (-1, σ) := by
      show f6_firstFault_34_b _ (nI c) σ = _
      unfold f6_firstFault_34_b
      rw [if_neg (show ¬ (5 : Int32) ≤ nI c from nI_ge (b := 5) (by omega) (by omega)), cs.2.2.1, cs.2.2.2.1]
      by_cases c2 : c < 2
      · rw [if_pos (show nI c < (2 : Int32) from nI_lt (b := 2) c2 (by omega)), if_pos (Or.inl c2)]
      · rw [if_neg (show ¬ nI c < (2 : Int32) from nI_nlt (b := 2) (by omega) (by omega))]
        by_cases c1 : p < n
        · rw [if_pos (nI_lt c1 (by omega)), if_pos (Or.inr c1)]
        · rw [if_neg (nI_nlt (by omega) (by omega)), if_neg (by omega)]
    have cb : wloop (fun k92 p => f9_readsCouncil_92_b k92 (nI (100 * k + i)) (nI n) p.1 p.2) (F2 + 1 + 1) (1, τ) = if c < 2 ∨ p < n then f9_readsCouncil_112 (wloop (fun k92 p => f9_readsCouncil_92_b k92 (nI (100 * k + i)) (nI n) p.1 p.2) (F2 + 1)) (nI (100 * k + i)) (nI n) τ else some (1, τ) := by
      show f9_readsCouncil_92_b (wloop _ (F2 + 1)) _ _ 1 τ = _
      unfold f9_readsCouncil_92_b
      rw [if_neg n10, h14, ms.1, if_pos (Or.inr rfl)]
      by_cases c2 : c < 2
      · rw [if_pos (show nI c < (2 : Int32) from nI_lt (b := 2) c2 (by omega)), if_pos (Or.inl c2)]
      · rw [if_neg (show ¬ nI c < (2 : Int32) from nI_nlt (b := 2) (by omega) (by omega))]
        by_cases c1 : p < n
        · rw [if_neg (nI_ge c1 (by omega)), if_pos (Or.inr c1)]
        · rw [if_pos (nI_le (by omega) (by omega)), if_neg (by omega)]
    rw [ca, cb]
    have zero : ∀ τ2 : HS, wloop (fun k92 p => f9_readsCouncil_92_b k92 (nI (100 * k + i)) (nI n) p.1 p.2) (F2 + 1) (0, τ2) = some (0, τ2) := by
      intro τ2
      show f9_readsCouncil_92_b _ _ _ 0 τ2 = _
      unfold f9_readsCouncil_92_b
      rw [if_pos rfl, if_pos (Or.inl rfl)]
    by_cases cg : c < 2 ∨ p < n
    · rw [if_pos cg, if_pos cg]
      -- how the class goes on
      have go1 : ∀ σ2, (bd (f6_readSign 59 σ) fun r1 => if r1.1 = 0 then some ((0 : Int32), r1.2) else f6_readSpeaker r1.2) = some (1, σ2) → f6_firstFault_57 (wloop (fun k34 p => f6_firstFault_34_b k34 p.1 p.2) (F1 + 1)) (nI c) σ = wloop (fun k34 p => f6_firstFault_34_b k34 p.1 p.2) (F1 + 1) (nI (c + 1), σ2) := by
        intro σ2 h
        unfold f6_firstFault_57 f6_firstFault_73
        cases e : f6_readSign 59 σ with
        | none => rw [e] at h; cases h
        | some r1 =>
          rw [e, bd_s] at h
          rw [bd_s]
          by_cases c0 : r1.1 = 0
          · rw [if_pos c0] at h
            exact absurd (congrArg Prod.fst (Option.some.inj h)) (show ¬ (0 : Int32) = 1 by decide)
          · rw [if_neg c0] at h ⊢
            rw [h, bd_s, if_neg n10, nI_1]
      have go0 : ∀ σ2, (bd (f6_readSign 59 σ) fun r1 => if r1.1 = 0 then some ((0 : Int32), r1.2) else f6_readSpeaker r1.2) = some (0, σ2) → f6_firstFault_57 (wloop (fun k34 p => f6_firstFault_34_b k34 p.1 p.2) (F1 + 1)) (nI c) σ = some (σ2.1 19 5, σ2) := by
        intro σ2 h
        unfold f6_firstFault_57 f6_firstFault_73
        cases e : f6_readSign 59 σ with
        | none => rw [e] at h; cases h
        | some r1 =>
          rw [e, bd_s] at h
          rw [bd_s]
          by_cases c0 : r1.1 = 0
          · rw [if_pos c0] at h ⊢
            have : r1.2 = σ2 := congrArg Prod.snd (Option.some.inj h)
            rw [this]
          · rw [if_neg c0] at h ⊢
            rw [h, bd_s, if_pos rfl]
      unfold f9_readsCouncil_112
      rcases speaker_j cs ms hk hi (show c < 5 by omega) h12 h14 with ⟨p2, m2, σ2, τ2, e1, e2, e3, e4, e5, e6, e7, e8, e9⟩ | ⟨f, σ2, τ2, e1, e2, e3, e4, e5⟩ | ⟨p2, σ2, τ2, e1, e2, e3, e4, e5, e6, e7, e8⟩
      · rw [go1 σ2 e1, e2, bd_s]
        have hs2 : ∀ k2, k2 < c + 1 → ∃ m, 1 ≤ m ∧ SDe σ2 τ2 k2 m := fun k2 hk2 => by
          by_cases ce : k2 = c
          · rw [ce]; exact ⟨m2, e8, e9⟩
          · obtain ⟨m, q1, q2⟩ := hs k2 (by omega)
            exact ⟨m, q1, e3.2.2.2.2.2.2 k2 m (by omega) q2⟩
        rcases ih (c + 1) (F1 + 1) (F2 + 1) (by omega) (by omega) (by omega) σ2 τ2 p2 e4 e5 e6 e7 hs2 with ⟨c', σ3, τ3, g1, g2, g3, g4, g5, g6, g7, g8, g9, l1, l2, l3, l4, l5⟩ | ⟨f, σ3, τ3, g1, g2, g3, g4, g5⟩
        · exact Or.inl ⟨c', σ3, τ3, g1, g2, g3, g4, g5, g6, g7, e3.1.tr g8, e3.2.1.tr g9, l1.trans e3.2.2.1, l2.trans e3.2.2.2.1, l3.trans e3.2.2.2.2.1, l4.trans e3.2.2.2.2.2.1, l5⟩
        · exact Or.inr ⟨f, σ3, τ3, g1, g2, e3.1.tr g3, e3.2.1.tr g4, g5⟩
      · rw [go0 σ2 e1, e2, bd_s, zero τ2]
        exact Or.inr ⟨f, σ2, τ2, by rw [e5.1], rfl, e3, e4, e5.2⟩
      · rw [go1 σ2 e1, e2, bd_s, zero τ2]
        have hp2 := e5.2.2.2.2.2.1
        by_cases c5 : 5 ≤ c + 1
        · refine Or.inr ⟨p2, σ2, τ2, ?_, rfl, e3, e4, e8, by omega⟩
          show f6_firstFault_34_b _ (nI (c + 1)) σ2 = _
          unfold f6_firstFault_34_b
          rw [e5.2.2.1, e5.2.2.2.1, if_pos (show (5 : Int32) ≤ nI (c + 1) from nI_le c5 (by omega)), if_neg (nI_ge e6 (by omega))]
        · refine Or.inr ⟨p2, uI σ2 19 5 (nI p2), τ2, ?_, rfl, e3.tr (fr19 _ _ _).r, e4, e8, by omega⟩
          show f6_firstFault_34_b _ (nI (c + 1)) σ2 = _
          unfold f6_firstFault_34_b f6_firstFault_57 f6_firstFault_73
          rw [e5.2.2.1, e5.2.2.2.1]
          have rs59 : f6_readSign 59 σ2 = some (0, uI σ2 19 5 (nI p2)) := by
            unfold f6_readSign
            rcases next_c e5 hk hi 59 with ⟨q1, q2, q3⟩ | ⟨q1, q3⟩
            · rw [e7] at q2; exact absurd q2 (by decide)
            · rw [q3, bd_s, if_pos rfl]
              dsimp only
              rw [e5.2.2.2.1]
          have vv : (uI σ2 19 5 (nI p2)).1 19 5 = nI p2 := by simp [uI_at]
          rw [rs59, bd_s, if_pos rfl, if_neg (show ¬ (5 : Int32) ≤ nI (c + 1) from nI_ge (b := 5) (by omega) (by omega)), if_pos (nI_lt e6 (by omega))]
          by_cases c2 : nI (c + 1) < (2 : Int32)
          · rw [if_pos c2]
            show some ((uI σ2 19 5 (nI p2)).1 19 5, uI σ2 19 5 (nI p2)) = _
            rw [vv]
          · rw [if_neg c2]
            show some ((uI σ2 19 5 (nI p2)).1 19 5, uI σ2 19 5 (nI p2)) = _
            rw [vv]
    · rw [if_neg cg, if_neg cg]
      exact Or.inl ⟨c, σ, τ, rfl, rfl, by omega, by omega, trivial, h12, h14, ⟨fun _ _ _ => rfl, rfl⟩, ⟨fun _ _ => rfl, fun _ _ => rfl⟩, rfl, rfl, rfl, rfl, hs⟩
/-- reading it all -/
theorem read_j {σ τ : HS} {k i n : Nat} {v : Nat → Int32} (hk : k < 4) (hi : i + n ≤ 100) (hv : ∀ q, q < n → σ.1 4 (100 * k + (i + q)) = v q) (hv2 : ∀ q, q < n → τ.1 23 (100 * k + i + q) = v q) : (∃ (c J l : Nat) (σ' τ' : HS), f6_firstFault (nI (100 * k + i)) (nI n) σ = some (-1, σ') ∧ f9_readsCouncil (nI (100 * k + i)) (nI n) τ = some (1, τ') ∧ 2 ≤ c ∧ c ≤ 5 ∧ 1 ≤ J ∧ J ≤ 99 ∧ l ≤ 9 ∧ σ'.1 12 0 = nI c ∧ τ'.1 0 14 = nI c ∧ FrR σ σ' ∧ FrQ τ τ' ∧ σ'.1 12 1 = nI J ∧ σ'.1 12 2 = nI l ∧ τ'.1 0 12 = nI J ∧ τ'.1 0 13 = nI l ∧ ∀ k2, k2 < c → ∃ m, 1 ≤ m ∧ SDe σ' τ' k2 m) ∨ (∃ (f : Nat) (σ' τ' : HS), f6_firstFault (nI (100 * k + i)) (nI n) σ = some (nI f, σ') ∧ f9_readsCouncil (nI (100 * k + i)) (nI n) τ = some (0, τ') ∧ FrR σ σ' ∧ FrQ τ τ' ∧ f ≤ 200 ∧ τ'.1 0 11 = nI f) := by
  unfold f6_firstFault f9_readsCouncil
  generalize hσ0 : uI (uI (uI (uI σ 19 2 (nI (100 * k + i))) 19 3 (nI n)) 19 4 0) 19 5 (-1) = σ0
  generalize hτ0 : uI (uI τ 0 11 0) 0 14 0 = τ0
  have f0 : Fr19 σ σ0 := by
    subst hσ0
    exact ⟨fun b hb => by rw [uI_other hb, uI_other hb, uI_other hb, uI_other hb], rfl⟩
  have q0 : FrQ τ τ0 := by
    subst hτ0
    exact ⟨fun b hb => by rw [uI_other (by omega), uI_other (by omega)], fun y hy => by rw [uI_at, if_neg (by omega), uI_at, if_neg (by omega)]⟩
  have cs0 : Cs σ0 k i n v 0 := by
    subst hσ0
    exact ⟨by simp [uI_at], trivial, by simp [uI_at], by simp [uI_at]; rfl, by simp [uI_at], by omega, fun q hq => by rw [uI_other (by omega), uI_other (by omega), uI_other (by omega), uI_other (by omega)]; exact hv q hq⟩
  have ms0 : Ms τ0 k i n v 0 := by
    subst hτ0
    exact ⟨by simp [uI_at]; rfl, fun q hq => by rw [uI_other (by omega), uI_other (by omega)]; exact hv2 q hq⟩
  have t14 : τ0.1 0 14 = nI 0 := by subst hτ0; simp [uI_at]; rfl
  unfold f6_readJar
  have e99 : f9_two (nI (100 * k + i)) (nI n) 99 = f9_two (nI (100 * k + i)) (nI n) (nI 99) := rfl
  -- the model stops, if a mark is wanting
  rcases sign_j cs0 ms0 hk hi 106 with ⟨-, -, a3, a4, cs1, ms1⟩ | ⟨-, a3, a4, a5⟩
  · have r1 := fr19 σ0 4 (nI (0 + 1))
    have s1 := fr11 τ0 (nI (0 + 1))
    generalize uI σ0 19 4 (nI (0 + 1)) = σ1 at *
    generalize uI τ0 0 11 (nI (0 + 1)) = τ1 at *
    rw [a3, bd_s, if_neg n10, a4, bd_s, if_neg n10, e99]
    rcases number_j (M := 99) cs1 ms1 hk hi (by omega) (by omega) with ⟨J, σ2, τ2, J1, J2, b1, b2, r2, s2, cs2, ms2⟩ | ⟨f, σ2, τ2, b1, b2, r2, s2, b5⟩
    · have b1 : f6_readNumber 99 σ1 = some (nI J, σ2) := b1
      unfold f9_readsCouncil_35
      rw [b1, bd_s, if_neg (nI_pos (by omega)), b2, bd_s]
      dsimp only
      rw [show (uI τ2 0 12 (nI J)).1 0 12 = nI J by rw [uI_at, if_pos ⟨rfl, rfl⟩], if_neg (nI_pos (by omega))]
      have q12 : FrQ τ2 (uI τ2 0 12 (nI J)) := ⟨fun b hb => uI_other (by omega) _ _, fun y hy => by rw [uI_at, if_neg (by omega)]⟩
      have ms2' : Ms (uI τ2 0 12 (nI J)) k i n v (0 + 1 + 2) := ms2.fr (by rw [uI_at, if_neg (by omega)]) (uI_other (by omega) _ _)
      have t12 : (uI τ2 0 12 (nI J)).1 0 12 = nI J := by rw [uI_at, if_pos ⟨rfl, rfl⟩]
      have t142 : (uI τ2 0 12 (nI J)).1 0 14 = nI 0 := by rw [uI_at, if_neg (by omega), s2.2 14 (by omega), s1.2 14 (by omega)]; exact t14
      have qA := ((q0.tr s1.q).tr s2.q).tr q12
      have rA := (f0.tr r1).tr r2
      generalize uI τ2 0 12 (nI J) = τ3 at *
      rcases sign_j cs2 ms2' hk hi 59 with ⟨-, -, c3, c4, cs3, ms3⟩ | ⟨-, c3, c4, c5⟩
      · have r3 := fr19 σ2 4 (nI (0 + 1 + 2 + 1))
        have s3 := fr11 τ3 (nI (0 + 1 + 2 + 1))
        generalize uI σ2 19 4 (nI (0 + 1 + 2 + 1)) = σ3 at *
        generalize uI τ3 0 11 (nI (0 + 1 + 2 + 1)) = τ4 at *
        rw [c3, bd_s, if_neg n10, c4, bd_s, if_neg n10]
        rcases sign_j cs3 ms3 hk hi 108 with ⟨-, -, d3, d4, cs4, ms4⟩ | ⟨-, d3, d4, d5⟩
        · have r4 := fr19 σ3 4 (nI (0 + 1 + 2 + 1 + 1))
          have s4 := fr11 τ4 (nI (0 + 1 + 2 + 1 + 1))
          generalize uI σ3 19 4 (nI (0 + 1 + 2 + 1 + 1)) = σ4 at *
          generalize uI τ4 0 11 (nI (0 + 1 + 2 + 1 + 1)) = τ5 at *
          rw [d3, bd_s, if_neg n10, d4, bd_s, if_neg n10]
          unfold f4_begin
          rcases digit_j cs4 ms4 hk hi with ⟨l, σ5, τ6, l9, g1, g2, r5, s5, cs5, ms5⟩ | ⟨σ5, τ6, g1, g2, r5, s5, g5⟩
          · rw [g1, bd_s, bd_s, if_neg (nI_pos (by omega)), bd_s, if_neg n10, g2, bd_s]
            dsimp only
            rw [show (uI τ6 0 13 (nI l)).1 0 13 = nI l by rw [uI_at, if_pos ⟨rfl, rfl⟩], if_neg (nI_pos (by omega))]
            unfold f9_readsCouncil_91 f9_readsCouncil_92 f6_firstFault_34
            generalize hσ6 : uI (uI (uI σ5 12 0 0) 12 1 (nI J)) 12 2 (nI l) = σ6
            generalize hτ7 : uI τ6 0 13 (nI l) = τ7
            have rB : FrR σ5 σ6 := by subst hσ6; exact ⟨fun b hb h9 => by rw [uI_other (by omega), uI_other (by omega), uI_other (by omega)], rfl⟩
            have qB : FrQ τ6 τ7 := by subst hτ7; exact ⟨fun b hb => uI_other (by omega) _ _, fun y hy => by rw [uI_at, if_neg (by omega)]⟩
            have cs6 : Cs σ6 k i n v (0 + 1 + 2 + 1 + 1 + 1) := by
              subst hσ6
              exact cs5.fr (by rw [uI_other (by omega), uI_other (by omega), uI_other (by omega)]) (by rw [uI_other (by omega), uI_other (by omega), uI_other (by omega)])
            have ms6 : Ms τ7 k i n v (0 + 1 + 2 + 1 + 1 + 1) := by
              subst hτ7
              exact ms5.fr (by rw [uI_at, if_neg (by omega)]) (uI_other (by omega) _ _)
            have fN := fuelN_ge
            have z1 : σ6.1 12 0 = nI 0 := by subst hσ6; simp [uI_at]; rfl
            have z2 : τ7.1 0 14 = nI 0 := by subst hτ7; rw [uI_at, if_neg (by omega), s5.2 14 (by omega), s4.2 14 (by omega), s3.2 14 (by omega)]; exact t142
            have z3 : σ6.1 12 1 = nI J := by subst hσ6; simp [uI_at]
            have z4 : σ6.1 12 2 = nI l := by subst hσ6; simp [uI_at]
            have z5 : τ7.1 0 12 = nI J := by subst hτ7; rw [uI_at, if_neg (by omega), s5.2 12 (by omega), s4.2 12 (by omega), s3.2 12 (by omega)]; exact t12
            have z6 : τ7.1 0 13 = nI l := by subst hτ7; rw [uI_at, if_pos ⟨rfl, rfl⟩]
            have rC := (((rA.tr r3).tr r4).tr r5).r.tr rB
            have qC := (((qA.tr s3.q).tr s4.q).tr s5.q).tr qB
            rcases spk_j hk hi 5 0 fuelN fuelN (by omega) (by omega) (by omega) σ6 τ7 _ cs6 ms6 z1 z2 (fun k2 h => absurd h (Nat.not_lt_zero k2)) with ⟨c', σ7, τ8, y1, y2, y3, y4, y5, y6, y7, y8, y9, w1, w2, w3, w4, w5⟩ | ⟨f, σ7, τ8, y1, y2, y3, y4, y5⟩
            · left
              have y1 : wloop (fun k34 p => f6_firstFault_34_b k34 p.1 p.2) fuelN (0, σ6) = some (-1, σ7) := y1
              rw [y1, y2]
              exact ⟨c', J, l, σ7, τ8, rfl, rfl, y3, y4, J1, J2, by omega, y6, y7, rC.tr y8, qC.tr y9, w1.trans z3, w2.trans z4, w3.trans z5, w4.trans z6, w5⟩
            · right
              have y1 : wloop (fun k34 p => f6_firstFault_34_b k34 p.1 p.2) fuelN (0, σ6) = some (nI f, σ7) := y1
              rw [y1, y2]
              exact ⟨f, σ7, τ8, rfl, rfl, rC.tr y3, qC.tr y4, y5.2, y5.1⟩
          · right
            rw [g1, bd_s, bd_s, if_pos m1lt0, bd_s, if_pos rfl, g2, bd_s]
            dsimp only
            rw [show (uI τ6 0 13 (-9)).1 0 13 = -9 by rw [uI_at, if_pos ⟨rfl, rfl⟩], if_pos m9lt]
            unfold f9_readsCouncil_91 f9_readsCouncil_92
            obtain ⟨N, hN⟩ : ∃ N, fuelN = N + 1 := ⟨fuelN - 1, by have := fuelN_ge; omega⟩
            have zero : wloop (fun k92 p => f9_readsCouncil_92_b k92 (nI (100 * k + i)) (nI n) p.1 p.2) fuelN (0, uI τ6 0 13 (-9)) = some (0, uI τ6 0 13 (-9)) := by
              rw [hN]
              show f9_readsCouncil_92_b _ _ _ 0 _ = _
              unfold f9_readsCouncil_92_b
              rw [if_pos rfl, if_pos (Or.inl rfl)]
            rw [zero, uI_other (by omega), uI_other (by omega), uI_other (by omega), g5.1]
            refine ⟨_, _, _, rfl, rfl, (((rA.tr r3).tr r4).tr r5).r.tr ⟨fun b hb h9 => by rw [uI_other (by omega), uI_other (by omega), uI_other (by omega)], rfl⟩, (((qA.tr s3.q).tr s4.q).tr s5.q).tr ⟨fun b hb => uI_other (by omega) _ _, fun y hy => by rw [uI_at, if_neg (by omega)]⟩, g5.2.2, ?_⟩
            rw [uI_at, if_neg (by omega)]; exact g5.2.1
        · right
          rw [d3, bd_s, if_pos rfl, bd_s, if_pos rfl, d4, bd_s, if_pos rfl]
          dsimp only
          rw [d5.1]
          exact ⟨_, _, _, rfl, rfl, ((rA.tr r3).tr (fr19 _ _ _)).r, (qA.tr s3.q).tr (fr11 _ _).q, d5.2.2, d5.2.1⟩
      · right
        rw [c3, bd_s, if_pos rfl, bd_s, if_pos rfl, c4, bd_s, if_pos rfl]
        dsimp only
        rw [c5.1]
        exact ⟨_, _, _, rfl, rfl, (rA.tr (fr19 _ _ _)).r, qA.tr (fr11 _ _).q, c5.2.2, c5.2.1⟩
    · right
      have b1 : f6_readNumber 99 σ1 = some (-1, σ2) := b1
      unfold f9_readsCouncil_35
      rw [b1, bd_s, if_pos m1lt0, bd_s, if_pos rfl, b2, bd_s]
      dsimp only
      rw [show (uI τ2 0 12 (-9)).1 0 12 = -9 by rw [uI_at, if_pos ⟨rfl, rfl⟩], if_pos m9lt, b5.1]
      exact ⟨_, _, _, rfl, rfl, ((f0.tr r1).tr r2).r, ((q0.tr s1.q).tr s2.q).tr ⟨fun b hb => uI_other (by omega) _ _, fun y hy => by rw [uI_at, if_neg (by omega)]⟩, b5.2.2, by rw [uI_at, if_neg (by omega)]; exact b5.2.1⟩
  · right
    unfold f9_readsCouncil_35
    rw [a3, bd_s, if_pos rfl, bd_s, if_pos rfl, a4, bd_s, if_pos rfl]
    dsimp only
    rw [show (uI (uI τ0 0 11 (nI 0)) 0 12 (-9)).1 0 12 = -9 by rw [uI_at, if_pos ⟨rfl, rfl⟩], if_pos m9lt, a5.1]
    exact ⟨_, _, _, rfl, rfl, (f0.tr (fr19 _ _ _)).r, (q0.tr (fr11 _ _).q).tr ⟨fun b hb => uI_other (by omega) _ _, fun y hy => by rw [uI_at, if_neg (by omega)]⟩, a5.2.2, by rw [uI_at, if_neg (by omega)]; exact a5.2.1⟩
