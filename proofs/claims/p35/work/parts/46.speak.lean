/-! speakers, in step -/
noncomputable def Xw (σ : HS) : Option (Int32 × HS) := bd (f6_readSign 119 σ) fun r1 => if r1.1 = 0 then some ((0 : Int32), r1.2) else bd (f6_readWord r1.2) fun r3 => if r3.1 = 0 then some (0, r3.2) else some (1, r3.2)
theorem cont1 {k39 : Int32 × HS → Option (Int32 × HS)} {x2 : Int32} {σ σ' : HS} (h : Xw σ = some (1, σ')) : f6_readSpeaker_59 k39 x2 σ = k39 (x2 + 1, σ') := by
  unfold f6_readSpeaker_59
  unfold Xw at h
  cases e : f6_readSign 119 σ with
  | none => rw [e] at h; cases h
  | some r1 =>
    rw [e, bd_s] at h
    rw [bd_s]
    by_cases c : r1.1 = 0
    · rw [if_pos c] at h
      exact absurd (congrArg Prod.fst (Option.some.inj h)) (show ¬ (0 : Int32) = 1 by decide)
    · rw [if_neg c] at h ⊢
      cases e2 : f6_readWord r1.2 with
      | none => rw [e2] at h; cases h
      | some r3 =>
        rw [e2, bd_s] at h
        rw [bd_s]
        by_cases c3 : r3.1 = 0
        · rw [if_pos c3] at h
          exact absurd (congrArg Prod.fst (Option.some.inj h)) (show ¬ (0 : Int32) = 1 by decide)
        · rw [if_neg c3] at h ⊢
          have : r3.2 = σ' := congrArg Prod.snd (Option.some.inj h)
          rw [this]
theorem cont0 {k39 : Int32 × HS → Option (Int32 × HS)} {x2 : Int32} {σ σ' : HS} (h : Xw σ = some (0, σ')) : f6_readSpeaker_59 k39 x2 σ = some (0, σ') := by
  unfold f6_readSpeaker_59
  unfold Xw at h
  cases e : f6_readSign 119 σ with
  | none => rw [e] at h; cases h
  | some r1 =>
    rw [e, bd_s] at h
    rw [bd_s]
    by_cases c : r1.1 = 0
    · rw [if_pos c] at h ⊢; exact h
    · rw [if_neg c] at h ⊢
      cases e2 : f6_readWord r1.2 with
      | none => rw [e2] at h; cases h
      | some r3 =>
        rw [e2, bd_s] at h
        rw [bd_s]
        by_cases c3 : r3.1 = 0
        · rw [if_pos c3] at h ⊢; exact h
        · rw [if_neg c3] at h
          exact absurd (congrArg Prod.fst (Option.some.inj h)) (show ¬ (1 : Int32) = 0 by decide)
/-- what stays while speaker c is read -/
def Keep (c : Nat) (σ τ σ' τ' : HS) : Prop := FrR σ σ' ∧ FrQ τ τ' ∧ σ'.1 12 1 = σ.1 12 1 ∧ σ'.1 12 2 = σ.1 12 2 ∧ τ'.1 0 12 = τ.1 0 12 ∧ τ'.1 0 13 = τ.1 0 13 ∧ ∀ k m, k < c → SDe σ τ k m → SDe σ' τ' k m
theorem Keep.tr {c : Nat} {a b a1 b1 a2 b2 : HS} (h : Keep c a b a1 b1) (h2 : Keep c a1 b1 a2 b2) : Keep c a b a2 b2 := ⟨h.1.tr h2.1, h.2.1.tr h2.2.1, h2.2.2.1.trans h.2.2.1, h2.2.2.2.1.trans h.2.2.2.1, h2.2.2.2.2.1.trans h.2.2.2.2.1, h2.2.2.2.2.2.1.trans h.2.2.2.2.2.1, fun k m hk hs => h2.2.2.2.2.2.2 k m hk (h.2.2.2.2.2.2 k m hk hs)⟩
def SpOk (k i n : Nat) (v : Nat → Int32) (c : Nat) (σ τ : HS) (A B : Option (Int32 × HS)) : Prop := (∃ (p m : Nat) (σ' τ' : HS), A = some (1, σ') ∧ B = some (1, τ') ∧ Keep c σ τ σ' τ' ∧ Cs σ' k i n v p ∧ Ms τ' k i n v p ∧ σ'.1 12 0 = nI (c + 1) ∧ τ'.1 0 14 = nI (c + 1) ∧ 1 ≤ m ∧ SDe σ' τ' c m) ∨ (∃ (f : Nat) (σ' τ' : HS), A = some (0, σ') ∧ B = some (0, τ') ∧ FrR σ σ' ∧ FrQ τ τ' ∧ Fail σ' τ' f) ∨ (∃ (p : Nat) (σ' τ' : HS), A = some (1, σ') ∧ B = some (0, τ') ∧ FrR σ σ' ∧ FrQ τ τ' ∧ Cs σ' k i n v p ∧ p < n ∧ v p = 119 ∧ τ'.1 0 11 = nI p)
theorem end0 {k i n c : Nat} {τ : HS} (F : Nat) (h14 : τ.1 0 14 = nI c) : wloop (fun k108 p => f9_readsSpeaker_108_b k108 (nI (100 * k + i)) (nI n) p.1 p.2) (F + 1) (0, τ) = some (0, uI τ 0 14 (nI c)) := by
  show f9_readsSpeaker_108_b _ _ _ 0 τ = _
  unfold f9_readsSpeaker_108_b f9_readsSpeaker_135 f9_readsSpeaker_150
  rw [if_pos rfl, if_pos rfl, h14, if_pos (Or.inl rfl)]
  have : nI c + 0 = nI c := nI_add c 0
  rw [this]
theorem code_c {τ : HS} {k i n p : Nat} {v : Nat → Int32} (ms : Ms τ k i n v p) (hk : k < 4) (hi : i + n ≤ 100) (hp : p ≤ n) : f9_codeAt (nI (100 * k + i)) (nI n) τ = some (if p < n then v p else -9, τ) := by
  unfold f9_codeAt
  rw [ms.1]
  by_cases c1 : n ≤ p
  · rw [if_pos (nI_le c1 (by omega)), if_neg (by omega)]
  · rw [if_neg (nI_ge (by omega) (by omega)), nI_add, ix_in (by omega) (by omega), nI_clamp (by omega), ms.2 p (by omega), if_pos (by omega)]
theorem frq14 (τ : HS) (x : Int32) : FrQ τ (uI τ 0 14 x) := ⟨fun b hb => uI_other (by omega) _ _, fun y hy => by rw [uI_at, if_neg (by omega)]⟩
theorem words_j {k i n c : Nat} {v : Nat → Int32} (hk : k < 4) (hi : i + n ≤ 100) (hc : c < 5) : ∀ r m F1 F2, m + r = 3 → 1 ≤ m → r + 3 ≤ F1 → r + 3 ≤ F2 → ∀ (σ τ : HS) (p : Nat), Cs σ k i n v p → Ms τ k i n v p → σ.1 12 0 = nI (c + 1) → τ.1 0 14 = nI c → SDe σ τ c m → SpOk k i n v c σ τ (wloop (fun k39 p => f6_readSpeaker_39_b k39 p.1 p.2) F1 (nI m, σ)) (wloop (fun k108 p => f9_readsSpeaker_108_b k108 (nI (100 * k + i)) (nI n) p.1 p.2) F2 (1, τ)) := by
  intro r
  induction r with
  | zero =>
    intro m F1 F2 hm h1 hF1 hF2 σ τ p cs ms h12 h14 sd
    have m3 : m = 3 := by omega
    subst m3
    obtain ⟨F1, rfl⟩ : ∃ F, F1 = F + 1 := ⟨F1 - 1, by omega⟩
    obtain ⟨F2, rfl⟩ : ∃ F, F2 = F + 1 + 1 := ⟨F2 - 2, by omega⟩
    have hp := cs.2.2.2.2.2.1
    have ca : wloop (fun k39 p => f6_readSpeaker_39_b k39 p.1 p.2) (F1 + 1) (nI 3, σ) = some (1, σ) := by
      show f6_readSpeaker_39_b _ (nI 3) σ = _
      unfold f6_readSpeaker_39_b
      rw [if_pos (show (3 : Int32) ≤ nI 3 by decide)]
    rw [ca]
    by_cases cw : p < n ∧ v p = 119
    · refine Or.inr (Or.inr ⟨p, σ, uI τ 0 14 (nI c), rfl, ?_, ⟨fun _ _ _ => rfl, rfl⟩, frq14 _ _, cs, cw.1, cw.2, by rw [uI_at, if_neg (by omega)]; exact ms.1⟩)
      show f9_readsSpeaker_108_b (wloop _ (F2 + 1)) _ _ 1 τ = _
      unfold f9_readsSpeaker_108_b
      rw [if_neg n10, code_c ms hk hi hp, bd_s, if_pos cw.1, if_pos cw.2]
      unfold f9_readsWord
      dsimp only
      rw [h14, ix_in (by omega) (by omega), nI_clamp (by omega), sd.2.2.2.1, if_pos (show nI 3 = (3 : Int32) from rfl), bd_s]
      exact end0 F2 h14
    · refine Or.inl ⟨p, 3, σ, uI τ 0 14 (nI (c + 1)), rfl, ?_, ⟨⟨fun _ _ _ => rfl, rfl⟩, frq14 _ _, rfl, rfl, by rw [uI_at, if_neg (by omega)], by rw [uI_at, if_neg (by omega)], fun k2 m2 _ hs => ?_⟩, cs, ms.fr (by rw [uI_at, if_neg (by omega)]) (uI_other (by omega) _ _), h12, by rw [uI_at, if_pos ⟨rfl, rfl⟩], by omega, ?_⟩
      · show f9_readsSpeaker_108_b (wloop _ (F2 + 1)) _ _ 1 τ = _
        unfold f9_readsSpeaker_108_b f9_readsSpeaker_135 f9_readsSpeaker_150
        have ne : ¬ (if p < n then v p else (-9 : Int32)) = 119 := by
          split
          · next z => exact fun y => cw ⟨z, y⟩
          · decide
        rw [if_neg n10, code_c ms hk hi hp, bd_s, if_neg ne, if_neg n10, if_pos (Or.inr rfl)]
        dsimp only
        rw [h14, nI_1]
      · unfold SDe WDe at hs ⊢
        rw [uI_other (by omega), uI_other (by omega), uI_other (by omega), uI_other (by omega), uI_other (by omega)]; exact hs
      · unfold SDe WDe at sd ⊢
        rw [uI_other (by omega), uI_other (by omega), uI_other (by omega), uI_other (by omega), uI_other (by omega)]; exact sd
  | succ r ih =>
    intro m F1 F2 hm h1 hF1 hF2 σ τ p cs ms h12 h14 sd
    obtain ⟨F1, rfl⟩ : ∃ F, F1 = F + 1 := ⟨F1 - 1, by omega⟩
    obtain ⟨F2, rfl⟩ : ∃ F, F2 = F + 1 + 1 := ⟨F2 - 2, by omega⟩
    have hp := cs.2.2.2.2.2.1
    have ca : wloop (fun k39 p => f6_readSpeaker_39_b k39 p.1 p.2) (F1 + 1) (nI m, σ) = bd (f6_isNext 119 σ) fun r3 => if r3.1 = 0 then some (1, r3.2) else f6_readSpeaker_59 (wloop (fun k39 p => f6_readSpeaker_39_b k39 p.1 p.2) F1) (nI m) r3.2 := by
      show f6_readSpeaker_39_b _ (nI m) σ = _
      unfold f6_readSpeaker_39_b
      rw [if_neg (show ¬ (3 : Int32) ≤ nI m from nI_ge (b := 3) (by omega) (by omega)), if_neg (nI_nle (by omega) (by omega))]
    have cb : wloop (fun k108 p => f9_readsSpeaker_108_b k108 (nI (100 * k + i)) (nI n) p.1 p.2) (F2 + 1 + 1) (1, τ) = if (if p < n then v p else -9) = 119 then bd (f9_readsWord (nI (100 * k + i)) (nI n) τ) fun r4 => wloop (fun k108 p => f9_readsSpeaker_108_b k108 (nI (100 * k + i)) (nI n) p.1 p.2) (F2 + 1) (r4.1, r4.2) else some (1, uI τ 0 14 (nI (c + 1))) := by
      show f9_readsSpeaker_108_b (wloop _ (F2 + 1)) _ _ 1 τ = _
      unfold f9_readsSpeaker_108_b f9_readsSpeaker_135 f9_readsSpeaker_150
      rw [if_neg n10, code_c ms hk hi hp, bd_s, if_neg n10, if_pos (Or.inr rfl)]
      dsimp only
      rw [h14, nI_1]
    rw [ca, cb]
    rcases next_c cs hk hi 119 with ⟨a1, a2, a3⟩ | ⟨a1, a3⟩
    · rw [a3, bd_s, if_neg n10, if_pos a1, if_pos a2]
      rcases word_j cs ms hk hi hc h12 h14 sd (by omega) with ⟨p', σ', τ', b1, b2, b3, b4, b5, b6, b7, b8, b9, d1, d2, d3, d4, d5⟩ | ⟨f, σ', τ', b3, b4, b5, b6, b7⟩
      · rw [cont1 (show Xw σ = _ from b3), b4, bd_s, nI_1]
        have keep : Keep c σ τ σ' τ' := ⟨b5, b6, by rw [b9], by rw [b9], d1, d2, fun k2 m2 hk2 hs => d5 k2 m2 (by omega) hs⟩
        rcases ih (m + 1) F1 (F2 + 1) (by omega) (by omega) (by omega) (by omega) σ' τ' p' b7 b8 (by rw [b9]; exact h12) (by rw [d3]; exact h14) d4 with ⟨p2, m2, σ2, τ2, e1, e2, e3, e4, e5, e6, e7, e8, e9⟩ | ⟨f, σ2, τ2, e1, e2, e3, e4, e5⟩ | ⟨p2, σ2, τ2, e1, e2, e3, e4, e5, e6, e7, e8⟩
        · exact Or.inl ⟨p2, m2, σ2, τ2, e1, e2, keep.tr e3, e4, e5, e6, e7, e8, e9⟩
        · exact Or.inr (Or.inl ⟨f, σ2, τ2, e1, e2, b5.tr e3, b6.tr e4, e5⟩)
        · exact Or.inr (Or.inr ⟨p2, σ2, τ2, e1, e2, b5.tr e3, b6.tr e4, e5, e6, e7, e8⟩)
      · rw [cont0 (show Xw σ = _ from b3), b4, bd_s]
        have q14 : ∃ x, τ'.1 0 14 = x := ⟨_, rfl⟩
        refine Or.inr (Or.inl ⟨f, σ', uI τ' 0 14 (τ'.1 0 14 + 0), rfl, ?_, b5, b6.tr (frq14 _ _), b7.1, by rw [uI_at, if_neg (by omega)]; exact b7.2.1, b7.2.2⟩)
        show f9_readsSpeaker_108_b _ _ _ 0 τ' = _
        unfold f9_readsSpeaker_108_b f9_readsSpeaker_135 f9_readsSpeaker_150
        rw [if_pos rfl, if_pos rfl, if_pos (Or.inl rfl)]
    · have ne : ¬ (if p < n then v p else (-9 : Int32)) = 119 := by
        split
        · next z => exact fun y => a1 ⟨z, y⟩
        · decide
      rw [a3, bd_s, if_pos rfl, if_neg ne]
      refine Or.inl ⟨p, m, σ, uI τ 0 14 (nI (c + 1)), rfl, rfl, ⟨⟨fun _ _ _ => rfl, rfl⟩, frq14 _ _, rfl, rfl, by rw [uI_at, if_neg (by omega)], by rw [uI_at, if_neg (by omega)], fun k2 m2 _ hs => ?_⟩, cs, ms.fr (by rw [uI_at, if_neg (by omega)]) (uI_other (by omega) _ _), h12, by rw [uI_at, if_pos ⟨rfl, rfl⟩], h1, ?_⟩
      · unfold SDe WDe at hs ⊢
        rw [uI_other (by omega), uI_other (by omega), uI_other (by omega), uI_other (by omega), uI_other (by omega)]; exact hs
      · unfold SDe WDe at sd ⊢
        rw [uI_other (by omega), uI_other (by omega), uI_other (by omega), uI_other (by omega), uI_other (by omega)]; exact sd
/-- a speaker, behind its ; -/
theorem speaker_j {σ τ : HS} {k i n p c : Nat} {v : Nat → Int32} (h : Cs σ k i n v p) (ms : Ms τ k i n v p) (hk : k < 4) (hi : i + n ≤ 100) (hc : c < 5) (h12 : σ.1 12 0 = nI c) (h14 : τ.1 0 14 = nI c) : SpOk k i n v c σ τ (bd (f6_readSign 59 σ) fun r1 => if r1.1 = 0 then some ((0 : Int32), r1.2) else f6_readSpeaker r1.2) (f9_readsSpeaker (nI (100 * k + i)) (nI n) τ) := by
  have hp := h.2.2.2.2.2.1
  unfold f9_readsSpeaker
  rw [h14, if_neg (show ¬ nI c = (5 : Int32) from fun z => by have := (nIc (c := 5) (by omega) (by omega)).mp z; omega)]
  rcases sign_j h ms hk hi 59 with ⟨a1, a2, a3, a4, a5, a6⟩ | ⟨a1, a3, a4, a5⟩
  · have fA := fr19 σ 4 (nI (p + 1))
    have fB := fr11 τ (nI (p + 1))
    generalize uI σ 19 4 (nI (p + 1)) = σ1 at *
    generalize uI τ 0 11 (nI (p + 1)) = τ1 at *
    rw [a3, bd_s, if_neg n10, a4, bd_s, if_neg n10, code_c a6 hk hi (by omega), bd_s]
    dsimp only
    unfold f6_readSpeaker f6_kindOfSign
    have h14' : τ1.1 0 14 = nI c := by rw [fB.2 14 (by omega)]; exact h14
    -- both read a kind
    have main : ∀ kd : Nat, kd ≤ 2 → p + 1 < n → SpOk k i n v c σ τ (bd (f4_addSpeaker 12 (nI kd) (uI σ1 19 4 (nI (p + 1 + 1)))) fun r3 => f6_readSpeaker_39 (0, r3)) (f9_readsSpeaker_91 (nI (100 * k + i)) (nI n) (nI c) (nI kd) (nI c) (uI τ1 0 11 (nI (p + 1 + 1)))) := by
      intro kd hkd hpn
      unfold f4_addSpeaker f9_readsSpeaker_91
      have cs2 := a5.to (q := p + 1 + 1) (by omega)
      have ms2 : Ms (uI τ1 0 11 (nI (p + 1 + 1))) k i n v (p + 1 + 1) := a6.to
      rw [show (uI σ1 19 4 (nI (p + 1 + 1))).1 12 0 = nI c by rw [uI_other (by omega), fA.1 12 (by omega)]; exact h12, if_neg (show ¬ (5 : Int32) ≤ nI c from nI_ge (b := 5) (by omega) (by omega)), set_in (by omega) (by omega), bd_s]
      rw [show (uI (uI σ1 19 4 (nI (p + 1 + 1))) (12 + 1) c (nI kd)).1 12 0 = nI c by rw [uI_other (by omega), uI_other (by omega), fA.1 12 (by omega)]; exact h12, set_in (by omega) (by omega), bd_s]
      rw [show (uI (uI (uI σ1 19 4 (nI (p + 1 + 1))) (12 + 1) c (nI kd)) (12 + 2) c 0).1 12 0 = nI c by rw [uI_other (by omega), uI_other (by omega), uI_other (by omega), fA.1 12 (by omega)]; exact h12, nI_1, bd_s, ix_in (by omega) (by omega), ix_in (by omega) (by omega), nI_clamp (by omega)]
      generalize hσ2 : uI (uI (uI (uI σ1 19 4 (nI (p + 1 + 1))) (12 + 1) c (nI kd)) (12 + 2) c 0) 12 0 (nI (c + 1)) = σ2
      generalize hτ2 : uI (uI (uI τ1 0 11 (nI (p + 1 + 1))) 7 c (nI kd)) 8 c 0 = τ2
      have cs3 : Cs σ2 k i n v (p + 1 + 1) := by
        subst hσ2
        exact cs2.fr (by rw [uI_other (by omega), uI_other (by omega), uI_other (by omega)]) (by rw [uI_other (by omega), uI_other (by omega), uI_other (by omega)])
      have ms3 : Ms τ2 k i n v (p + 1 + 1) := by
        subst hτ2
        exact ms2.fr (by rw [uI_other (by omega), uI_other (by omega)]) (by rw [uI_other (by omega), uI_other (by omega)])
      have keep : Keep c σ τ σ2 τ2 := by
        subst hσ2 hτ2
        refine ⟨⟨fun b hb h9 => by rw [uI_other (by omega), uI_other (by omega), uI_other (by omega), uI_other (by omega), fA.1 b (by omega)], by rw [uI_2, uI_2, uI_2, uI_2, fA.2]⟩, ⟨fun b hb => by rw [uI_other (by omega), uI_other (by omega), uI_other (by omega), fB.1 b (by omega)], fun y hy => by rw [uI_other (by omega), uI_other (by omega), uI_at, if_neg (by omega), fB.2 y (by omega)]⟩, ?_, ?_, ?_, ?_, fun k2 m2 hk2 hs => ?_⟩
        · simp [uI_at, fA.1 12 (by omega)]
        · simp [uI_at, fA.1 12 (by omega)]
        · simp [uI_at, fB.2 12 (by omega)]
        · simp [uI_at, fB.2 13 (by omega)]
        · have ne : ¬ k2 = c := by omega
          obtain ⟨r1, r2, r3, r4, r5⟩ := hs
          refine ⟨r1, ?_, ?_, ?_, fun q hq => ?_⟩
          · simp [uI_at, ne, fA.1 13 (by omega), fB.1 7 (by omega)]; exact r2
          · simp [uI_at, ne, fA.1 14 (by omega)]; exact r3
          · simp [uI_at, ne, fB.1 8 (by omega)]; exact r4
          · have := r5 q hq
            unfold WDe at this ⊢
            simpa [uI_at, fA.1 15 (by omega), fA.1 16 (by omega), fA.1 17 (by omega), fB.1 9 (by omega), fB.1 10 (by omega), fB.1 11 (by omega)] using this
      have h122 : σ2.1 12 0 = nI (c + 1) := by subst hσ2; simp [uI_at]
      have h142 : τ2.1 0 14 = nI c := by subst hτ2; simp [uI_at]; exact h14'
      have sd0 : SDe σ2 τ2 c 0 := by
        subst hσ2 hτ2
        refine ⟨by omega, ⟨kd, hkd, ?_, ?_⟩, ?_, ?_, fun q hq => absurd hq (Nat.not_lt_zero q)⟩
        · simp [uI_at]
        · simp [uI_at]
        · simp [uI_at]; rfl
        · simp [uI_at]; rfl
      unfold f6_readSpeaker_39 f9_readsSpeaker_108
      obtain ⟨N, hN⟩ : ∃ N, fuelN = N + 1 := ⟨fuelN - 1, by have := fuelN_ge; omega⟩
      have hN6 := fuelN_ge
      rw [hN]
      have ca : wloop (fun k39 p => f6_readSpeaker_39_b k39 p.1 p.2) (N + 1) (0, σ2) = f6_readSpeaker_59 (wloop (fun k39 p => f6_readSpeaker_39_b k39 p.1 p.2) N) 0 σ2 := by
        show f6_readSpeaker_39_b _ 0 σ2 = _
        unfold f6_readSpeaker_39_b
        rw [if_neg (show ¬ (3 : Int32) ≤ 0 by decide), if_pos le00]
      rw [ca]
      rcases word_j cs3 ms3 hk hi hc h122 h142 sd0 (by omega) with ⟨p', σ', τ', b1, b2, b3, b4, b5, b6, b7, b8, b9, d1, d2, d3, d4, d5⟩ | ⟨f, σ', τ', b3, b4, b5, b6, b7⟩
      · rw [cont1 (show Xw σ2 = _ from b3), b4, bd_s]
        have keep2 : Keep c σ τ σ' τ' := keep.tr ⟨b5, b6, by rw [b9], by rw [b9], d1, d2, fun k2 m2 hk2 hs => d5 k2 m2 (by omega) hs⟩
        rcases words_j hk hi hc 2 1 N (N + 1) (by omega) (by omega) (by omega) (by omega) σ' τ' p' b7 b8 (by rw [b9]; exact h122) (by rw [d3]; exact h142) d4 with ⟨p2, m2, σ2, τ2, e1, e2, e3, e4, e5, e6, e7, e8, e9⟩ | ⟨f, σ2, τ2, e1, e2, e3, e4, e5⟩ | ⟨p2, σ2, τ2, e1, e2, e3, e4, e5, e6, e7, e8⟩
        · exact Or.inl ⟨p2, m2, σ2, τ2, e1, e2, keep2.tr e3, e4, e5, e6, e7, e8, e9⟩
        · exact Or.inr (Or.inl ⟨f, σ2, τ2, e1, e2, keep2.1.tr e3, keep2.2.1.tr e4, e5⟩)
        · exact Or.inr (Or.inr ⟨p2, σ2, τ2, e1, e2, keep2.1.tr e3, keep2.2.1.tr e4, e5, e6, e7, e8⟩)
      · rw [cont0 (show Xw σ2 = _ from b3), b4, bd_s]
        refine Or.inr (Or.inl ⟨f, σ', uI τ' 0 14 (τ'.1 0 14 + 0), rfl, ?_, keep.1.tr b5, (keep.2.1.tr b6).tr (frq14 _ _), b7.1, by rw [uI_at, if_neg (by omega)]; exact b7.2.1, b7.2.2⟩)
        show f9_readsSpeaker_108_b _ _ _ 0 τ' = _
        unfold f9_readsSpeaker_108_b f9_readsSpeaker_135 f9_readsSpeaker_150
        rw [if_pos rfl, if_pos rfl, if_pos (Or.inl rfl)]
    have e5 : σ1.1 19 4 = nI (p + 1) := a5.2.2.2.1
    have e11 : τ1.1 0 11 = nI (p + 1) := a6.1
    have m48 : ∀ x3 : Int32, f9_readsSpeaker_48 (nI (100 * k + i)) (nI n) x3 τ1 = if x3 = 112 then f9_readsSpeaker_91 (nI (100 * k + i)) (nI n) (nI c) 0 (nI c) (uI τ1 0 11 (nI (p + 1 + 1))) else if x3 = 116 then f9_readsSpeaker_91 (nI (100 * k + i)) (nI n) (nI c) 1 (nI c) (uI τ1 0 11 (nI (p + 1 + 1))) else f9_readsSpeaker_91 (nI (100 * k + i)) (nI n) (nI c) 2 (nI c) (uI τ1 0 11 (nI (p + 1 + 1))) := by
      intro x3
      unfold f9_readsSpeaker_48
      rw [e11, nI_1, show (uI τ1 0 11 (nI (p + 1 + 1))).1 0 14 = nI c by rw [uI_at, if_neg (by omega)]; exact h14']
    rw [m48]
    rcases next_c a5 hk hi 112 with ⟨k1, k2, k3⟩ | ⟨k1, k3⟩
    · rw [k3, bd_s, if_neg n10, bd_s, if_pos le00]
      dsimp only
      rw [e5, nI_1, if_pos k1, if_pos k2]
      rw [if_pos k2]
      exact main 0 (by omega) k1
    · rw [k3, bd_s, if_pos rfl]
      have n112 : ¬ (if p + 1 < n then v (p + 1) else (-9 : Int32)) = 112 := by
        split
        · next z => exact fun y => k1 ⟨z, y⟩
        · decide
      rw [if_neg n112, if_neg n112]
      rcases next_c a5 hk hi 116 with ⟨l1, l2, l3⟩ | ⟨l1, l3⟩
      · rw [l3, bd_s, if_neg n10, bd_s, if_pos (show (0 : Int32) ≤ 1 by decide)]
        dsimp only
        rw [e5, nI_1, if_pos l1, if_pos l2]
        rw [if_pos l2]
        exact main 1 (by omega) l1
      · rw [l3, bd_s, if_pos rfl]
        have n116 : ¬ (if p + 1 < n then v (p + 1) else (-9 : Int32)) = 116 := by
          split
          · next z => exact fun y => l1 ⟨z, y⟩
          · decide
        rw [if_neg n116, if_neg n116]
        rcases next_c a5 hk hi 111 with ⟨o1, o2, o3⟩ | ⟨o1, o3⟩
        · rw [o3, bd_s, if_neg n10, bd_s, if_pos (show (0 : Int32) ≤ 2 by decide)]
          dsimp only
          rw [e5, nI_1, if_pos o1, if_pos o2]
          exact main 2 (by omega) o1
        · have n111 : ¬ (if p + 1 < n then v (p + 1) else (-9 : Int32)) = 111 := by
            split
            · next z => exact fun y => o1 ⟨z, y⟩
            · decide
          rw [o3, bd_s, if_pos rfl, bd_s, if_neg (show ¬ (0 : Int32) ≤ -1 by decide), if_neg n111]
          dsimp only
          rw [e5]
          exact Or.inr (Or.inl ⟨p + 1, _, _, rfl, rfl, (fA.tr (fr19 _ _ _)).r, fB.q, by simp [uI_at], e11, by omega⟩)
  · rw [a3, bd_s, if_pos rfl, a4, bd_s, if_pos rfl]
    exact Or.inr (Or.inl ⟨p, _, _, rfl, rfl, (fr19 _ _ _).r, (fr11 _ _).q, a5⟩)
