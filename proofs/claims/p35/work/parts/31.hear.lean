/-! judge, worthOf, day -/
theorem InvB.mk' {j j2 : Nat} {σ τ σ' τ' : HS} {P : PP} {C : CC} (h : InvB j σ τ P C) (e : ∀ a, (1 ≤ a ∧ a ≤ 11) ∨ a = 20 ∨ a = 21 ∨ a = 40 ∨ a = 41 ∨ a = 42 → σ'.1 a = σ.1 a) (e2 : σ'.2 11 = σ.2 11) (c0 : σ'.1 0 12 = σ.1 0 12 ∧ σ'.1 0 13 = σ.1 0 13) (pl : PlanOk σ' P C) (mo : MotOk σ' P C) (m1 : MkAt σ' 20 (200 * j2)) (m2 : MkAt σ' 30 (200 * j2)) (t : ∀ a, (1 ≤ a ∧ a ≤ 6) ∨ (19 ≤ a ∧ a ≤ 23) → τ'.1 a = τ.1 a) (t0 : ∀ y, y ≠ 23 → y ≠ 24 → τ'.1 0 y = τ.1 0 y) : InvB j2 σ' τ' P C := by
  obtain ⟨a1, a2, a3, a4, a5, a6, a7, a8, a9, b1, b2, b3, b4⟩ := h
  refine ⟨a1, a2, ?_, a4.congr (e 20 (by omega)) (e 21 (by omega)), a5.congr ⟨t0 1 (by omega) (by omega), t0 2 (by omega) (by omega), t0 3 (by omega) (by omega), t0 4 (by omega) (by omega)⟩ (fun a z1 z2 => t a (by omega)), a6.congr ⟨e 2 (by omega), e 3 (by omega), e 4 (by omega)⟩ ⟨t 21 (by omega), t 22 (by omega), t 23 (by omega)⟩, a7.congr ⟨by rw [e 40 (by omega)], e 41 (by omega), e 42 (by omega)⟩ ⟨t0 29 (by omega) (by omega), t 19 (by omega), t 20 (by omega)⟩, pl, mo, m1, m2, by rw [c0.1, t0 36 (by omega) (by omega)]; exact b3, by rw [c0.2, t0 0 (by omega) (by omega)]; exact b4⟩
  unfold RepP at a3 ⊢
  rw [e 5 (by omega), e 6 (by omega), e 7 (by omega), e 8 (by omega), e 9 (by omega), e 10 (by omega), e2]
  exact a3
theorem InvB.fr {j : Nat} {σ τ σ' τ' : HS} {P : PP} {C : CC} {g : Nat} (hg : g = 20 ∨ g = 30) (h : InvB j σ τ P C) (f : FrC g σ σ') (m : FrM τ τ') : InvB j σ' τ' P C := by
  obtain ⟨a1, a2, a3, a4, a5, a6, a7, a8, a9, b1, b2, b3, b4⟩ := id h
  exact h.mk' (fun a ha => f.1 a (by omega) (by omega) (by omega)) (f.2 11 (by omega)) ⟨by rw [f.1 0 (by omega) (by omega) (by omega)], by rw [f.1 0 (by omega) (by omega) (by omega)]⟩ (a8.congr (by rw [f.1 0 (by omega) (by omega) (by omega)]) (f.1 23 (by omega) (by omega) (by omega)) (f.2 24 (by omega))) (a9.congr (by rw [f.1 44 (by omega) (by omega) (by omega)]) (f.1 45 (by omega) (by omega) (by omega)) (f.1 46 (by omega) (by omega) (by omega))) (b1.congr (by rw [f.1 22 (by omega) (by omega) (by omega)]) (f.1 26 (by omega) (by omega) (by omega))) (b2.congr (by rw [f.1 32 (by omega) (by omega) (by omega)]) (f.1 36 (by omega) (by omega) (by omega))) (fun a ha => m.1 a (by omega) (by omega) (by omega) (by omega)) m.2
def WOk (P : PP) (C : CC) (v : Nat → Int32) (t : Nat) : Prop := v t = -9 ∨ ∃ q, q < pw P (who P C t) ∧ v t = nI q
theorem wno {P : PP} {C : CC} (w : WfP P) {v : Nat → Int32} {t : Nat} (hw : who P C t < pn P) (h : ¬ WOk P C v t) : ¬ v t = -9 ∧ ((v t).toInt < 0 ∨ (pw P (who P C t) : Int) ≤ (v t).toInt) := by
  have h3 := (w.2.2.2 _ hw).2.2.1
  refine ⟨fun e => h (Or.inl e), ?_⟩
  rcases arg_c (v t) (pw P (who P C t)) (by omega) with z | ⟨q, hq, e⟩
  · exact z
  · exact absurd (Or.inr ⟨q, hq, e⟩) h
theorem words_c {σ : HS} {P : PP} {C : CC} (rp : RepP σ P) (rc : RepC σ 20 P C) (w : WfP P) (wc : WfC P C) {k i n : Nat} (hk : k < 4) (hi : i + n ≤ 100) (hn : n ≤ turnsN P C) : ((∀ t, t < n → WOk P C (fun t => σ.1 4 (100 * k + (i + t))) t) ∧ f8_areWords (nI k) (nI i) (nI n) σ = some (1, σ)) ∨ (¬ (∀ t, t < n → WOk P C (fun t => σ.1 4 (100 * k + (i + t))) t) ∧ f8_areWords (nI k) (nI i) (nI n) σ = some (0, σ)) := by
  have h6 := turns_le C w
  have body : ∀ v : Int32, (∀ kk m, m ≤ n → (∀ t, t < m → WOk P C (fun t => σ.1 4 (100 * k + (i + t))) t) → (m = n → v = 1) → (m < n → ¬ WOk P C (fun t => σ.1 4 (100 * k + (i + t))) m → v = 0) → (m < n → WOk P C (fun t => σ.1 4 (100 * k + (i + t))) m → kk (nI (m + 1), σ) = some (v, σ)) → f8_areWords_3_b kk (nI k) (nI i) (nI n) (nI m) σ = some (v, σ)) := by
    intro v kk m hm hal h1 h0 hg
    unfold f8_areWords_3_b f8_areWords_60
    by_cases c : n ≤ m
    · rw [if_pos (nI_le c (by omega)), h1 (by omega)]
    · rw [if_neg (nI_ge (by omega) (by omega)), if_neg (show ¬ (6 : Int32) ≤ nI m from nI_ge (b := 6) (by omega) (by omega))]
      unfold f7_valueAt
      rw [nI_add, place_e, bd_s, at_in (by omega) (by omega), bd_s, bd_s]
      have hw := who_lt wc (show m < turnsN P C by omega)
      by_cases c9 : σ.1 4 (100 * k + (i + m)) = -9
      · rw [if_pos c9, nI_1]
        exact hg (by omega) (Or.inl c9)
      · rw [if_neg c9, whoIn_g rp rc w wc (by omega), bd_s]
        by_cases c2 : WOk P C (fun t => σ.1 4 (100 * k + (i + t))) m
        · rcases id c2 with z | ⟨q, hq, z⟩
          · exact absurd z c9
          · have z : σ.1 4 (100 * k + (i + m)) = nI q := z
            rw [z, hasW_y rp w hw hq, bd_s, if_neg n10, nI_1]
            exact hg (by omega) c2
        · have := wno w hw c2
          rw [hasW_n rp w (Or.inr ⟨_, hw, rfl, this.2⟩), bd_s, if_pos rfl, h0 (by omega) c2]
  unfold f8_areWords f8_areWords_3
  by_cases hall : ∀ t, t < n → WOk P C (fun t => σ.1 4 (100 * k + (i + t))) t
  · refine Or.inl ⟨hall, ?_⟩
    refine wl_eq (fun q : Int32 × HS => ∃ m, m ≤ n ∧ q = (nI m, σ)) (fun q => 10 - q.1.toNatClampNeg) _ _ ⟨0, by omega, rfl⟩ (by show 10 - _ < _; omega) ?_
    rintro k2 _ ⟨m, hm, rfl⟩ ih
    refine body 1 k2 m hm (fun t ht => hall t (by omega)) (fun _ => rfl) (fun z z2 => absurd (hall m z) z2) (fun z _ => ih _ ⟨m + 1, by omega, rfl⟩ ?_)
    show 10 - (nI (m + 1)).toNatClampNeg < 10 - (nI m).toNatClampNeg
    rw [nI_clamp (by omega), nI_clamp (by omega)]; omega
  · refine Or.inr ⟨hall, ?_⟩
    refine wl_eq (fun q : Int32 × HS => ∃ m, m ≤ n ∧ q = (nI m, σ) ∧ ∀ t, t < m → WOk P C (fun t => σ.1 4 (100 * k + (i + t))) t) (fun q => 10 - q.1.toNatClampNeg) _ _ ⟨0, by omega, rfl, fun t ht => absurd ht (Nat.not_lt_zero t)⟩ (by show 10 - _ < _; omega) ?_
    rintro k2 _ ⟨m, hm, rfl, hal⟩ ih
    refine body 0 k2 m hm hal (fun z => absurd (fun t ht => hal t (by omega)) hall) (fun _ _ => rfl) (fun z z2 => ih _ ⟨m + 1, by omega, rfl, fun t ht => ?_⟩ ?_)
    · rcases Nat.lt_or_ge t m with q | q
      · exact hal t q
      · rw [show t = m by omega]; exact z2
    · show 10 - (nI (m + 1)).toNatClampNeg < 10 - (nI m).toNatClampNeg
      rw [nI_clamp (by omega), nI_clamp (by omega)]; omega
theorem words_m {τ : HS} {P : PP} {C : CC} (rm : RepM τ P C) (w : WfP P) (wc : WfC P C) {k i n : Nat} (hk : k < 4) (hi : i + n ≤ 100) (hn : n ≤ turnsN P C) {v : Nat → Int32} (hv : ∀ t, t < n → τ.1 23 (100 * k + (i + t)) = v t) : ((∀ t, t < n → WOk P C v t) → f9_areWords (nI (100 * k + i)) (nI n) τ = some (1, τ)) ∧ (¬ (∀ t, t < n → WOk P C v t) → f9_areWords (nI (100 * k + i)) (nI n) τ = some (0, τ)) := by
  have h6 := turns_le C w
  have body : ∀ r : Int32, ∀ (kk : Int32 × Int32 × HS → Option (Int32 × HS)) m f, m ≤ n → (f = (1 : Int32) ∨ f = 0) → (f = 1 → ∀ t, t < m → WOk P C v t) → (m = n → r = f) → (m < n → ∀ f2 : Int32, (f2 = 1 ∨ f2 = 0) → (f2 = 1 → f = 1 ∧ WOk P C v m) → (f2 = 0 → f = 0 ∨ ¬ WOk P C v m) → kk (f2, nI (m + 1), τ) = some (r, τ)) → f9_areWords_5_b kk (nI (100 * k + i)) (nI n) f (nI m) τ = some (r, τ) := by
    intro r kk m f hm hf hal h1 hg
    unfold f9_areWords_5_b f9_areWords_55 f9_areWords_51 f9_areWords_56
    by_cases c : n ≤ m
    · rw [if_pos (nI_le c (by omega)), h1 (by omega), if_pos (by rcases hf with z | z; exact Or.inr z; exact Or.inl z)]
    · rw [if_neg (nI_ge (by omega) (by omega))]
      by_cases cf : f = 0
      · rw [if_pos cf, nI_1]
        exact hg (by omega) 0 (Or.inr rfl) (fun z => absurd z.symm n10) (fun _ => Or.inl cf)
      · have cf1 : f = 1 := by rcases hf with z | z; exact z; exact absurd z cf
        rw [if_neg cf, nI_add, ix_in (by omega) (by omega), nI_clamp (by omega), show 100 * k + i + m = 100 * k + (i + m) by omega, hv m (by omega)]
        have hw := who_lt wc (show m < turnsN P C by omega)
        by_cases c9 : v m = -9
        · rw [if_pos c9, nI_1]
          exact hg (by omega) 1 (Or.inl rfl) (fun _ => ⟨cf1, Or.inl c9⟩) (fun z => absurd z n10)
        · rw [if_neg c9, who_m rm w wc (by omega), bd_s, ixc (by omega) (by omega)]
          rw [hv m (by omega)]
          by_cases c2 : WOk P C v m
          · rcases id c2 with z | ⟨q, hq, z⟩
            · exact absurd z c9
            · rw [z, nw_y rm w hw hq, bd_s, if_pos rfl, nI_1]
              exact hg (by omega) 1 (Or.inl rfl) (fun _ => ⟨cf1, c2⟩) (fun z => absurd z n10)
          · have := wno w hw c2
            rw [nw_n rm w (Or.inr ⟨_, hw, rfl, this.2⟩), bd_s, if_neg n10, nI_1]
            exact hg (by omega) 0 (Or.inr rfl) (fun z => absurd z.symm n10) (fun _ => Or.inr c2)
  have key : ∀ r : Int32, (∀ f : Int32, (f = 1 ∨ f = 0) → (f = 1 → ∀ t, t < n → WOk P C v t) → (f = 0 → ¬ ∀ t, t < n → WOk P C v t) → r = f) → f9_areWords (nI (100 * k + i)) (nI n) τ = some (r, τ) := by
    intro r hr
    unfold f9_areWords f9_areWords_5
    refine wl_eq (fun q : Int32 × Int32 × HS => ∃ m f, m ≤ n ∧ q = (f, nI m, τ) ∧ (f = 1 ∨ f = 0) ∧ (f = 1 → ∀ t, t < m → WOk P C v t) ∧ (f = 0 → ¬ ∀ t, t < n → WOk P C v t)) (fun q => 10 - q.2.1.toNatClampNeg) _ _ ⟨0, 1, by omega, rfl, Or.inl rfl, fun _ t ht => absurd ht (Nat.not_lt_zero t), fun z => absurd z n10⟩ (by show 10 - _ < _; omega) ?_
    rintro k2 _ ⟨m, f, hm, rfl, hf, h1, h0⟩ ih
    refine body r k2 m f hm hf h1 (fun z => hr f hf (by rw [z] at h1; exact h1) h0) (fun z f2 q1 q2 q3 => ih _ ⟨m + 1, f2, by omega, rfl, q1, fun y t ht => ?_, fun y => ?_⟩ ?_)
    · rcases Nat.lt_or_ge t m with q | q
      · exact h1 (q2 y).1 t q
      · rw [show t = m by omega]; exact (q2 y).2
    · rcases q3 y with q | q
      · exact h0 q
      · exact fun hh => q (hh m z)
    · show 10 - (nI (m + 1)).toNatClampNeg < 10 - (nI m).toNatClampNeg
      rw [nI_clamp (by omega), nI_clamp (by omega)]; omega
  exact ⟨fun hh => key 1 (fun f hf _ h0 => by rcases hf with z | z; exact z.symm; exact absurd hh (h0 z)), fun hh => key 0 (fun f hf h1 _ => by rcases hf with z | z; exact absurd (h1 z) hh; exact z.symm)⟩
theorem words_v {P : PP} {C : CC} {n : Nat} {v : Nat → Int32} (h : ∀ t, t < n → WOk P C v t) (w : WfP P) (wc : WfC P C) (hn : n ≤ turnsN P C) : ∃ cs : Nat → Nat, ∀ t, (t < n → v t = cd (cs t)) ∧ (n ≤ t → cs t = 9) ∧ (t < turnsN P C → cs t = 9 ∨ cs t < pw P (who P C t)) := by
  have : ∀ t, ∃ c : Nat, (t < n → v t = cd c) ∧ (n ≤ t → c = 9) ∧ (t < turnsN P C → c = 9 ∨ c < pw P (who P C t)) := by
    intro t
    by_cases c : t < n
    · rcases h t c with z | ⟨q, hq, z⟩
      · exact ⟨9, fun _ => z, fun _ => rfl, fun _ => Or.inl rfl⟩
      · refine ⟨q, fun _ => ?_, fun y => absurd c (by omega), fun _ => Or.inr hq⟩
        have := (w.2.2.2 _ (who_lt wc (show t < turnsN P C by omega))).2.2.1
        rw [z, cd_z (by omega)]
    · exact ⟨9, fun y => absurd y c, fun _ => rfl, fun _ => Or.inl rfl⟩
  exact ⟨fun t => Classical.choose (this t), fun t => Classical.choose_spec (this t)⟩
/-- what both sides do with a part of a sheet -/
theorem hear_b {j : Nat} {σ τ : HS} {P : PP} {C : CC} (hB : InvB j σ τ P C) (a1 a2 a3 a4 : Int32) : (∃ code ft : Int32, ¬ code = 0 ∧ code.toInt < 0 ∧ (∀ σ : HS, f8_told code σ = some (code, uI σ 0 13 ft)) ∧ f8_hear a1 a2 a3 a4 σ = some (code, σ) ∧ f9_goTold a1 a2 a3 a4 τ = some (code, uI τ 0 0 ft)) ∨ ∃ (n : Nat) (sd : Nat → Nat → Nat) (σ' τ' : HS), a4 = nI n ∧ n ≤ turnsN P C ∧ SaidOk P C sd ∧ f8_hear a1 a2 a3 a4 σ = some (0, σ') ∧ f9_goTold a1 a2 a3 a4 τ = some (0, uI τ' 0 0 0) ∧ FrC 20 σ σ' ∧ FrM τ τ' ∧ DayC σ' 20 P C sd n ∧ DayM τ' P C sd n := by
  obtain ⟨w, wc, rp, rc, rm, rs, rl, a8, a9, b1, b2, b3, b4⟩ := id hB
  have h5 := w.1
  have h6 := turns_le C w
  have z0 : (0 : Int32) ≤ 0 := le00
  unfold f8_hear f9_goTold
  rcases part_c rs a1 a2 a3 a4 with ⟨code, ft, p1, p2, p3, p4, p5⟩ | ⟨k, a, i, n, s, rfl, rfl, rfl, rfl, hk, ha, his, hs, p4, p5, p6⟩
  · left
    refine ⟨code, ft, p1, p2, p3, ?_, ?_⟩
    · rw [p4, bd_s, if_neg p1]
    · rw [p5, bd_s, if_neg]
      rw [Int32.le_iff_toInt_le]
      show ¬ (0 : Int) ≤ code.toInt
      omega
  · rw [p4, bd_s, if_pos rfl, rp.1, p5, bd_s, if_pos z0, rm.1]
    by_cases c0 : nI (pn P) = 0
    · left
      rw [if_pos c0, if_pos c0]
      exact ⟨-3, 0, by decide, by decide, fun _ => told_0 (Or.inl (by decide)), rfl, rfl⟩
    · rw [if_neg c0, if_neg c0, turns_g rp rc w wc, bd_s, turns_m rm w wc, bd_s]
      by_cases c1 : n ≤ turnsN P C
      · rw [if_pos (nI_le c1 (by omega)), if_pos (nI_le c1 (by omega)), e100]
        have hv : ∀ t, t < n → τ.1 23 (100 * k + (i + t)) = σ.1 4 (100 * k + (i + t)) := fun t ht => (p6 _ (by omega)).symm
        have wm := words_m rm w wc hk (i := i) (n := n) (by omega) c1 hv
        rcases words_c rp rc w wc hk (i := i) (n := n) (by omega) c1 with ⟨hall, e⟩ | ⟨hall, e⟩
        · right
          rw [e, bd_s, if_neg n10, wm.1 hall, bd_s, if_neg n10]
          obtain ⟨cs, hcs⟩ := words_v hall w wc c1
          have sok : SaidOk P C (fun t _ => cs t) := fun t x ht _ => (hcs t).2.2 ht
          obtain ⟨σ1, q1, q2, q3⟩ := begin_c (by omega) rp rc w wc (fun t _ => cs t)
          obtain ⟨τ1, r1, r2, r3⟩ := begin_m rm w wc (cl C) (fun t _ => cs t)
          rw [q1, bd_s, r1, bd_s]
          have lc : ∃ r : Int32 × HS, f8_hear_73 (nI k) (nI i) (nI n) (0, σ1) = some r ∧ (r.1 = 0 ∧ FrC 20 σ r.2 ∧ DayC r.2 20 P C (fun t _ => cs t) n) := by
            unfold f8_hear_73
            refine wl_fuel (body := fun k73 p => f8_hear_73_b k73 (nI k) (nI i) (nI n) p.1 p.2) (fun p : Int32 × HS => ∃ m, m ≤ n ∧ p.1 = nI m ∧ FrC 20 σ p.2 ∧ DayC p.2 20 P C (fun t _ => cs t) m) (fun p => 10 - p.1.toNatClampNeg) _ (0, σ1) ⟨0, by omega, rfl, q2, q3⟩ (by show 10 - _ < _; omega) ?_
            rintro kk ⟨x6, σ2⟩ ⟨m, hm, e, g1, g3⟩ ih
            have e : x6 = nI m := e
            subst e
            have g1 : FrC 20 σ σ2 := g1
            have g3 : DayC σ2 20 P C (fun t _ => cs t) m := g3
            show ∃ r, f8_hear_73_b kk (nI k) (nI i) (nI n) (nI m) σ2 = some r ∧ _
            unfold f8_hear_73_b
            by_cases c : n ≤ m
            · have : m = n := by omega
              subst this
              rw [if_pos (nI_le c (by omega))]
              exact ⟨_, rfl, rfl, g1, g3⟩
            · rw [if_neg (nI_ge (by omega) (by omega)), if_neg (show ¬ (6 : Int32) ≤ nI m from nI_ge (b := 6) (by omega) (by omega))]
              unfold f7_valueAt
              obtain ⟨σ3, v1, v2, v3⟩ := speak_c (t := m) (by omega) (g1.rp (by omega) rp) (g1.rc rc) w wc sok (by omega) g3
              have v1 : f1_speak 20 (cd (cs m)) σ2 = some σ3 := v1
              have hvm : σ2.1 4 (100 * k + (i + m)) = cd (cs m) := by
                rw [g1.1 4 (by omega) (by omega) (by omega)]; exact (hcs m).1 (by omega)
              rw [nI_add, place_e, bd_s, at_in (by omega) (by omega), bd_s, bd_s, show (nI (100 * k + (i + m)), σ2).2.1 4 (100 * k + (i + m)) = cd (cs m) from hvm, v1, bd_s, nI_1]
              refine ih _ ⟨m + 1, by omega, rfl, g1.tr v2, v3⟩ ?_
              show 10 - (nI (m + 1)).toNatClampNeg < 10 - (nI m).toNatClampNeg
              rw [nI_clamp (by omega), nI_clamp (by omega)]; omega
          have lm : ∃ r : Int32 × HS, f9_goTold_82 (nI n) (nI (100 * k + i)) (0, τ1) = some r ∧ ∃ τ', r = (0, uI τ' 0 0 0) ∧ FrM τ τ' ∧ DayM τ' P C (fun t _ => cs t) n := by
            unfold f9_goTold_82
            refine wl_fuel (body := fun k82 p => f9_goTold_82_b k82 (nI n) (nI (100 * k + i)) p.1 p.2) (fun p : Int32 × HS => ∃ m, m ≤ n ∧ p.1 = nI m ∧ FrM τ p.2 ∧ DayM p.2 P C (fun t _ => cs t) m) (fun p => 10 - p.1.toNatClampNeg) _ (0, τ1) ⟨0, by omega, rfl, r2, r3⟩ (by show 10 - _ < _; omega) ?_
            rintro kk ⟨x6, τ2⟩ ⟨m, hm, e, g1, g3⟩ ih
            have e : x6 = nI m := e
            subst e
            have g1 : FrM τ τ2 := g1
            have g3 : DayM τ2 P C (fun t _ => cs t) m := g3
            show ∃ r, f9_goTold_82_b kk (nI n) (nI (100 * k + i)) (nI m) τ2 = some r ∧ _
            unfold f9_goTold_82_b
            by_cases c : n ≤ m
            · have : m = n := by omega
              subst this
              rw [if_pos (nI_le c (by omega))]
              exact ⟨_, rfl, τ2, rfl, g1, g3⟩
            · rw [if_neg (nI_ge (by omega) (by omega)), nI_add, ix_in (by omega) (by omega), nI_clamp (by omega)]
              obtain ⟨τ3, v1, v2, v3⟩ := turn_m (t := m) (g1.rm rm) w wc wc.2.1 sok (by omega) g3
              have v1 : f9_goTurn (nI m) (cd (cs m)) (nI (cl C)) τ2 = some τ3 := v1
              have hvm : τ2.1 23 (100 * k + i + m) = cd (cs m) := by
                rw [g1.1 23 (by omega) (by omega) (by omega) (by omega), show 100 * k + i + m = 100 * k + (i + m) by omega, hv m (by omega)]; exact (hcs m).1 (by omega)
              rw [hvm, (g1.rm rm).2.2.1, v1, bd_s, nI_1]
              refine ih _ ⟨m + 1, by omega, rfl, g1.tr v2, v3⟩ ?_
              show 10 - (nI (m + 1)).toNatClampNeg < 10 - (nI m).toNatClampNeg
              rw [nI_clamp (by omega), nI_clamp (by omega)]; omega
          obtain ⟨⟨rr, σ'⟩, x1, x2, x3, x4⟩ := lc
          obtain ⟨r, y1, τ', y2, y3, y4⟩ := lm
          have x2 : rr = 0 := x2
          subst x2 y2
          exact ⟨n, fun t _ => cs t, σ', τ', rfl, c1, sok, x1, y1, x3, y3, x4, y4⟩
        · left
          rw [e, bd_s, if_pos rfl, wm.2 hall, bd_s, if_pos rfl]
          exact ⟨-1, 0, by decide, by decide, fun _ => told_0 (Or.inl (by decide)), rfl, rfl⟩
      · left
        have i1 := his
        rw [if_neg (nI_ge (by omega) (by omega)), if_neg (nI_ge (by omega) (by omega))]
        exact ⟨-2, 0, by decide, by decide, fun _ => told_0 (Or.inl (by decide)), rfl, rfl⟩
theorem cd_ge (c : Nat) (h : c < 1000) : -11 < (cd c).toInt := by
  unfold cd; split
  · rw [tn9]; omega
  · rw [nI_toInt (by omega)]; omega
theorem op_judge (j : Nat) (σ τ : HS) (a1 a2 a3 a4 a5 : Int32) (hI : Inv j σ τ) (hj : j < 512) : ∃ (r : Int32) (σ1 τ1 : HS), f8_judge a1 a2 a3 a4 a5 σ = some (r, σ1) ∧ f9_judge a1 a2 a3 a4 a5 τ = some (r, τ1) ∧ Inv (j + 1) σ1 τ1 := by
  obtain ⟨P, C, hB⟩ := hI
  have w := hB.1
  have wc := hB.2.1
  have h99 := w.2.1
  unfold f8_judge f9_judge
  rcases hear_b hB a1 a2 a3 a4 with ⟨code, ft, p1, p2, p3, p4, p5⟩ | ⟨n, sd, σ', τ', rfl, hn, sok, p4, p5, fc, fm, dc, dm⟩
  · rw [p4, bd_s, if_neg p1, p3, bd_s, p5, bd_s, if_neg (by rw [Int32.le_iff_toInt_le]; show ¬ (0 : Int) ≤ code.toInt; omega)]
    exact ⟨_, _, _, rfl, rfl, P, C, (hB.flt ft).mono⟩
  · have h6 := turns_le C w
    have ok := dok w wc sok n hn
    obtain ⟨o1, o2, o3, o4, o5⟩ := ok
    have u23 : (uI τ' 0 0 0).1 0 23 = nI (dday P C sd n).2.1 := by rw [uI_at, if_neg (by omega)]; exact dm.2.1
    have u24 : (uI τ' 0 0 0).1 0 24 = cd (dday P C sd n).2.2.1 := by rw [uI_at, if_neg (by omega)]; exact dm.2.2.1
    have u13 : (uI τ' 0 0 0).1 13 n = nI (dday P C sd n).1 := by rw [uI_at, if_neg (by omega)]; exact dm.1
    rw [p4, bd_s, if_pos rfl, p5, bd_s, if_pos le00]
    dsimp only
    rw [dc.2.2.1, dc.2.2.2.1, dc.2.1, u23, u24]
    have fin := ((hB.fr (Or.inl rfl) fc fm).flt 0).mono
    by_cases c0 : a5 = 0
    · rw [if_pos c0, if_pos c0, told_0 (Or.inl (by rw [nI_toInt (by omega)]; omega)), bd_s]
      exact ⟨_, _, _, rfl, rfl, P, C, fin⟩
    · rw [if_neg c0, if_neg c0]
      by_cases c1 : a5 = 1
      · rw [if_pos c1, if_pos c1, told_0 (Or.inl (cd_ge _ (by omega))), bd_s]
        exact ⟨_, _, _, rfl, rfl, P, C, fin⟩
      · rw [if_neg c1, if_neg c1]
        by_cases c2 : a5 = 2
        · rw [if_pos c2, if_pos c2, told_0 (Or.inl (by rw [nI_toInt (by omega)]; omega)), bd_s, ix_in (by omega) (by omega), nI_clamp (by omega), u13]
          exact ⟨_, _, _, rfl, rfl, P, C, fin⟩
        · rw [if_neg c2, if_neg c2, told_m2, bd_s]
          exact ⟨_, _, _, rfl, rfl, P, C, fin⟩
theorem worth_lt {P : PP} {C : CC} (w : WfP P) (wc : WfC P C) {sd : Nat → Nat → Nat} (hs : SaidOk P C sd) {t : Nat} (ht : t ≤ turnsN P C) (k : Nat) : (dday P C sd t).2.2.2 k ≤ 54 := by
  have h6 := turns_le C w
  have := (dok w wc hs t ht).2.2.2.1 k
  omega
theorem op_worthOf (j : Nat) (σ τ : HS) (a1 a2 a3 a4 a5 : Int32) (hI : Inv j σ τ) (hj : j < 512) : ∃ (r : Int32) (σ1 τ1 : HS), f8_worthOf a1 a2 a3 a4 a5 σ = some (r, σ1) ∧ f9_worthOf a1 a2 a3 a4 a5 τ = some (r, τ1) ∧ Inv (j + 1) σ1 τ1 := by
  obtain ⟨P, C, hB⟩ := hI
  have w := hB.1
  have wc := hB.2.1
  have h5 := w.1
  unfold f8_worthOf f9_worthOf f8_worthOf_52
  rcases hear_b hB a1 a2 a3 a4 with ⟨code, ft, p1, p2, p3, p4, p5⟩ | ⟨n, sd, σ', τ', rfl, hn, sok, p4, p5, fc, fm, dc, dm⟩
  · rw [p4, bd_s, if_neg p1, p3, bd_s, p5, bd_s, if_neg (by rw [Int32.le_iff_toInt_le]; show ¬ (0 : Int) ≤ code.toInt; omega)]
    exact ⟨_, _, _, rfl, rfl, P, C, (hB.flt ft).mono⟩
  · have hB2 := hB.fr (Or.inl rfl) fc fm
    have fin := (hB2.flt 0).mono
    have rp2 := hB2.2.2.1
    have rm2 := (hB2.flt 0).2.2.2.2.1
    have ok := worth_lt w wc sok hn
    rw [p4, bd_s, if_pos rfl, p5, bd_s, if_pos le00]
    rcases arg_c a5 (pn P) (by omega) with hx | ⟨k, hk, rfl⟩
    · rw [has_n rp2.1 h5 hx, bd_s, if_pos rfl, nsp_n rm2.1 h5 hx, bd_s, if_neg n10, told_m1, bd_s]
      exact ⟨_, _, _, rfl, rfl, P, C, fin⟩
    · rw [has_y rp2.1 h5 hk, bd_s, if_neg n10, nsp_y rm2.1 h5 hk, bd_s, if_pos rfl, dc.2.2.2.2.1, worthIn_c (fun i _ => by have := ok i; omega) (by omega), bd_s, told_0 (Or.inl (by have := ok k; rw [nI_toInt (by omega)]; omega)), bd_s, ix_in (by omega) (by omega), nI_clamp (by omega), uI_other (by omega), dm.2.2.2.1 k hk]
      exact ⟨_, _, _, rfl, rfl, P, C, fin⟩
