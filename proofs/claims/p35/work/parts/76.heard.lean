/-! in which order a word is heard: all orders, from the last one back -/
theorem saidEq {P : PP} {C : CC} {od : Nat → Nat} {k q : Nat} : saidBy P C od k q ↔ ∃ t, t < turnsN P (cw C, cl C, od) ∧ who P (cw C, cl C, od) t = k ∧ saysN P (cw C, cl C, od) t = q := Iff.rfl
theorem says_3 {P : PP} {C : CC} (w : WfP P) (wc : WfC P C) {t : Nat} (ht : t < turnsN P C) : saysN P C t = 9 ∨ saysN P C t < 3 := by
  have ok := dok w wc (free_ok w wc) t (by omega)
  rcases free_ok w wc t _ ht ok.1 with z | z
  · exact Or.inl z
  · have := (w.2.2.2 _ (who_lt wc ht)).2.2.1
    exact Or.inr (by show freeSaid P C t _ < 3; omega)
/-- is it heard in the order that is now -/
theorem heardL {sL : Nat} {a0 : Nat → Int32} (k85 : (Nat → Int32) × Int32 × HS × Nat → Option Int32) (k1918 : (Nat → Int32) × Int32 × (Nat → Int32) × Int32 × HS × Nat → Option Int32) {a2 a3 : Nat → Int32} {x5 x27 : Int32} {a28 : Nat → Int32} {x29 : Int32} {a30 : Nat → Int32} {x31 : Int32} {a32 : Nat → Int32} {x33 x37 : Int32} {a38 : Nat → Int32} {σ τ : HS} {g j : Nat} {P : PP} {C : CC} {k q : Nat}
    (hB : InvB j σ τ P C) (hj : j < 512) (hL : LwA a2 a3 P C) (hk : k < pn P) (hq : q < pw P k) {x4 : Int32}
    (hK : ∀ σ', InvB (j + 1) σ' τ P C → (∀ x31' a32', (((∃ t, t < turnsN P C ∧ who P C t = k ∧ saysN P C t = q) ∧ ¬ x31 < x37 ∧ x31' = x37 ∧ a32' = a38) ∨ (¬ ((∃ t, t < turnsN P C ∧ who P C t = k ∧ saysN P C t = q) ∧ ¬ x31 < x37) ∧ x31' = x31 ∧ a32' = a32)) → k1918 (a2, x31', a32', x33 + (-1), σ', g) = some 1)) :
    g_law_2150 sL a0 k85 k1918 a2 a3 x4 x5 (nI (turnsN P C)) (nI k) (nI q) x27 a28 x29 a30 x31 a32 x33 x37 a38 g (0, 0, σ) = some 1 := by
  obtain ⟨w, wc, -⟩ := id hB
  have h5 := w.1
  have h6 := turns_le C w
  have hq3 : q < 3 := by have := (w.2.2.2 k hk).2.2.1; omega
  unfold g_law_2150
  refine wl_to (fun p : Int32 × Int32 × HS => ∃ t, t ≤ turnsN P C ∧ p.2.1 = nI t ∧ ((p.1 = 1 ∧ ∃ i, i < t ∧ who P C i = k ∧ saysN P C i = q) ∨ (p.1 = 0 ∧ ¬ ∃ i, i < t ∧ who P C i = k ∧ saysN P C i = q)) ∧ (InvB j p.2.2 τ P C ∨ PB (j + 1) p.2.2 τ P C)) (fun p => 10 - p.2.1.toNatClampNeg) (some 1) _ ⟨0, by omega, rfl, Or.inr ⟨rfl, fun ⟨i, hi, _⟩ => absurd hi (Nat.not_lt_zero i)⟩, Or.inl hB⟩ (by show 10 - _ < _; omega) ?_
  rintro k2150 ⟨x, y, σ2⟩ ⟨t, ht, e, g1, g2⟩ ih
  have e : y = nI t := e
  subst e
  have g1 : (x = 1 ∧ ∃ i, i < t ∧ who P C i = k ∧ saysN P C i = q) ∨ (x = 0 ∧ ¬ ∃ i, i < t ∧ who P C i = k ∧ saysN P C i = q) := g1
  have g2 : InvB j σ2 τ P C ∨ PB (j + 1) σ2 τ P C := g2
  dsimp only
  unfold g_law_2150_b g_law_2217 g_law_2184 g_law_2188 g_law_2189
  by_cases ct : turnsN P C ≤ t
  · have : t = turnsN P C := by omega
    subst this
    have hI : InvB (j + 1) σ2 τ P C := by rcases g2 with z | z; exact z.mono; exact z.1
    rw [if_pos (nI_le ct (by omega))]
    rcases g1 with ⟨rfl, g0⟩ | ⟨rfl, g0⟩
    · rw [if_neg n10]
      by_cases c : x31 < x37
      · rw [if_pos c]
        exact hK σ2 hI _ _ (Or.inr ⟨fun z => z.2 c, rfl, rfl⟩)
      · rw [if_neg c]
        exact hK σ2 hI _ _ (Or.inl ⟨g0, c, rfl, rfl⟩)
    · rw [if_pos rfl]
      exact hK σ2 hI _ _ (Or.inr ⟨fun z => g0 z.1, rfl, rfl⟩)
  · have htT : t < turnsN P C := by omega
    have hkn := who_lt wc htT
    have go : ∀ (v : Int32) (σ3 : HS), ((v = 1 ∧ ∃ i, i < t + 1 ∧ who P C i = k ∧ saysN P C i = q) ∨ (v = 0 ∧ ¬ ∃ i, i < t + 1 ∧ who P C i = k ∧ saysN P C i = q)) → (InvB j σ3 τ P C ∨ PB (j + 1) σ3 τ P C) → k2150 (v, nI t + 1, σ3) = some 1 := by
      intro v σ3 hv h3
      rw [nI_1]
      refine ih _ ⟨t + 1, by omega, rfl, hv, h3⟩ ?_
      show 10 - (nI (t + 1)).toNatClampNeg < 10 - (nI t).toNatClampNeg
      rw [nI_clamp (by omega), nI_clamp (by omega)]; omega
    rw [if_neg (nI_ge (by omega) (by omega))]
    rcases g1 with ⟨rfl, i, g0⟩ | ⟨rfl, g0⟩
    · rw [if_neg n10]
      exact go 1 σ2 (Or.inl ⟨rfl, i, by omega, g0.2⟩) g2
    · rw [if_pos rfl, whoL hL htT, bd_s]
      have no : ¬ (who P C t = k ∧ saysN P C t = q) → ¬ ∃ i, i < t + 1 ∧ who P C i = k ∧ saysN P C i = q := by
        rintro z ⟨i, hi, y1⟩
        by_cases ci : i = t
        · rw [ci] at y1; exact z y1
        · exact g0 ⟨i, by omega, y1⟩
      by_cases ck : who P C t = k
      · obtain ⟨σ3, e1, e2⟩ : ∃ σ3, f8_says (nI t) σ2 = some (cd (saysN P C t), σ3) ∧ PB (j + 1) σ3 τ P C := by
          rcases g2 with z | z
          · exact says_d z hj htT
          · exact says_p z htT
        rw [if_pos (by rw [ck]), e1, bd_s]
        dsimp only
        by_cases cq : saysN P C t = q
        · rw [if_pos ((cd_eq (says_3 w wc htT) hq3).mpr cq)]
          exact go 1 σ3 (Or.inl ⟨rfl, t, by omega, ck, cq⟩) (Or.inr e2)
        · rw [if_neg (fun z => cq ((cd_eq (says_3 w wc htT) hq3).mp z))]
          exact go 0 σ3 (Or.inr ⟨rfl, no (fun z => cq z.2)⟩) (Or.inr e2)
      · rw [if_neg (fun z => ck ((nIc (by omega) (by omega)).mp z))]
        exact go 0 σ2 (Or.inr ⟨rfl, no (fun z => ck z.1)⟩) g2
theorem LwA.order {a2 a2' a3 : Nat → Int32} {P : PP} {C : CC} (h : LwA a2 a3 P C) {o : Nat → Nat} (e : ∀ i, i < 14 → a2' i = a2 i) (ho : ∀ r, r < pn P → a2' (14 + r) = nI (o r)) : LwA a2' a3 P (cw C, cl C, o) := by
  obtain ⟨h2, h4, e0, e1, e2, e3, hw, -⟩ := h
  exact ⟨h2, h4, by rw [e 0 (by omega)]; exact e0, by rw [e 1 (by omega)]; exact e1, by rw [e 2 (by omega)]; exact e2, by rw [e 3 (by omega)]; exact e3, fun k hk => by rw [e (9 + k) (by omega)]; exact hw k hk, ho⟩
theorem fac_b {n : Nat} (h2 : 2 ≤ n) (h4 : n ≤ 4) : 2 ≤ fac n ∧ fac n ≤ 24 := (pl_len h2 h4).2
/-- an order laid, speaker by speaker -/
theorem orderP {sL : Nat} {a0 : Nat → Int32} (k85 : (Nat → Int32) × Int32 × HS × Nat → Option Int32) (k1918 : (Nat → Int32) × Int32 × (Nat → Int32) × Int32 × HS × Nat → Option Int32) {a2 a3 : Nat → Int32} {x5 x10 x25 x26 x27 : Int32} {a28 : Nat → Int32} {x29 : Int32} {a30 : Nat → Int32} {x31 : Int32} {a32 : Nat → Int32} {x33 : Int32} {σ τ : HS} {g j : Nat} {P : PP} {C C0 : CC} {N R : Nat}
    (hB : InvB j σ τ P C) (hL : LwA a2 a3 P C) (hS : ShF τ) (hwas : ∀ p, p < pn P → a30 p = nI (co C0 p)) (h0 : ∀ p, p < pn P → co C0 p < pn P) (hperm : permB (pn P) R = true)
    (htok : tok (pn P) (pn P) 0 N (fac (pn P)) 0 R = true)
    (hK : ∀ a2' a38 σ' τ', InvB j σ' τ' P (cw C, cl C, dgt (pn P) R) → LwA a2' a3 P (cw C, cl C, dgt (pn P) R) → ShF τ' → τ'.1 0 29 = 0 → (∀ p, p < pn P → a38 p = nI (dgt (pn P) R p)) → g_law_2150 sL a0 k85 k1918 a2' a3 (nI (pn P)) x5 x10 x25 x26 x27 a28 x29 a30 x31 a32 x33 (nI (chg P C0 (dgt (pn P) R) (pn P))) a38 g (0, 0, σ') = some 1) :
    g_law_1945 sL a0 k85 k1918 a3 (nI (pn P)) x5 x10 x25 x26 x27 a28 (nI (fac (pn P))) a30 x31 a32 x33 g (a2, nI N, nI (fac (pn P)), 0, 0, (fun _ => 0), 0, σ) = some 1 := by
  have h2 := hL.1
  have h4 := hL.2.1
  unfold g_law_1945
  refine wl_to (fun s : (Nat → Int32) × Int32 × Int32 × Int32 × Int32 × (Nat → Int32) × Int32 × HS => ∃ p left b u o τ', p ≤ pn P ∧ tok (pn P - p) (pn P) p left b u R = true ∧ s.2.1 = nI left ∧ s.2.2.1 = nI b ∧ s.2.2.2.1 = nI u ∧ s.2.2.2.2.1 = nI (chg P C0 (dgt (pn P) R) p) ∧ (∀ i, i < p → s.2.2.2.2.2.1 i = nI (dgt (pn P) R i)) ∧ s.2.2.2.2.2.2.1 = nI p ∧ InvB j s.2.2.2.2.2.2.2 τ' P (cw C, cl C, o) ∧ LwA s.1 a3 P (cw C, cl C, o) ∧ ShF τ' ∧ (∀ r, r < p → o r = dgt (pn P) R r) ∧ (p = pn P → o = dgt (pn P) R) ∧ (0 < p → τ'.1 0 29 = 0)) (fun s => 10 - s.2.2.2.2.2.2.1.toNatClampNeg) (some 1) _ ⟨0, N, fac (pn P), 0, co C, τ, by omega, htok, rfl, rfl, rfl, rfl, fun i hi => absurd hi (Nat.not_lt_zero i), rfl, hB, hL, hS, fun r hr => absurd hr (Nat.not_lt_zero r), fun z => by omega, fun z => absurd z (Nat.lt_irrefl 0)⟩ (by show 10 - _ < _; omega) ?_
  rintro k1945 ⟨a, x34, x35, x36, x37, a38, x39, σ1⟩ ⟨p, left, b, u, o, τ1, hp, ht, e1, e2, e3, e4, g1, e5, g2, g3, g4, g5, g6, g7⟩ ih
  have e1 : x34 = nI left := e1
  have e2 : x35 = nI b := e2
  have e3 : x36 = nI u := e3
  have e4 : x37 = nI (chg P C0 (dgt (pn P) R) p) := e4
  have e5 : x39 = nI p := e5
  subst e1 e2 e3 e4 e5
  have g1 : ∀ i, i < p → a38 i = nI (dgt (pn P) R i) := g1
  have g2 : InvB j σ1 τ1 P (cw C, cl C, o) := g2
  have g3 : LwA a a3 P (cw C, cl C, o) := g3
  dsimp only
  unfold g_law_1945_b
  obtain ⟨w, wc, -⟩ := id g2
  have cle := chg_le P C0 (dgt (pn P) R) p
  by_cases c : pn P ≤ p
  · have : p = pn P := by omega
    subst this
    rw [if_pos (nI_le c (by omega))]
    rw [g6 rfl] at g2 g3
    exact hK a a38 σ1 τ1 g2 g3 g4 (g7 (by omega)) g1
  · have hpn : p < pn P := by omega
    have hf : pn P - p = (pn P - (p + 1)) + 1 := by omega
    rw [hf] at ht
    unfold tok at ht
    simp only [Bool.and_eq_true, decide_eq_true_eq, beq_iff_eq] at ht
    obtain ⟨⟨⟨⟨⟨⟨t1, t2⟩, t3⟩, t4⟩, t5⟩, t6⟩, t7⟩ := ht
    have dl := dgt_lt (n := pn P) (R := R) (p := p) (by omega)
    have dpos : 0 < b / (pn P - p) := Nat.pos_of_ne_zero t1
    have ble := Nat.div_le_self b (pn P - p)
    have lle := Nat.div_le_self left (b / (pn P - p))
    rw [if_neg (nI_ge (by omega) (by omega)), pk_sub (by omega), if_neg (nI_ne0 (by omega) (by omega)), pk_div (by omega) (by omega) (by omega), if_neg (nI_ne0 dpos (by omega)), if_neg (nI_ne0 dpos (by omega)), pk_rem (by omega) dpos (by omega), pk_div (by omega) dpos (by omega)]
    refine yloop t4 (by omega) t6 (fun k1979 => ?_)
    have yb := ysl_lt _ _ _ _ _ t6
    unfold g_law_1979_b
    have nb : bitOf u (dgt (pn P) R p) ≠ true := by
      have key : ∀ f t y y', ysl f u t y = some y' → bitOf u y' ≠ true := by
        intro f
        induction f with
        | zero => intro t y y' h; cases h
        | succ f ihf =>
          intro t y y' h
          unfold ysl at h
          split at h
          · exact ihf _ _ _ h
          · next z =>
            split at h
            · cases h; exact z
            · exact ihf _ _ _ h
      exact key _ _ _ _ t6
    have b5 := bit5 ⟨u, by omega⟩ ⟨dgt (pn P) R p, by omega⟩
    dsimp only at b5
    have sb := setB ⟨u, t4⟩ ⟨dgt (pn P) R p, t5⟩
    dsimp only at sb
    have hop := wc.2.2.2.1 p hpn
    have hop : o p < pn P := hop
    rw [if_neg (fun z => nb (b5.mp z)), if_pos (by decide), ix_in (by omega) (by omega), nI_clamp (by omega), bd_s, ixc (by omega) (by omega), hwas p hpn, sb]
    -- the places of those in another one
    have fin : ∀ d : Nat, chg P C0 (dgt (pn P) R) p + d = chg P C0 (dgt (pn P) R) (p + 1) → g_law_2054 sL a0 k85 k1918 k1945 a a3 (nI (pn P)) x5 x10 x25 x26 x27 a28 (nI (fac (pn P))) a30 x31 a32 x33 (nI (left % (b / (pn P - p)))) (nI (b / (pn P - p))) (nI (u ||| 2 ^ dgt (pn P) R p)) (upd a38 p (nI (dgt (pn P) R p))) (nI p) (nI (dgt (pn P) R p)) (nI d) (nI (chg P C0 (dgt (pn P) R) p)) σ1 g = some 1 := by
      intro d hd
      unfold g_law_2054
      have hao := g3.2.2.2.2.2.2.2 p hpn
      have hao : a (14 + p) = nI (o p) := hao
      let o' : Nat → Nat := if p + 1 = pn P then dgt (pn P) R else xch (o p) (dgt (pn P) R p) o
      have pinj : ∀ r r2, r < pn P → r2 < pn P → o r = o r2 → r = r2 := wc.2.2.2.2
      have oxch : ∀ r, r < p + 1 → xch (o p) (dgt (pn P) R p) o r = dgt (pn P) R r := by
        intro r hr
        unfold xch
        by_cases cr : r = p
        · rw [cr, if_pos rfl]
        · rw [if_neg (fun z => cr (pinj r p (by omega) hpn z)), g5 r (by omega), if_neg (fun z => cr (perm_inj hperm (by omega) hpn z))]
      have ho' : ∀ r, r < pn P → o' r = xch (o p) (dgt (pn P) R p) (co (cw C, cl C, o)) r := by
        intro r hr
        show (if p + 1 = pn P then dgt (pn P) R else xch (o p) (dgt (pn P) R p) o) r = xch (o p) (dgt (pn P) R p) o r
        by_cases cp : p + 1 = pn P
        · rw [if_pos cp, oxch r (by omega)]
        · rw [if_neg cp]
      obtain ⟨σ2, τ2, s1, s2, s3, s4⟩ := swap_y g2 (k1 := o p) (k2 := dgt (pn P) R p) hop dl ho'
      rw [le14, ix_in (by omega) (by omega), nI_clamp (by omega), hao, s1, bd_s, if_pos rfl, nI_add, hd]
      refine zloop (o := o) h4 (by omega) (by omega) (fun r hr => ⟨g3.2.2.2.2.2.2.2 r hr, by have := wc.2.2.2.1 r hr; show o r < 100; have : o r < pn P := this; omega⟩) (fun a2' q1 q2 => ?_)
      rw [nI_1]
      refine ih _ ⟨p + 1, _, _, _, o', τ2, by omega, t7, rfl, rfl, rfl, rfl, fun i hi => ?_, rfl, s2, g3.order q2 (fun r hr => by show a2' (14 + r) = _; rw [q1 r hr, ho' r hr]), ⟨by rw [s3 21 (by omega) (by omega)]; exact g4.1, by rw [s3 22 (by omega) (by omega)]; exact g4.2⟩, fun r hr => ?_, fun z => ?_, fun _ => s4⟩ ?_
      · show upd a38 p _ i = _
        by_cases ci : i = p
        · rw [ci, upS]
        · rw [upN ci]; exact g1 i (by omega)
      · rw [ho' r (by omega)]; exact oxch r hr
      · show (if p + 1 = pn P then dgt (pn P) R else xch (o p) (dgt (pn P) R p) o) = _
        rw [if_pos z]
      · show 10 - (nI (p + 1)).toNatClampNeg < 10 - (nI p).toNatClampNeg
        rw [nI_clamp (by omega), nI_clamp (by omega)]; omega
    have hcp := h0 p hpn
    by_cases cc : dgt (pn P) R p = co C0 p
    · rw [if_pos (by rw [cc])]
      exact fin 0 (by show _ = chg P C0 (dgt (pn P) R) p + _; rw [if_pos cc])
    · rw [if_neg (fun z => cc ((nIc (by omega) (by omega)).mp z))]
      exact fin 1 (by show _ = chg P C0 (dgt (pn P) R) p + _; rw [if_neg cc])
