/-! the model's choices -/
theorem e5 (t x j : Nat) : (((100 : Int32) * nI t + nI x) * 5) + nI j = nI ((100 * t + x) * 5 + j) := by
  rw [e100]
  show nI (100 * t + x) * nI 5 + nI j = _
  rw [pk_mul, nI_add]
theorem e500 (t x : Nat) : (500 : Int32) * nI t + nI x = nI (500 * t + x) := by show nI 500 * nI t + nI x = _; rw [pk_mul, nI_add]
def FrL (τ τ' : HS) : Prop := ∀ b, b ≠ 15 → b ≠ 16 → τ'.1 b = τ.1 b
theorem FrL.tr {a b c : HS} (h : FrL a b) (h2 : FrL b c) : FrL a c := fun x h7 h8 => (h2 x h7 h8).trans (h x h7 h8)
theorem FrL.rm {a b : HS} (h : FrL a b) {P : PP} {C : CC} (r : RepM a P C) : RepM b P C := r.congr ⟨by rw [h 0 (by omega) (by omega)], by rw [h 0 (by omega) (by omega)], by rw [h 0 (by omega) (by omega)], by rw [h 0 (by omega) (by omega)]⟩ (fun x z1 z2 => h x (by omega) (by omega))
/-- the worths one level on, at what can come behind -/
def NextM (τ : HS) (P : PP) (C : CC) (Vn : Nat → Nat → Nat) (t x : Nat) : Prop := ∀ y, Succ P C (who P C t) x y → ∀ j, j < pn P → τ.1 16 ((100 * (t + 1) + y) * 5 + j) = nI (Vn y j)
theorem bhE (P : PP) (C : CC) (x : Nat) : bh P (cw C, cl C, co C) x = bh P C x := rfl
theorem value_9 {τ : HS} {P : PP} {C : CC} {Vn : Nat → Nat → Nat} {t x j : Nat} (rm : RepM τ P C) (w : WfP P) (wc : WfC P C) (ht : t < turnsN P C) (hx : x ≤ pj P) (hj : j < pn P) (hV : NextM τ P C Vn t x) : f9_valueBy (nI t) (nI x) (-9) (nI j) τ = some (nI (Vn (bh P C x) j), τ) := by
  have h5 := w.1
  have h99 := w.2.1
  have h6 := turns_le C w
  have hb := bh_le (C := C) hx
  have h := hV _ (Or.inl rfl) j hj
  unfold f9_valueBy f9_valueBy_31 f9_valueOf
  rw [who_m rm w wc ht, bd_s, heard_9, bd_s, if_pos rfl, left_9, bd_s]
  dsimp only
  rw [rm.2.2.1, bh_m rm w wc (by omega) wc.2.1, bd_s, bhE, nI_1, e5, ix_in (by omega) (by omega), bd_s, nI_clamp (by omega), h]
  show some (nI 0 + nI _, τ) = _
  rw [nI_add, Nat.zero_add]
theorem value_q {τ : HS} {P : PP} {C : CC} {Vn : Nat → Nat → Nat} {t x j q : Nat} (rm : RepM τ P C) (w : WfP P) (wc : WfC P C) (ht : t < turnsN P C) (hx : x ≤ pj P) (hj : j < pn P) (hV : NextM τ P C Vn t x) (hq : q < pw P (who P C t)) (hl : pl P (3 * who P C t + q) ≤ x) : f9_valueBy (nI t) (nI x) (nI q) (nI j) τ = some (nI (pnew P C Vn (who P C t) x q j), τ) := by
  have h5 := w.1
  have h99 := w.2.1
  have h6 := turns_le C w
  have hw := who_lt wc ht
  have hb := bh_le (C := C) (show x - pl P (3 * who P C t + q) ≤ pj P by omega)
  have h := hV _ (Or.inr ⟨q, hq, hl, rfl⟩) j hj
  unfold f9_valueBy f9_valueBy_31 f9_valueOf
  rw [who_m rm w wc ht, bd_s, heard_c rm w hw hq (by omega), bd_s, if_pos hl, if_neg (show ¬ nI 1 = 0 from n10), worthFor_c rm w hj hw hq, bd_s, left_c rm w hw hq (by omega), bd_s, if_pos hl]
  dsimp only
  rw [rm.2.2.1, bh_m rm w wc (by omega) wc.2.1, bd_s, bhE, nI_1, e5, ix_in (by omega) (by omega), bd_s, nI_clamp (by omega), h, nI_add, Nat.add_comm]
  rfl
theorem len_9 (k : Int32) (τ : HS) : f9_lengthAs k (-9) τ = some (0, τ) := by
  unfold f9_lengthAs
  rw [if_neg m9nle]
theorem len_q {τ : HS} {P : PP} {C : CC} (rm : RepM τ P C) (w : WfP P) {k q : Nat} (hk : k < pn P) (hq : q < pw P k) : f9_lengthAs (nI k) (nI q) τ = some (nI (pl P (3 * k + q)), τ) := by
  have h5 := w.1
  have h3 := (w.2.2.2 k hk).2.2.1
  unfold f9_lengthAs
  rw [if_pos (nI_pos' (by omega)), e3, ix_in (by omega) (by omega), nI_clamp (by omega), ((rm.2.2.2.2.1 k hk).2.2 q hq).1]
theorem bestIn_c {τ : HS} {P : PP} {C : CC} {Vn : Nat → Nat → Nat} {t x : Nat} (rm : RepM τ P C) (w : WfP P) (wc : WfC P C) (ht : t < turnsN P C) (hx : x ≤ pj P) (hb : ∀ y j, j < 5 → Vn y j ≤ 54) (hV : NextM τ P C Vn t x) : f9_bestIn (nI t) (nI x) τ = some (cd (pbest 0 P C Vn (who P C t) x (nWords 0 P (who P C t))).1, τ) := by
  have h5 := w.1
  have h99 := w.2.1
  have h6 := turns_le C w
  have hw := who_lt wc ht
  have hk2 := (w.2.2.2 _ hw).1
  have h3 := (w.2.2.2 _ hw).2.2.1
  have nl := nWords_le 0 P (who P C t)
  have n0 : nWords 0 P (who P C t) = 0 ∨ (nWords 0 P (who P C t) = pw P (who P C t) ∧ pk P (who P C t) < 2) := by
    unfold nWords; split
    · exact Or.inl rfl
    · exact Or.inr ⟨rfl, by omega⟩
  have n2 : pk P (who P C t) = 2 → nWords 0 P (who P C t) = 0 := fun e => if_pos ⟨rfl, e⟩
  unfold f9_bestIn
  rw [who_m rm w wc ht, bd_s, value_9 rm w wc ht hx hw hV, bd_s]
  unfold f9_bestIn_24
  refine wl_eq (fun p : Int32 × Int32 × Int32 × HS => ∃ q, q ≤ nWords 0 P (who P C t) ∧ p = (cd (pbest 0 P C Vn (who P C t) x q).1, nI ((pbest 0 P C Vn (who P C t) x q).2.2 (who P C t)), nI q, τ)) (fun p => 10 - p.2.2.1.toNatClampNeg) _ _ ⟨0, by omega, rfl⟩ (by show 10 - _ < _; omega) ?_
  rintro k2 _ ⟨q, hq, rfl⟩ ih
  generalize hnW : nWords 0 P (who P C t) = nW at *
  dsimp only
  unfold f9_bestIn_24_b
  rw [ix_in (by omega) (by omega), nI_clamp (by omega), (rm.2.2.2.2.1 _ hw).2.1, (rm.2.2.2.2.1 _ hw).1]
  by_cases c : nW ≤ q
  · have e : q = nW := by omega
    subst e
    by_cases c2 : pw P (who P C t) ≤ q
    · rw [if_pos (nI_le c2 (by omega))]
    · rw [if_neg (nI_ge (by omega) (by omega)), ixc (by omega) (by omega)]
      have : pk P (who P C t) = 2 := by
        rcases n0 with z | z
        · by_cases y : pk P (who P C t) = 2
          · exact y
          · have : nWords 0 P (who P C t) = pw P (who P C t) := if_neg (fun z => y z.2)
            omega
        · omega
      rw [if_pos (show (2 : Int32) ≤ nI _ from nI_le (a := 2) (by omega) (by omega))]
  · have hq2 : q < pw P (who P C t) := by omega
    have hl := (w.2.2.2 _ hw).2.2.2 q hq2
    have k01 : pk P (who P C t) < 2 := by omega
    have bB : ∀ n, n ≤ pw P (who P C t) → (pbest 0 P C Vn (who P C t) x n).2.2 (who P C t) < 200 := by
      intro n hn
      rcases pbest_c 0 P C Vn (who P C t) x n with ⟨e1, e2, e3⟩ | ⟨e1, e2, e3, e4⟩
      · rw [e3]; have := hb (bh P C x) (who P C t) (by omega); omega
      · rw [e4]
        have := hb (bh P C (x - pl P (3 * who P C t + (pbest 0 P C Vn (who P C t) x n).1))) (who P C t) (by omega)
        have := gn_le w hw (show (pbest 0 P C Vn (who P C t) x n).1 < pw P (who P C t) by omega) (who P C t)
        unfold pnew; omega
    have b1 := bB q (by omega)
    have b2 : pnew P C Vn (who P C t) x q (who P C t) < 200 := by
      have := hb (bh P C (x - pl P (3 * who P C t + q))) (who P C t) (by omega)
      have := gn_le w hw hq2 (who P C t)
      unfold pnew; omega
    rw [if_neg (nI_ge (by omega) (by omega)), ixc (by omega) (by omega), if_neg (show ¬ (2 : Int32) ≤ nI _ from nI_ge (b := 2) (by omega) (by omega)), heard_c rm w hw hq2 (by omega), bd_s]
    have v0 : ∀ V, val 0 V (who P C t) = V (who P C t) := fun V => if_pos rfl
    have rec_keep : ¬ (pl P (3 * who P C t + q) ≤ x ∧ ((pbest 0 P C Vn (who P C t) x q).2.2 (who P C t) < pnew P C Vn (who P C t) x q (who P C t) ∨ (pnew P C Vn (who P C t) x q (who P C t) = (pbest 0 P C Vn (who P C t) x q).2.2 (who P C t) ∧ rather (pk P (who P C t)) (pl P (3 * who P C t + q)) (pbest 0 P C Vn (who P C t) x q).2.1 = true))) → f9_bestIn_145 k2 (nI t) (nI x) (nI (who P C t)) (cd (pbest 0 P C Vn (who P C t) x q).1) (nI ((pbest 0 P C Vn (who P C t) x q).2.2 (who P C t))) (nI q) τ = some (cd (pbest 0 P C Vn (who P C t) x nW).1, τ) := by
      intro hn
      have e : pbest 0 P C Vn (who P C t) x (q + 1) = pbest 0 P C Vn (who P C t) x q := by
        rw [pbest, v0, v0]; exact if_neg hn
      unfold f9_bestIn_145
      rw [nI_1]
      refine ih _ ⟨q + 1, by omega, by rw [e]⟩ ?_
      show 10 - (nI (q + 1)).toNatClampNeg < 10 - (nI q).toNatClampNeg
      rw [nI_clamp (by omega), nI_clamp (by omega)]; omega
    have rec_take : (pl P (3 * who P C t + q) ≤ x ∧ ((pbest 0 P C Vn (who P C t) x q).2.2 (who P C t) < pnew P C Vn (who P C t) x q (who P C t) ∨ (pnew P C Vn (who P C t) x q (who P C t) = (pbest 0 P C Vn (who P C t) x q).2.2 (who P C t) ∧ rather (pk P (who P C t)) (pl P (3 * who P C t + q)) (pbest 0 P C Vn (who P C t) x q).2.1 = true))) → f9_bestIn_137 k2 (nI t) (nI x) (nI (who P C t)) (nI q) (nI (pnew P C Vn (who P C t) x q (who P C t))) τ = some (cd (pbest 0 P C Vn (who P C t) x nW).1, τ) := by
      intro hn
      have e : pbest 0 P C Vn (who P C t) x (q + 1) = (q, pl P (3 * who P C t + q), pnew P C Vn (who P C t) x q) := by
        rw [pbest, v0, v0]; exact if_pos hn
      unfold f9_bestIn_137 f9_bestIn_145
      rw [nI_1]
      refine ih _ ⟨q + 1, by omega, by rw [e, cd_z (by omega)]⟩ ?_
      show 10 - (nI (q + 1)).toNatClampNeg < 10 - (nI q).toNatClampNeg
      rw [nI_clamp (by omega), nI_clamp (by omega)]; omega
    by_cases cl : pl P (3 * who P C t + q) ≤ x
    · have bl : f9_lengthAs (nI (who P C t)) (cd (pbest 0 P C Vn (who P C t) x q).1) τ = some (nI (pbest 0 P C Vn (who P C t) x q).2.1, τ) ∧ (pbest 0 P C Vn (who P C t) x q).2.1 ≤ 100 := by
        rcases pbest_c 0 P C Vn (who P C t) x q with ⟨e1, e2, e3⟩ | ⟨e1, e2, e3, e4⟩
        · rw [e1, e2, cd_9, len_9]; exact ⟨rfl, by omega⟩
        · have hq3 : (pbest 0 P C Vn (who P C t) x q).1 < pw P (who P C t) := by omega
          have := (w.2.2.2 _ hw).2.2.2 _ hq3
          rw [e3, cd_z (by omega), len_q rm w hw hq3]; exact ⟨rfl, by omega⟩
      rw [if_pos cl, if_neg (show ¬ nI 1 = 0 from n10), value_q rm w wc ht hx hw hV hq2 cl, bd_s, len_q rm w hw hq2, bd_s, bl.1, bd_s, ixc (by omega) (by omega)]
      have endg : ∀ z0 : Int32, (z0 = if rather (pk P (who P C t)) (pl P (3 * who P C t + q)) (pbest 0 P C Vn (who P C t) x q).2.1 = true then 1 else 0) → f9_bestIn_116 k2 (nI t) (nI x) (nI (who P C t)) (cd (pbest 0 P C Vn (who P C t) x q).1) (nI ((pbest 0 P C Vn (who P C t) x q).2.2 (who P C t))) (nI q) (nI (pnew P C Vn (who P C t) x q (who P C t))) z0 τ = some (cd (pbest 0 P C Vn (who P C t) x nW).1, τ) := by
        intro z0 hz
        unfold f9_bestIn_116
        by_cases c1 : (pbest 0 P C Vn (who P C t) x q).2.2 (who P C t) < pnew P C Vn (who P C t) x q (who P C t)
        · rw [if_pos (nI_lt c1 (by omega))]; exact rec_take ⟨cl, Or.inl c1⟩
        · rw [if_neg (nI_nlt (by omega) (by omega))]
          by_cases c2 : pnew P C Vn (who P C t) x q (who P C t) = (pbest 0 P C Vn (who P C t) x q).2.2 (who P C t)
          · rw [if_pos (by rw [c2])]
            by_cases c3 : rather (pk P (who P C t)) (pl P (3 * who P C t + q)) (pbest 0 P C Vn (who P C t) x q).2.1 = true
            · rw [if_pos c3] at hz
              rw [if_neg (by rw [hz]; exact n10)]; exact rec_take ⟨cl, Or.inr ⟨c2, c3⟩⟩
            · rw [if_neg c3] at hz
              rw [if_pos hz]
              exact rec_keep (fun z => by rcases z.2 with y | y; exact c1 y; exact c3 y.2)
          · rw [if_neg (fun z => c2 ((nIc (by omega) (by omega)).mp z))]
            exact rec_keep (fun z => by rcases z.2 with y | y; exact c1 y; exact c2 y.1)
      have hd : (nI (pl P (3 * who P C t + q)) - nI (pbest 0 P C Vn (who P C t) x q).2.1).toInt = (pl P (3 * who P C t + q) : Int) - (pbest 0 P C Vn (who P C t) x q).2.1 := pk_sub_toInt (by omega) (by omega)
      have z0 : (0 : Int32).toInt = 0 := rfl
      dsimp only
      rw [(rm.2.2.2.2.1 _ hw).1]
      by_cases ck : pk P (who P C t) = 0
      · rw [if_pos (by rw [ck]; rfl)]
        have er : rather (pk P (who P C t)) (pl P (3 * who P C t + q)) (pbest 0 P C Vn (who P C t) x q).2.1 = decide ((pbest 0 P C Vn (who P C t) x q).2.1 < pl P (3 * who P C t + q)) := if_pos ck
        by_cases c4 : (pbest 0 P C Vn (who P C t) x q).2.1 < pl P (3 * who P C t + q)
        · rw [if_neg (by rw [Int32.le_iff_toInt_le, hd, z0]; omega)]
          exact endg 1 (by rw [er, if_pos (by simpa using c4)])
        · rw [if_pos (by rw [Int32.le_iff_toInt_le, hd, z0]; omega)]
          exact endg 0 (by rw [er, if_neg (by simpa using c4)])
      · rw [if_neg (nI_ne0 (by omega) (by omega))]
        have er : rather (pk P (who P C t)) (pl P (3 * who P C t + q)) (pbest 0 P C Vn (who P C t) x q).2.1 = decide (pl P (3 * who P C t + q) < (pbest 0 P C Vn (who P C t) x q).2.1) := if_neg ck
        by_cases c4 : pl P (3 * who P C t + q) < (pbest 0 P C Vn (who P C t) x q).2.1
        · rw [if_neg (by rw [Int32.le_iff_toInt_le, hd, z0]; omega)]
          exact endg 1 (by rw [er, if_pos (by simpa using c4)])
        · rw [if_pos (by rw [Int32.le_iff_toInt_le, hd, z0]; omega)]
          exact endg 0 (by rw [er, if_neg (by simpa using c4)])
    · rw [if_neg cl, if_pos (show nI 0 = 0 from rfl)]
      exact rec_keep (fun z => cl z.1)
def EntM (τ : HS) (P : PP) (C : CC) (t x : Nat) : Prop := τ.1 15 (100 * t + x) = cd (freeSaid P C t x) ∧ ∀ j, j < pn P → τ.1 16 ((100 * t + x) * 5 + j) = nI ((plan 0 P C (turnsN P C - t) x).2 j)
theorem lay_m {τ : HS} {P : PP} {C : CC} (rm : RepM τ P C) (w : WfP P) (wc : WfC P C) : ∃ τ', f9_layChoices τ = some τ' ∧ FrL τ τ' ∧ ∀ t x, t < turnsN P C → x ≤ pj P → EntM τ' P C t x := by
  have h5 := w.1
  have h99 := w.2.1
  have h6 := turns_le C w
  unfold f9_layChoices
  rw [turns_m rm w wc, bd_s]
  unfold f9_layChoices_7
  let Z : HS → Prop := fun τ' => FrL τ τ' ∧ ∀ y, y < 500 → τ'.1 16 (500 * turnsN P C + y) = 0
  let Rows : HS → Nat → Nat → Prop := fun τ' t x => Z τ' ∧ ∀ t' x', t' < turnsN P C → x' ≤ pj P → (t < t' ∨ (t' = t ∧ x' < x)) → EntM τ' P C t' x'
  refine wl_fuel (body := fun k7 p => f9_layChoices_7_b k7 (nI (turnsN P C)) p.1 p.2) (fun p : Int32 × HS => ∃ y, y ≤ 500 ∧ p.1 = nI y ∧ FrL τ p.2 ∧ ∀ y', y' < y → p.2.1 16 (500 * turnsN P C + y') = 0) (fun p => 600 - p.1.toNatClampNeg) (fun r : HS => FrL τ r ∧ ∀ t x, t < turnsN P C → x ≤ pj P → EntM r P C t x) (0, τ) ⟨0, by omega, rfl, fun _ _ _ => rfl, fun y' h => absurd h (Nat.not_lt_zero y')⟩ (by show 600 - _ < _; omega) ?_
  rintro kk ⟨x6, τ1⟩ ⟨y, hy, e, g1, g3⟩ ih
  have e : x6 = nI y := e
  subst e
  have g1 : FrL τ τ1 := g1
  have g3 : ∀ y', y' < y → τ1.1 16 (500 * turnsN P C + y') = 0 := g3
  show ∃ r, f9_layChoices_7_b kk (nI (turnsN P C)) (nI y) τ1 = some r ∧ _
  unfold f9_layChoices_7_b
  by_cases cy : 500 ≤ y
  · rw [if_pos (show (500 : Int32) ≤ nI y from nI_le cy (by omega))]
    have start : nI (turnsN P C) - 1 = if turnsN P C = 0 then -1 else nI (turnsN P C - 1) := by
      by_cases c : turnsN P C = 0
      · rw [if_pos c, c]; rfl
      · rw [if_neg c]; show nI (turnsN P C) - nI 1 = _; rw [pk_sub (by omega)]
    rw [start]
    unfold f9_layChoices_37
    refine wl_fuel (body := fun k37 p => f9_layChoices_37_b k37 p.1 p.2) (fun p : Int32 × HS => ∃ r, r ≤ turnsN P C ∧ p.1 = (if r = 0 then -1 else nI (r - 1)) ∧ Z p.2 ∧ ∀ t' x', t' < turnsN P C → x' ≤ pj P → r ≤ t' → EntM p.2 P C t' x') (fun p => if p.1 = -1 then 0 else p.1.toNatClampNeg + 1) _ _ ⟨turnsN P C, Nat.le_refl _, rfl, ⟨g1, fun y' h => g3 y' (by omega)⟩, fun t' x' h1 _ h2 => absurd h1 (by omega)⟩ ?_ ?_
    · dsimp only
      by_cases c : turnsN P C = 0
      · rw [if_pos (by rw [if_pos c])]; omega
      · rw [if_neg c, if_neg (nI_m1 (by omega)), nI_clamp (by omega)]; omega
    · rintro k37 ⟨x2, τ2⟩ ⟨r, hr, e, z2, g4⟩ ih37
      have e : x2 = (if r = 0 then -1 else nI (r - 1)) := e
      subst e
      have z2 : Z τ2 := z2
      have g4 : ∀ t' x', t' < turnsN P C → x' ≤ pj P → r ≤ t' → EntM τ2 P C t' x' := g4
      show ∃ s, f9_layChoices_37_b k37 (if r = 0 then -1 else nI (r - 1)) τ2 = some s ∧ _
      unfold f9_layChoices_37_b
      by_cases c : r = 0
      · rw [if_pos c, if_pos m1lt0]
        exact ⟨τ2, rfl, z2.1, fun t x ht hx => g4 t x ht hx (by omega)⟩
      · rw [if_neg c, if_neg (nI_pos (by omega))]
        unfold f9_layChoices_43
        refine wl_fuel (body := fun k43 p => f9_layChoices_43_b k37 k43 (nI (r - 1)) p.1 p.2) (fun p : Int32 × HS => ∃ x, x ≤ pj P + 1 ∧ p.1 = nI x ∧ Rows p.2 (r - 1) x) (fun p => 200 - p.1.toNatClampNeg) _ (0, τ2) ⟨0, by omega, rfl, z2, fun t' x' h1 h2 h3 => g4 t' x' h1 h2 (by omega)⟩ (by show 200 - _ < _; omega) ?_
        rintro k43 ⟨x3, τ3⟩ ⟨x, hx, e, z3, g5⟩ ih43
        have e : x3 = nI x := e
        subst e
        have z3 : Z τ3 := z3
        have g5 : ∀ t' x', t' < turnsN P C → x' ≤ pj P → (r - 1 < t' ∨ (t' = r - 1 ∧ x' < x)) → EntM τ3 P C t' x' := g5
        show ∃ s, f9_layChoices_43_b k37 k43 (nI (r - 1)) (nI x) τ3 = some s ∧ _
        unfold f9_layChoices_43_b
        have rm3 := z3.1.rm rm
        rw [rm3.2.1]
        by_cases cx : pj P < x
        · rw [if_pos (nI_lt cx (by omega)), show nI (r - 1) + (-1) = (if r - 1 = 0 then -1 else nI (r - 1 - 1)) by
            by_cases c2 : r - 1 = 0
            · rw [if_pos c2, c2]; rfl
            · rw [if_neg c2]
              have := pk_m1 (r - 1 - 1)
              rw [show r - 1 - 1 + 1 = r - 1 by omega] at this
              exact this]
          refine ih37 _ ⟨r - 1, by omega, rfl, z3, fun t' x' h1 h2 h3 => g5 t' x' h1 h2 (by omega)⟩ ?_
          dsimp only
          rw [if_neg c, if_neg (nI_m1 (by omega)), nI_clamp (by omega)]
          by_cases c2 : r - 1 = 0
          · rw [if_pos c2]
            rw [if_pos rfl]; omega
          · rw [if_neg c2, if_neg (nI_m1 (by omega)), nI_clamp (by omega)]; omega
        · rw [if_neg (nI_nlt (by omega) (by omega))]
          have next : ∀ τ4 : HS, (∀ s, 500 * r ≤ s → s < 500 * turnsN P C + 500 → τ4.1 16 s = τ3.1 16 s) → NextM τ4 P C (fun y => (plan 0 P C (turnsN P C - r) y).2) (r - 1) x := by
            intro τ4 h4 y hy j hj
            have hy2 : y ≤ pj P := by
              rcases hy with z | ⟨q, q1, q2, z⟩
              · rw [z]; exact bh_le (by omega)
              · rw [z]; exact bh_le (by omega)
            rw [h4 _ (by omega) (by omega), show r - 1 + 1 = r by omega]
            by_cases cr : r < turnsN P C
            · exact (g5 r y cr hy2 (by omega)).2 j hj
            · have : r = turnsN P C := by omega
              subst this
              rw [show (100 * turnsN P C + y) * 5 + j = 500 * turnsN P C + (y * 5 + j) by omega, z3.2 _ (by omega), Nat.sub_self]
              rfl
          have ht : r - 1 < turnsN P C := by omega
          have hb := fun y j (hj : j < 5) => (plan_b (m := 0) (C := C) w wc (turnsN P C - r) y (by omega)).1 j
          rw [bestIn_c rm3 w wc ht (by omega) (fun y j hj => by have := hb y j hj; omega) (next τ3 (fun _ _ _ => rfl)), bd_s, e100, ix_in (by omega) (by omega), nI_clamp (by omega)]
          have step : plan 0 P C (turnsN P C - (r - 1)) x = ((pbest 0 P C (fun y => (plan 0 P C (turnsN P C - r) y).2) (who P C (r - 1)) x (nWords 0 P (who P C (r - 1)))).1, (pbest 0 P C (fun y => (plan 0 P C (turnsN P C - r) y).2) (who P C (r - 1)) x (nWords 0 P (who P C (r - 1)))).2.2) := by
            have e1 : turnsN P C - (r - 1) = (turnsN P C - r) + 1 := by omega
            rw [e1, plan, show turnsN P C - (turnsN P C - r + 1) = r - 1 by omega]
          generalize hB : pbest 0 P C (fun y => (plan 0 P C (turnsN P C - r) y).2) (who P C (r - 1)) x (nWords 0 P (who P C (r - 1))) = B at *
          have hBc := pbest_c 0 P C (fun y => (plan 0 P C (turnsN P C - r) y).2) (who P C (r - 1)) x (nWords 0 P (who P C (r - 1)))
          rw [hB] at hBc
          unfold f9_layChoices_75
          refine wl_fuel (body := fun k75 p => f9_layChoices_75_b k37 k43 k75 (nI (r - 1)) (nI x) (cd B.1) p.1 p.2) (fun p : Int32 × HS => ∃ j, j ≤ pn P ∧ p.1 = nI j ∧ FrL τ3 p.2 ∧ (∀ s, s ≠ 100 * (r - 1) + x → p.2.1 15 s = τ3.1 15 s) ∧ p.2.1 15 (100 * (r - 1) + x) = cd B.1 ∧ (∀ s, (s < (100 * (r - 1) + x) * 5 ∨ (100 * (r - 1) + x) * 5 + 5 ≤ s) → p.2.1 16 s = τ3.1 16 s) ∧ ∀ j', j' < j → p.2.1 16 ((100 * (r - 1) + x) * 5 + j') = nI (B.2.2 j')) (fun p => 10 - p.1.toNatClampNeg) _ _ ⟨0, by omega, rfl, fun b b1 b2 => uI_other b1 _ _, fun s hs => by rw [uI_at, if_neg (fun z => hs z.2)], by rw [uI_at, if_pos ⟨rfl, rfl⟩], fun s _ => by rw [uI_other (by omega)], fun j' h => absurd h (Nat.not_lt_zero j')⟩ (by show 10 - _ < _; omega) ?_
          rintro k75 ⟨x4, τ4⟩ ⟨j, hj, e, f1, f2, f3, f4, f5⟩ ih75
          have e : x4 = nI j := e
          subst e
          have f1 : FrL τ3 τ4 := f1
          have f2 : ∀ s, s ≠ 100 * (r - 1) + x → τ4.1 15 s = τ3.1 15 s := f2
          have f3 : τ4.1 15 (100 * (r - 1) + x) = cd B.1 := f3
          have f4 : ∀ s, (s < (100 * (r - 1) + x) * 5 ∨ (100 * (r - 1) + x) * 5 + 5 ≤ s) → τ4.1 16 s = τ3.1 16 s := f4
          have f5 : ∀ j', j' < j → τ4.1 16 ((100 * (r - 1) + x) * 5 + j') = nI (B.2.2 j') := f5
          show ∃ s, f9_layChoices_75_b k37 k43 k75 (nI (r - 1)) (nI x) (cd B.1) (nI j) τ4 = some s ∧ _
          unfold f9_layChoices_75_b
          have rm4 := f1.rm rm3
          rw [rm4.1]
          by_cases cj : pn P ≤ j
          · rw [if_pos (nI_le cj (by omega)), nI_1]
            refine ih43 _ ⟨x + 1, by omega, rfl, ⟨z3.1.tr f1, fun y hy => ?_⟩, fun t' x' h1 h2 h3 => ?_⟩ ?_
            · show τ4.1 16 _ = 0
              rw [f4 _ (by omega)]; exact z3.2 y hy
            · show EntM τ4 P C t' x'
              by_cases ce : t' = r - 1 ∧ x' = x
              · obtain ⟨e1, e2⟩ := ce
                subst e1 e2
                refine ⟨?_, fun j' hj' => ?_⟩
                · rw [f3]; unfold freeSaid; rw [step]
                · rw [f5 j' (by omega), step]
              · have old := g5 t' x' h1 h2 (by omega)
                refine ⟨?_, fun j' hj' => ?_⟩
                · rw [f2 _ (by omega)]; exact old.1
                · rw [f4 _ (by omega)]; exact old.2 j' hj'
            · show 200 - (nI (x + 1)).toNatClampNeg < 200 - (nI x).toNatClampNeg
              rw [nI_clamp (by omega), nI_clamp (by omega)]; omega
          · have nx := next τ4 (fun s h1 h2 => f4 s (by omega))
            have hv : f9_valueBy (nI (r - 1)) (nI x) (cd B.1) (nI j) τ4 = some (nI (B.2.2 j), τ4) := by
              rcases hBc with ⟨e1, e2, e3⟩ | ⟨e1, e2, e3, e4⟩
              · rw [e1, cd_9, e3]; exact value_9 rm4 w wc ht (by omega) (by omega) nx
              · have hw := who_lt wc ht
                have h3 := (w.2.2.2 _ hw).2.2.1
                have nl := nWords_le 0 P (who P C (r - 1))
                rw [cd_z (by omega), e4]; exact value_q rm4 w wc ht (by omega) (by omega) nx (by omega) e2
            rw [if_neg (nI_ge (by omega) (by omega)), hv, bd_s, e5, ix_in (by omega) (by omega), nI_clamp (by omega), nI_1]
            refine ih75 _ ⟨j + 1, by omega, rfl, fun b b1 b2 => by show (uI τ4 16 _ _).1 b = _; rw [uI_other b2]; exact f1 b b1 b2, fun s hs => by show (uI τ4 16 _ _).1 15 s = _; rw [uI_other (by omega)]; exact f2 s hs, by show (uI τ4 16 _ _).1 15 _ = _; rw [uI_other (by omega)]; exact f3, fun s hs => ?_, fun j' hj' => ?_⟩ ?_
            · show (uI τ4 16 _ _).1 16 s = _
              rw [uI_at, if_neg (by omega)]; exact f4 s hs
            · show (uI τ4 16 ((100 * (r - 1) + x) * 5 + j) _).1 16 _ = _
              rw [uI_at]
              by_cases c1 : j' = j
              · rw [if_pos ⟨rfl, by rw [c1]⟩, c1]
              · rw [if_neg (by omega)]; exact f5 j' (by omega)
            · show 10 - (nI (j + 1)).toNatClampNeg < 10 - (nI j).toNatClampNeg
              rw [nI_clamp (by omega), nI_clamp (by omega)]; omega
  · rw [if_neg (show ¬ (500 : Int32) ≤ nI y from nI_ge (b := 500) (by omega) (by omega)), e500, ix_in (by omega) (by omega), nI_clamp (by omega), nI_1]
    refine ih _ ⟨y + 1, by omega, rfl, fun b b1 b2 => by show (uI τ1 16 _ _).1 b = _; rw [uI_other b2]; exact g1 b b1 b2, fun y' hy' => ?_⟩ ?_
    · show (uI τ1 16 (500 * turnsN P C + y) 0).1 16 _ = _
      rw [uI_at]
      by_cases c1 : y' = y
      · rw [if_pos ⟨rfl, by rw [c1]⟩]
      · rw [if_neg (by omega)]; exact g3 y' (by omega)
    · show 600 - (nI (y + 1)).toNatClampNeg < 600 - (nI y).toNatClampNeg
      rw [nI_clamp (by omega), nI_clamp (by omega)]; omega
