/-! what is best, and its settling -/
theorem pbest_c (m : Nat) (P : PP) (C : CC) (Vn : Nat → Nat → Nat) (k w : Nat) : ∀ n, ((pbest m P C Vn k w n).1 = 9 ∧ (pbest m P C Vn k w n).2.1 = 0 ∧ (pbest m P C Vn k w n).2.2 = Vn (bh P C w)) ∨ ((pbest m P C Vn k w n).1 < n ∧ pl P (3 * k + (pbest m P C Vn k w n).1) ≤ w ∧ (pbest m P C Vn k w n).2.1 = pl P (3 * k + (pbest m P C Vn k w n).1) ∧ (pbest m P C Vn k w n).2.2 = pnew P C Vn k w (pbest m P C Vn k w n).1) := by
  intro n
  induction n with
  | zero => exact Or.inl ⟨rfl, rfl, rfl⟩
  | succ n ih =>
    unfold pbest
    split
    · next c => exact Or.inr ⟨Nat.lt_succ_self n, c.1, rfl, rfl⟩
    · rcases ih with h | h
      · exact Or.inl h
      · exact Or.inr ⟨by omega, h.2⟩
theorem nWords_le (m : Nat) (P : PP) (k : Nat) : nWords m P k ≤ pw P k := by
  unfold nWords; split <;> omega
theorem plan_b {m : Nat} {P : PP} {C : CC} (w : WfP P) (wc : WfC P C) : ∀ r x, r ≤ turnsN P C → (∀ j, (plan m P C r x).2 j ≤ 9 * r) ∧ (∀ j, pn P ≤ j → (plan m P C r x).2 j = 0) ∧ (0 < r → (plan m P C r x).1 = 9 ∨ ((plan m P C r x).1 < nWords m P (who P C (turnsN P C - r)) ∧ pl P (3 * who P C (turnsN P C - r) + (plan m P C r x).1) ≤ x)) := by
  intro r
  induction r with
  | zero => intro x _; exact ⟨fun _ => Nat.zero_le _, fun _ _ => rfl, fun h => absurd h (Nat.lt_irrefl 0)⟩
  | succ r ih =>
    intro x hr
    have hw := who_lt wc (show turnsN P C - (r + 1) < turnsN P C by omega)
    have h := pbest_c m P C (fun w => (plan m P C r w).2) (who P C (turnsN P C - (r + 1))) x (nWords m P (who P C (turnsN P C - (r + 1))))
    have nl := nWords_le m P (who P C (turnsN P C - (r + 1)))
    unfold plan
    dsimp only
    rcases h with ⟨h1, h2, h3⟩ | ⟨h1, h2, h3, h4⟩
    · rw [h1, h3]
      exact ⟨fun j => by have := (ih (bh P C x) (by omega)).1 j; omega, (ih (bh P C x) (by omega)).2.1, fun _ => Or.inl rfl⟩
    · rw [h4]
      refine ⟨fun j => ?_, fun j hj => ?_, fun _ => Or.inr ⟨h1, h2⟩⟩
      · have := (ih (bh P C (x - pl P (3 * who P C (turnsN P C - (r + 1)) + (pbest m P C (fun w => (plan m P C r w).2) (who P C (turnsN P C - (r + 1))) x (nWords m P (who P C (turnsN P C - (r + 1))))).1))) (by omega)).1 j
        have := gn_le w hw (show (pbest m P C (fun w => (plan m P C r w).2) (who P C (turnsN P C - (r + 1))) x (nWords m P (who P C (turnsN P C - (r + 1))))).1 < pw P (who P C (turnsN P C - (r + 1))) by omega) j
        unfold pnew; dsimp only; omega
      · unfold pnew
        dsimp only
        rw [gn_z hj, (ih _ (by omega)).2.1 j hj]
theorem e100s (t x : Nat) (σ : HS) : f5_stateOf (nI t) (nI x) σ = some (nI (100 * t + x), σ) := by
  unfold f5_stateOf; rw [e100']
theorem sumW5 (V : Nat → Nat) : sumW V 5 = V 0 + V 1 + V 2 + V 3 + V 4 := by
  show 0 + V 0 + V 1 + V 2 + V 3 + V 4 = _; omega
/-- what can come behind a state -/
def Succ (P : PP) (C : CC) (k x y : Nat) : Prop := y = bh P C x ∨ ∃ q, q < pw P k ∧ pl P (3 * k + q) ≤ x ∧ y = bh P C (x - pl P (3 * k + q))
theorem diff_c {α : Type} (a b : Nat) (ha : a < 1000) (hb : b < 1000) (X Y Z : α) : (if 0 < (nI a - nI b : Int32) then X else if (nI a - nI b : Int32) = 0 then Y else Z) = if b < a then X else if a = b then Y else Z := by
  have h : (nI a - nI b).toInt = (a : Int) - b := pk_sub_toInt (by omega) (by omega)
  have z : (0 : Int32).toInt = 0 := rfl
  by_cases c : b < a
  · rw [if_pos c, if_pos (by rw [Int32.lt_iff_toInt_lt, h, z]; omega)]
  · rw [if_neg c, if_neg (by rw [Int32.lt_iff_toInt_lt, h, z]; omega)]
    by_cases c2 : a = b
    · rw [if_pos c2, if_pos (by rw [← Int32.toInt_inj, h, z]; omega)]
    · rw [if_neg c2, if_neg (by rw [← Int32.toInt_inj, h, z]; omega)]
theorem rather_c (kd len bl : Nat) (h1 : kd < 100) (h2 : len < 1000) (h3 : bl < 1000) (σ : HS) : f5_isRather (nI kd) (nI len) (nI bl) σ = some (if rather kd len bl = true then 1 else 0, σ) := by
  unfold f5_isRather rather
  by_cases c : kd = 0
  · rw [if_pos (by rw [c]; rfl), if_pos c]
    by_cases c2 : bl < len
    · rw [if_neg (nI_ge c2 (by omega)), if_pos (by simpa using c2)]
    · rw [if_pos (nI_le (by omega) (by omega)), if_neg (by simpa using c2)]
  · rw [if_neg (nI_ne0 (by omega) (by omega)), if_neg c]
    by_cases c2 : len < bl
    · rw [if_neg (nI_ge c2 (by omega)), if_pos (by simpa using c2)]
    · rw [if_pos (nI_le (by omega) (by omega)), if_neg (by simpa using c2)]
theorem val_lt {m : Nat} {V : Nat → Nat} (h : ∀ j, j < 5 → V j < 256 / 2) {k : Nat} (hk : k < 5) : val m V k < 1000 := by
  have h0 := h 0 (by omega)
  have h1 := h 1 (by omega)
  have h2 := h 2 (by omega)
  have h3 := h 3 (by omega)
  have h4 := h 4 (by omega)
  have := h k hk
  unfold val; split <;> omega
theorem settle_c {σ : HS} {g m t x : Nat} {P : PP} {C : CC} {Vn : Nat → Nat → Nat} (hg : 20 ≤ g) (rp : RepP σ P) (rc : RepC σ g P C) (w : WfP P) (wc : WfC P C) (hm : m = 0 ∨ m = 1) (ht : t < turnsN P C) (hx : x ≤ pj P) (hb : ∀ y j, j < 5 → Vn y j ≤ 54) (hV : ∀ y, Succ P C (who P C t) x y → f5_worthsFrom g (nI (t + 1)) (nI y) σ = some (lN (pkw (Vn y) 5), σ)) : f5_settle g (nI t) (nI x) (nI m) σ = some (uL (uI σ (g + 3) (100 * t + x) (cd (pbest m P C Vn (who P C t) x (nWords m P (who P C t))).1)) (g + 4) (100 * t + x) (lN (pkw (pbest m P C Vn (who P C t) x (nWords m P (who P C t))).2.2 5))) := by
  have h5 := w.1
  have h99 := w.2.1
  have h6 := turns_le C w
  have hw := who_lt wc ht
  have hk2 := (w.2.2.2 _ hw).1
  have h3 := (w.2.2.2 _ hw).2.2.1
  have bB : ∀ n, n ≤ pw P (who P C t) → ∀ j, j < 5 → (pbest m P C Vn (who P C t) x n).2.2 j < 256 / 2 := by
    intro n hn j hj
    rcases pbest_c m P C Vn (who P C t) x n with ⟨e1, e2, e3⟩ | ⟨e1, e2, e3, e4⟩
    · rw [e3]; have := hb (bh P C x) j hj; omega
    · rw [e4]
      have := hb (bh P C (x - pl P (3 * who P C t + (pbest m P C Vn (who P C t) x n).1))) j hj
      have := gn_le w hw (show (pbest m P C Vn (who P C t) x n).1 < pw P (who P C t) by omega) j
      unfold pnew; omega
  have main : ∀ kd : Nat, kd = pk P (who P C t) → f5_settle_44 g (nI t) (nI x) (nI m) (nI (who P C t)) (nI kd) (nI (nWords m P (who P C t))) σ = some (uL (uI σ (g + 3) (100 * t + x) (cd (pbest m P C Vn (who P C t) x (nWords m P (who P C t))).1)) (g + 4) (100 * t + x) (lN (pkw (pbest m P C Vn (who P C t) x (nWords m P (who P C t))).2.2 5))) := by
    rintro kd rfl
    have nl := nWords_le m P (who P C t)
    unfold f5_settle_44
    rw [wb_g rp rc w wc (by omega), bd_s, nI_1, hV _ (Or.inl rfl), bd_s]
    unfold f5_settle_73
    refine wl_eq (fun p : Int32 × Int32 × Int64 × Int32 × HS => ∃ q, q ≤ nWords m P (who P C t) ∧ p = (cd (pbest m P C Vn (who P C t) x q).1, nI (pbest m P C Vn (who P C t) x q).2.1, lN (pkw (pbest m P C Vn (who P C t) x q).2.2 5), nI q, σ)) (fun p => 10 - p.2.2.2.1.toNatClampNeg) _ _ ⟨0, by omega, rfl⟩ (by show 10 - _ < _; omega) ?_
    rintro k2 _ ⟨q, hq, rfl⟩ ih
    generalize hnW : nWords m P (who P C t) = nW at *
    dsimp only
    unfold f5_settle_73_b f5_settle_239
    by_cases c : nW ≤ q
    · have : q = nW := by omega
      subst this
      rw [if_pos (nI_le c (by omega)), e100s, bd_s, set_in (by omega) (by omega), bd_s, e100s, bd_s, lset_in (by omega) (by omega), bd_s]
    · have hq2 : q < pw P (who P C t) := by omega
      have hl := (w.2.2.2 _ hw).2.2.2 q hq2
      have b1 := bB q (by omega)
      have b2 : ∀ j, j < 5 → pnew P C Vn (who P C t) x q j < 256 / 2 := fun j hj => by
        have := hb (bh P C (x - pl P (3 * who P C t + q))) j hj
        have := gn_le w hw hq2 j
        unfold pnew; omega
      have bl2 : (pbest m P C Vn (who P C t) x q).2.1 < 1000 := by
        rcases pbest_c m P C Vn (who P C t) x q with ⟨e1, e2, e3⟩ | ⟨e1, e2, e3, e4⟩
        · omega
        · have := (w.2.2.2 _ hw).2.2.2 _ (show (pbest m P C Vn (who P C t) x q).1 < pw P (who P C t) by omega)
          omega
      have rec_keep : ¬ (pl P (3 * who P C t + q) ≤ x ∧ (val m (pbest m P C Vn (who P C t) x q).2.2 (who P C t) < val m (pnew P C Vn (who P C t) x q) (who P C t) ∨ (val m (pnew P C Vn (who P C t) x q) (who P C t) = val m (pbest m P C Vn (who P C t) x q).2.2 (who P C t) ∧ better m (pk P (who P C t)) (pl P (3 * who P C t + q)) (pbest m P C Vn (who P C t) x q).2.1 (pbest m P C Vn (who P C t) x q).1 = true))) → f5_settle_233 g k2 (nI t) (nI x) (nI m) (nI (who P C t)) (nI (pk P (who P C t))) (nI nW) (cd (pbest m P C Vn (who P C t) x q).1) (nI (pbest m P C Vn (who P C t) x q).2.1) (lN (pkw (pbest m P C Vn (who P C t) x q).2.2 5)) (nI q) σ = some (uL (uI σ (g + 3) (100 * t + x) (cd (pbest m P C Vn (who P C t) x nW).1)) (g + 4) (100 * t + x) (lN (pkw (pbest m P C Vn (who P C t) x nW).2.2 5))) := by
        intro hn
        have e : pbest m P C Vn (who P C t) x (q + 1) = pbest m P C Vn (who P C t) x q := by
          rw [pbest, if_neg hn]
        unfold f5_settle_233
        rw [nI_1]
        refine ih _ ⟨q + 1, by omega, by rw [e]⟩ ?_
        show 10 - (nI (q + 1)).toNatClampNeg < 10 - (nI q).toNatClampNeg
        rw [nI_clamp (by omega), nI_clamp (by omega)]; omega
      have rec_take : (pl P (3 * who P C t + q) ≤ x ∧ (val m (pbest m P C Vn (who P C t) x q).2.2 (who P C t) < val m (pnew P C Vn (who P C t) x q) (who P C t) ∨ (val m (pnew P C Vn (who P C t) x q) (who P C t) = val m (pbest m P C Vn (who P C t) x q).2.2 (who P C t) ∧ better m (pk P (who P C t)) (pl P (3 * who P C t + q)) (pbest m P C Vn (who P C t) x q).2.1 (pbest m P C Vn (who P C t) x q).1 = true))) → f5_settle_221 g k2 (nI t) (nI x) (nI m) (nI (who P C t)) (nI (pk P (who P C t))) (nI nW) (nI q) (nI (pl P (3 * who P C t + q))) (lN (pkw (pnew P C Vn (who P C t) x q) 5)) σ = some (uL (uI σ (g + 3) (100 * t + x) (cd (pbest m P C Vn (who P C t) x nW).1)) (g + 4) (100 * t + x) (lN (pkw (pbest m P C Vn (who P C t) x nW).2.2 5))) := by
        intro hn
        have e : pbest m P C Vn (who P C t) x (q + 1) = (q, pl P (3 * who P C t + q), pnew P C Vn (who P C t) x q) := by
          rw [pbest, if_pos hn]
        unfold f5_settle_221 f5_settle_233
        rw [nI_1]
        refine ih _ ⟨q + 1, by omega, by rw [e, cd_z (by omega)]⟩ ?_
        show 10 - (nI (q + 1)).toNatClampNeg < 10 - (nI q).toNatClampNeg
        rw [nI_clamp (by omega), nI_clamp (by omega)]; omega
      rw [if_neg (nI_ge (by omega) (by omega)), if_neg (show ¬ (3 : Int32) ≤ nI q from nI_ge (b := 3) (by omega) (by omega)), lengthOf_5 rp w hw hq2, bd_s]
      dsimp only
      by_cases cl : pl P (3 * who P C t + q) ≤ x
      · rw [if_neg (nI_nlt cl (by omega)), pk_sub cl, wb_g rp rc w wc (by omega), bd_s, nI_1, hV _ (Or.inr ⟨q, hq2, cl, rfl⟩), bd_s, gainBy_5 rp w hw hq2, bd_s, lN_add, show pkw (Vn (bh P C (x - pl P (3 * who P C t + q)))) 5 + pkw (gn P (who P C t) q) 5 = pkw (pnew P C Vn (who P C t) x q) 5 from (pkw_add _ _).symm]
        have hd := fun (X Y Z : Option HS) => diff_c (val m (pnew P C Vn (who P C t) x q) (who P C t)) (val m (pbest m P C Vn (who P C t) x q).2.2 (who P C t)) (val_lt b2 (by omega)) (val_lt b1 (by omega)) X Y Z
        have endg : ∀ z0 : Int32, (z0 = if better m (pk P (who P C t)) (pl P (3 * who P C t + q)) (pbest m P C Vn (who P C t) x q).2.1 (pbest m P C Vn (who P C t) x q).1 = true then 1 else 0) → f5_settle_204 g k2 (nI t) (nI x) (nI m) (nI (who P C t)) (nI (pk P (who P C t))) (nI nW) (cd (pbest m P C Vn (who P C t) x q).1) (nI (pbest m P C Vn (who P C t) x q).2.1) (lN (pkw (pbest m P C Vn (who P C t) x q).2.2 5)) (nI q) (nI (pl P (3 * who P C t + q))) (lN (pkw (pnew P C Vn (who P C t) x q) 5)) (nI (val m (pnew P C Vn (who P C t) x q) (who P C t)) - nI (val m (pbest m P C Vn (who P C t) x q).2.2 (who P C t))) z0 σ = some (uL (uI σ (g + 3) (100 * t + x) (cd (pbest m P C Vn (who P C t) x nW).1)) (g + 4) (100 * t + x) (lN (pkw (pbest m P C Vn (who P C t) x nW).2.2 5))) := by
          intro z0 hz
          unfold f5_settle_204
          rw [hd]
          by_cases c1 : val m (pbest m P C Vn (who P C t) x q).2.2 (who P C t) < val m (pnew P C Vn (who P C t) x q) (who P C t)
          · rw [if_pos c1]; exact rec_take ⟨cl, Or.inl c1⟩
          · rw [if_neg c1]
            by_cases c2 : val m (pnew P C Vn (who P C t) x q) (who P C t) = val m (pbest m P C Vn (who P C t) x q).2.2 (who P C t)
            · rw [if_pos c2]
              by_cases c3 : better m (pk P (who P C t)) (pl P (3 * who P C t + q)) (pbest m P C Vn (who P C t) x q).2.1 (pbest m P C Vn (who P C t) x q).1 = true
              · rw [if_pos c3] at hz
                rw [if_neg (by rw [hz]; exact n10)]; exact rec_take ⟨cl, Or.inr ⟨c2, c3⟩⟩
              · rw [if_neg c3] at hz
                rw [if_pos hz]
                exact rec_keep (fun z => by rcases z.2 with y | y; exact c1 y; exact c3 y.2)
            · rw [if_neg c2]
              exact rec_keep (fun z => by rcases z.2 with y | y; exact c1 y; exact c2 y.1)
        unfold f5_settle_174
        rcases hm with rfl | rfl
        · have v0 : ∀ V, val 0 V (who P C t) = V (who P C t) := fun V => if_pos rfl
          rw [v0, v0] at endg
          rw [if_pos (show nI 0 = 0 from rfl), worthIn_c (fun j hj => by have := b2 j hj; omega) (by omega), bd_s, worthIn_c (fun j hj => by have := b1 j hj; omega) (by omega), bd_s, if_pos (show nI 0 = 0 from rfl), rather_c _ _ _ (by omega) (by omega) bl2, bd_s]
          exact endg _ (by show (if rather _ _ _ = true then (1 : Int32) else 0) = if better 0 _ _ _ _ = true then 1 else 0; rw [show better 0 (pk P (who P C t)) (pl P (3 * who P C t + q)) (pbest 0 P C Vn (who P C t) x q).2.1 (pbest 0 P C Vn (who P C t) x q).1 = rather (pk P (who P C t)) (pl P (3 * who P C t + q)) (pbest 0 P C Vn (who P C t) x q).2.1 from if_pos rfl])
        · have v0 : ∀ V, val 1 V (who P C t) = sumW V 5 := fun V => by rw [sumW5]; exact if_neg (by omega)
          rw [v0, v0] at endg
          have bt : better 1 (pk P (who P C t)) (pl P (3 * who P C t + q)) (pbest 1 P C Vn (who P C t) x q).2.1 (pbest 1 P C Vn (who P C t) x q).1 = decide ((pbest 1 P C Vn (who P C t) x q).1 = 9) := if_neg (by omega)
          rw [bt] at endg
          rw [if_neg (show ¬ nI 1 = 0 from n10), toAll_c (fun j hj => by have := b2 j hj; omega), bd_s, toAll_c (fun j hj => by have := b1 j hj; omega), bd_s, if_neg (show ¬ nI 1 = 0 from n10)]
          by_cases c9 : (pbest 1 P C Vn (who P C t) x q).1 = 9
          · rw [if_pos (by rw [c9]; rfl)]
            exact endg 1 (by rw [if_pos (by simpa using c9)])
          · have : (pbest 1 P C Vn (who P C t) x q).1 < 9 := by
              rcases pbest_c 1 P C Vn (who P C t) x q with ⟨e1, e2, e3⟩ | ⟨e1, e2, e3, e4⟩ <;> omega
            rw [if_neg (cd_m9 this)]
            exact endg 0 (by rw [if_neg (by simpa using c9)])
      · rw [if_pos (nI_lt (by omega) (by omega))]
        exact rec_keep (fun z => cl z.1)
  unfold f5_settle f5_settle_31
  rw [whoIn_g rp rc w wc ht, bd_s, kindOf_5 rp w hw, bd_s, wordsOf_5 rp w hw, bd_s]
  rcases hm with rfl | rfl
  · rw [if_pos (show nI 0 = 0 from rfl)]
    by_cases c : pk P (who P C t) = 2
    · have e : nWords 0 P (who P C t) = 0 := if_pos ⟨rfl, c⟩
      have h := main 2 c.symm
      rw [e] at h
      rw [if_pos (by rw [c]; rfl), e]
      rw [c]; exact h
    · have e : nWords 0 P (who P C t) = pw P (who P C t) := if_neg (fun z => c z.2)
      have h := main _ rfl
      rw [if_neg (show ¬ nI (pk P (who P C t)) = (2 : Int32) from fun z => c ((nIc (c := 2) (by omega) (by omega)).mp z))]
      rw [e] at h ⊢
      exact h
  · have e : nWords 1 P (who P C t) = pw P (who P C t) := if_neg (fun z => absurd z.1 (by omega))
    have h := main _ rfl
    rw [if_neg (show ¬ nI 1 = 0 from n10)]
    rw [e] at h ⊢
    exact h
