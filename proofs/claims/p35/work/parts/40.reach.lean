/-! the reachable plan, in the other course -/
def Grow (P : PP) (C : CC) (t : Nat) (σ : HS) (mk n : Nat) (L : Nat → Nat) (σ' : HS) (n' : Nat) (L' : Nat → Nat) : Prop := FrP 30 σ σ' ∧ OpenInv σ' 30 mk n' L' ∧ n ≤ n' ∧ (∀ i, i < n → L' i = L i) ∧ ∀ i, n ≤ i → i < n' → L' i / 100 = t + 1 ∧ L' i % 100 ≤ pj P ∧ t + 1 < turnsN P C
theorem Grow.tr {P : PP} {C : CC} {t mk : Nat} {a b c : HS} {n n1 n2 : Nat} {L L1 L2 : Nat → Nat} (h : Grow P C t a mk n L b n1 L1) (h2 : Grow P C t b mk n1 L1 c n2 L2) : Grow P C t a mk n L c n2 L2 := by
  obtain ⟨f1, o1, m1, e1, g1⟩ := h
  obtain ⟨f2, o2, m2, e2, g2⟩ := h2
  refine ⟨f1.tr f2, o2, by omega, fun i hi => by rw [e2 i (by omega), e1 i hi], fun i h1 h2 => ?_⟩
  rcases Nat.lt_or_ge i n1 with z | z
  · rw [e2 i z]; exact g1 i h1 z
  · exact g2 i z h2
theorem grow_1 {P : PP} {C : CC} {σ : HS} {mk n t y : Nat} {L : Nat → Nat} (w : WfP P) (hO : OpenInv σ 30 mk n L) (hm : mk < 1000000) (h8 : σ.1 32 8 = nI (turnsN P C)) (ht : t < turnsN P C) (hy : y ≤ pj P) : ∃ (σ' : HS) (n' : Nat) (L' : Nat → Nat), f5_openState 30 (nI (t + 1)) (nI y) σ = some σ' ∧ Grow P C t σ mk n L σ' n' L' ∧ (t + 1 < turnsN P C → ∃ i, i < n' ∧ L' i = 100 * (t + 1) + y) := by
  have h99 := w.2.1
  have h6 := turns_le C w
  obtain ⟨σ4, n4, L4, u1, u2, u3, u4, u5, u6, u7, u8⟩ := open_c (g := 30) (T := turnsN P C) hO hm h8 h6 (show y ≤ 99 by omega) (show t + 1 ≤ 6 by omega)
  exact ⟨σ4, n4, L4, u1, ⟨u2, u3, u4, u6, fun i h1 h2 => by rw [(u8 i h1 h2).1]; have := (u8 i h1 h2).2; omega⟩, u7⟩
theorem behind_c {P : PP} {C : CC} {σ : HS} {mk n t x : Nat} {L : Nat → Nat} (rp : RepP σ P) (rc : RepC σ 30 P C) (w : WfP P) (wc : WfC P C) (hO : OpenInv σ 30 mk n L) (hm : mk < 1000000) (h8 : σ.1 32 8 = nI (turnsN P C)) (ht : t < turnsN P C) (hx : x ≤ pj P) : ∃ (σ' : HS) (n' : Nat) (L' : Nat → Nat), f5_openBehind (nI t) (nI x) σ = some σ' ∧ Grow P C t σ mk n L σ' n' L' ∧ (t + 1 < turnsN P C → ∀ y, Succ P C (who P C t) x y → ∃ i, i < n' ∧ L' i = 100 * (t + 1) + y) := by
  have h5 := w.1
  have h99 := w.2.1
  have h6 := turns_le C w
  have hw := who_lt wc ht
  have h3 := (w.2.2.2 _ hw).2.2.1
  unfold f5_openBehind
  obtain ⟨σ1, n1, L1, u1, u2, u3⟩ := grow_1 (t := t) w hO hm h8 ht (bh_le (C := C) hx)
  rw [whoIn_g rp rc w wc ht, bd_s, wb_g rp rc w wc (by omega), bd_s, nI_1, u1, bd_s]
  unfold f5_openBehind_27
  obtain ⟨r, p1, n', L', p2, p3⟩ := wl_fuel (body := fun k27 p => f5_openBehind_27_b k27 (nI t) (nI x) (nI (who P C t)) p.1 p.2) (fun p : Int32 × HS => ∃ (q n2 : Nat) (L2 : Nat → Nat), q ≤ pw P (who P C t) ∧ p.1 = nI q ∧ Grow P C t σ mk n L p.2 n2 L2 ∧ (t + 1 < turnsN P C → ∀ y, (y = bh P C x ∨ ∃ q', q' < q ∧ pl P (3 * who P C t + q') ≤ x ∧ y = bh P C (x - pl P (3 * who P C t + q'))) → ∃ i, i < n2 ∧ L2 i = 100 * (t + 1) + y)) (fun p => 10 - p.1.toNatClampNeg) (fun r : HS => ∃ (n' : Nat) (L' : Nat → Nat), Grow P C t σ mk n L r n' L' ∧ (t + 1 < turnsN P C → ∀ y, Succ P C (who P C t) x y → ∃ i, i < n' ∧ L' i = 100 * (t + 1) + y)) (0, σ1) ⟨0, n1, L1, by omega, rfl, u2, fun h y hy => by
      rcases hy with rfl | ⟨q', h1, _⟩
      · exact u3 h
      · omega⟩ (by show 10 - _ < _; omega) (by
    rintro k2 ⟨x4, σ2⟩ ⟨q, n2, L2, hq, e, g1, g2⟩ ih
    have e : x4 = nI q := e
    subst e
    have g1 : Grow P C t σ mk n L σ2 n2 L2 := g1
    dsimp only
    unfold f5_openBehind_27_b f5_openBehind_82
    have rp2 := g1.1.rp (by omega) rp
    have rc2 := g1.1.rc rc
    have h82 : σ2.1 32 8 = nI (turnsN P C) := by rw [g1.1.2.2 8 (by omega)]; exact h8
    rw [wordsOf_5 rp2 w hw, bd_s]
    by_cases c : pw P (who P C t) ≤ q
    · have : q = pw P (who P C t) := by omega
      subst this
      rw [if_pos (nI_le c (by omega))]
      exact ⟨_, rfl, n2, L2, g1, g2⟩
    · have hl := (w.2.2.2 _ hw).2.2.2 q (by omega)
      rw [if_neg (nI_ge (by omega) (by omega)), if_neg (show ¬ (3 : Int32) ≤ nI q from nI_ge (b := 3) (by omega) (by omega)), lengthOf_5 rp2 w hw (by omega), bd_s]
      dsimp only
      by_cases cl : pl P (3 * who P C t + q) ≤ x
      · obtain ⟨σ3, n3, L3, v1, v2, v3⟩ := grow_1 (t := t) w g1.2.1 hm h82 ht (bh_le (C := C) (show x - pl P (3 * who P C t + q) ≤ pj P by omega))
        rw [if_neg (nI_nlt cl (by omega)), pk_sub cl, wb_g rp2 rc2 w wc (by omega), bd_s, nI_1, v1, bd_s, nI_1]
        refine ih _ ⟨q + 1, n3, L3, by omega, rfl, g1.tr v2, fun h y hy => ?_⟩ ?_
        · have old : ∀ y, (y = bh P C x ∨ ∃ q', q' < q ∧ pl P (3 * who P C t + q') ≤ x ∧ y = bh P C (x - pl P (3 * who P C t + q'))) → ∃ i, i < n3 ∧ L3 i = 100 * (t + 1) + y := fun y hy => by
            obtain ⟨i, hi, ei⟩ := g2 h y hy
            have := v2.2.2.1
            exact ⟨i, by omega, by rw [v2.2.2.2.1 i hi]; exact ei⟩
          rcases hy with z | ⟨q', h1, h2, z⟩
          · exact old y (Or.inl z)
          · by_cases cq : q' = q
            · subst cq; rw [z]; exact v3 h
            · exact old y (Or.inr ⟨q', by omega, h2, z⟩)
        · show 10 - (nI (q + 1)).toNatClampNeg < 10 - (nI q).toNatClampNeg
          rw [nI_clamp (by omega), nI_clamp (by omega)]; omega
      · rw [if_pos (nI_lt (by omega) (by omega)), nI_1]
        refine ih _ ⟨q + 1, n2, L2, by omega, rfl, g1, fun h y hy => g2 h y ?_⟩ ?_
        · rcases hy with z | ⟨q', h1, h2, z⟩
          · exact Or.inl z
          · exact Or.inr ⟨q', by by_cases cq : q' = q; (subst cq; exact absurd h2 cl); omega, h2, z⟩
        · show 10 - (nI (q + 1)).toNatClampNeg < 10 - (nI q).toNatClampNeg
          rw [nI_clamp (by omega), nI_clamp (by omega)]; omega)
  exact ⟨r, n', L', p1, p2, p3⟩
theorem reach_c {P : PP} {C : CC} {σ : HS} {m : Nat} (rp : RepP σ P) (rc : RepC σ 30 P C) (w : WfP P) (wc : WfC P C) (hm : MkAt σ 30 m) (hb : m < 900000) (hT : 0 < turnsN P C) : ∃ (σ' : HS) (mk n : Nat) (L : Nat → Nat), f5_openWhatIsReached σ = some σ' ∧ mk ≤ m + 1 ∧ OpenInv σ' 30 mk n L ∧ σ'.1 32 8 = nI (turnsN P C) ∧ Closed P C n L ∧ (∃ k, k < n ∧ L k = fw P C) ∧ (∀ b, b ≠ 32 → b ≠ 35 → b ≠ 36 → σ'.1 b = σ.1 b) ∧ σ'.2 = σ.2 := by
  have h5 := w.1
  have h99 := w.2.1
  have h6 := turns_le C w
  unfold f5_openWhatIsReached
  obtain ⟨σ0, a, ha, q1, q2, q3, q4, q5, q6⟩ := beginMk (by omega) rp rc w wc hm
  have rp0 : RepP σ0 P := rp.congr (fun x z1 z2 => ⟨q4 x (by omega), by rw [q5]⟩)
  have rc0 : RepC σ0 30 P C := rc.congr (q4 30 (by omega)) (q4 31 (by omega))
  have hf := fw_le (P := P) (C := C)
  obtain ⟨σ1, n1, L1, u1, u2, u3, u4, u5, u6, u7, u8⟩ := open_c (g := 30) (t := 0) (x := fw P C) (T := turnsN P C) q2 (by omega) q3 h6 (by omega) (by omega)
  have u1 : f5_openState 30 0 (nI (fw P C)) σ0 = some σ1 := u1
  rw [q1, bd_s, fw_g rp0 rc0 w wc, bd_s, u1, bd_s]
  unfold f5_openWhatIsReached_18
  obtain ⟨r, p1, n', L', p2, p3, p4, p5, p6⟩ := wl_fuel (body := fun k18 p => f5_openWhatIsReached_18_b k18 p.1 p.2) (fun p : Int32 × HS => ∃ (i n2 : Nat) (L2 : Nat → Nat), i ≤ n2 ∧ p.1 = nI i ∧ FrP 30 σ0 p.2 ∧ OpenInv p.2 30 (a + 1) n2 L2 ∧ (∀ k, k < n2 → L2 k / 100 < turnsN P C ∧ L2 k % 100 ≤ pj P) ∧ (∀ k l, k ≤ l → l < n2 → L2 k / 100 ≤ L2 l / 100) ∧ (∀ k, k < n2 → i < n2 → L2 k / 100 ≤ L2 i / 100 + 1) ∧ (∃ k, k < n2 ∧ L2 k = fw P C) ∧ ∀ k, k < i → L2 k / 100 + 1 < turnsN P C → ∀ y, Succ P C (who P C (L2 k / 100)) (L2 k % 100) y → ∃ l, l < n2 ∧ L2 l = 100 * (L2 k / 100 + 1) + y) (fun p => 700 - p.1.toNatClampNeg) (fun r : HS => ∃ (n : Nat) (L : Nat → Nat), FrP 30 σ0 r ∧ OpenInv r 30 (a + 1) n L ∧ r.1 32 8 = nI (turnsN P C) ∧ Closed P C n L ∧ (∃ k, k < n ∧ L k = fw P C)) (0, σ1) ⟨0, n1, L1, by omega, rfl, u2, u3, fun k hk => by rw [(u8 k (by omega) hk).1]; omega, fun k l _ hl => by rw [(u8 k (by omega) (by omega)).1, (u8 l (by omega) hl).1]; omega, fun k hk h0 => by rw [(u8 k (by omega) hk).1, (u8 0 (by omega) h0).1]; omega, by obtain ⟨k, k1, k2⟩ := u7 hT; exact ⟨k, k1, by rw [k2]; omega⟩, fun k hk => absurd hk (Nat.not_lt_zero k)⟩ (by show 700 - _ < _; omega) (by
    rintro k2 ⟨x1, σ2⟩ ⟨i, n2, L2, hi, e, g1, g2, g3, g4, g5, g6, g7⟩ ih
    have e : x1 = nI i := e
    subst e
    have g1 : FrP 30 σ0 σ2 := g1
    have g2 : OpenInv σ2 30 (a + 1) n2 L2 := g2
    dsimp only
    unfold f5_openWhatIsReached_18_b
    have n6 : n2 ≤ 600 := open_600 (fun i hi => (g2.2.2.1 i hi).2) g2.2.2.2.1
    have h82 : σ2.1 32 8 = nI (turnsN P C) := by rw [g1.2.2 8 (by omega)]; exact q3
    rw [g2.2.1]
    by_cases c : n2 ≤ i
    · have : i = n2 := by omega
      subst this
      rw [if_pos (nI_le c (by omega))]
      exact ⟨_, rfl, i, L2, g1, g2, h82, ⟨g3, g4, g7⟩, g6⟩
    · obtain ⟨l1, l2⟩ := g2.2.2.1 i (by omega)
      obtain ⟨d1, d2⟩ := g3 i (by omega)
      rw [if_neg (nI_ge (by omega) (by omega)), if_neg (show ¬ (600 : Int32) ≤ nI i from nI_ge (b := 600) (by omega) (by omega)), at_in (by omega) (by omega), bd_s, l1]
      dsimp only
      have ed : nI (L2 i) / (100 : Int32) = nI (L2 i / 100) := pk_div (d := 100) (by omega) (by omega) (by omega)
      have em : nI (L2 i) - nI (L2 i) / (100 : Int32) * (100 : Int32) = nI (L2 i % 100) := pk_rem (d := 100) (by omega) (by omega) (by omega)
      obtain ⟨σ3, n3, L3, v1, v2, v3⟩ := behind_c (g1.rp (by omega) rp0) (g1.rc rc0) w wc g2 (by omega) h82 d1 d2
      obtain ⟨y1, y2, y3, y4, y5⟩ := v2
      rw [em, ed, v1, bd_s, nI_1]
      have L3i := y4 i (by omega)
      refine ih _ ⟨i + 1, n3, L3, by omega, rfl, g1.tr y1, y2, fun k hk => ?_, fun k l hkl hl => ?_, fun k hk hi1 => ?_, ?_, fun k hk hT2 y hy => ?_⟩ ?_
      · rcases Nat.lt_or_ge k n2 with z | z
        · rw [y4 k z]; exact g3 k z
        · have := y5 k z hk; omega
      · rcases Nat.lt_or_ge l n2 with z | z
        · rw [y4 k (by omega), y4 l z]; exact g4 k l hkl z
        · have hl5 := y5 l z hl
          rcases Nat.lt_or_ge k n2 with z2 | z2
          · have := g5 k z2 (by omega)
            rw [y4 k z2]; omega
          · have := y5 k z2 (by omega); omega
      · have a1 : L2 i / 100 ≤ L3 (i + 1) / 100 := by
          rcases Nat.lt_or_ge (i + 1) n2 with z | z
          · rw [y4 (i + 1) z]; exact g4 i (i + 1) (by omega) z
          · have := y5 (i + 1) z hi1; omega
        rcases Nat.lt_or_ge k n2 with z | z
        · have := g5 k z (by omega)
          rw [y4 k z]; omega
        · have := y5 k z hk; omega
      · obtain ⟨k, k1, k2⟩ := g6
        exact ⟨k, by omega, by rw [y4 k k1]; exact k2⟩
      · by_cases ck : k = i
        · subst ck
          rw [L3i] at hT2 hy ⊢
          exact v3 hT2 y hy
        · have e4 := y4 k (by omega)
          rw [e4] at hT2 hy ⊢
          obtain ⟨l, l3, l4⟩ := g7 k (by omega) hT2 y hy
          exact ⟨l, by omega, by rw [y4 l l3]; exact l4⟩
      · show 700 - (nI (i + 1)).toNatClampNeg < 700 - (nI i).toNatClampNeg
        rw [nI_clamp (by omega), nI_clamp (by omega)]; omega)
  refine ⟨r, a + 1, n', L', p1, by omega, p3, p4, p5, p6, fun b b1 b2 b3 => ?_, ?_⟩
  · rw [p2.1 b (by omega) (by omega) (by omega), q4 b (by omega)]
  · rw [p2.2.1, q5]
def saidM (m : Nat) (P : PP) (C : CC) (t x : Nat) : Nat := (plan m P C (turnsN P C - t) x).1
theorem saidM_ok (m : Nat) {P : PP} {C : CC} (w : WfP P) (wc : WfC P C) {t x : Nat} (ht : t < turnsN P C) : saidM m P C t x = 9 ∨ (saidM m P C t x < pw P (who P C t) ∧ pl P (3 * who P C t + saidM m P C t x) ≤ x) := by
  have := (plan_b (m := m) w wc (turnsN P C - t) x (by omega)).2.2 (by omega)
  rw [show turnsN P C - (turnsN P C - t) = t by omega] at this
  have nl := nWords_le m P (who P C t)
  unfold saidM
  omega
theorem saidM_SaidOk (m : Nat) {P : PP} {C : CC} (w : WfP P) (wc : WfC P C) : SaidOk P C (saidM m P C) := fun t x ht _ => by
  have := saidM_ok m w wc (x := x) ht
  omega
/-- what a heard or silent turn leaves is what can come behind -/
theorem step_succ (m : Nat) {P : PP} {C : CC} (w : WfP P) (wc : WfC P C) {t : Nat} (ht : t < turnsN P C) : Succ P C (who P C t) (dday P C (saidM m P C) t).1 (dday P C (saidM m P C) (t + 1)).1 := by
  have h := saidM_ok m w wc (x := (dday P C (saidM m P C) t).1) ht
  show Succ P C _ _ (dstep P C t (saidM m P C t (dday P C (saidM m P C) t).1) (dday P C (saidM m P C) t)).1
  unfold dstep
  rcases h with h | ⟨h1, h2⟩
  · rw [if_pos h]; exact Or.inl rfl
  · have hw := (w.2.2.2 _ (who_lt wc ht)).2.2.1
    rw [if_neg (by omega), if_pos h2]; exact Or.inr ⟨_, h1, h2, rfl⟩
theorem walk_in (m : Nat) {P : PP} {C : CC} (w : WfP P) (wc : WfC P C) {n : Nat} {L : Nat → Nat} (hC : Closed P C n L) (h0 : ∃ k, k < n ∧ L k = fw P C) : ∀ t, t < turnsN P C → ∃ k, k < n ∧ L k = 100 * t + (dday P C (saidM m P C) t).1 := by
  have h99 := w.2.1
  intro t
  induction t with
  | zero => intro _; obtain ⟨k, k1, k2⟩ := h0; exact ⟨k, k1, by rw [k2]; show fw P C = _; simp [dday]⟩
  | succ t ih =>
    intro ht
    obtain ⟨k, k1, k2⟩ := ih (by omega)
    have ok := (dok w wc (saidM_SaidOk m w wc) t (by omega)).1
    have e1 : L k / 100 = t := by rw [k2]; omega
    have e2 : L k % 100 = (dday P C (saidM m P C) t).1 := by rw [k2]; omega
    have := hC.2.2 k k1 (by rw [e1]; exact ht) _ (by rw [e1, e2]; exact step_succ m w wc (by omega))
    rw [e1] at this
    exact this
def Fr30 (σ σ' : HS) : Prop := ∀ b, (b < 32 ∨ 40 ≤ b) → σ'.1 b = σ.1 b ∧ σ'.2 b = σ.2 b
theorem Fr30.tr {a b c : HS} (h : Fr30 a b) (h2 : Fr30 b c) : Fr30 a c := fun x hx => ⟨(h2 x hx).1.trans (h x hx).1, (h2 x hx).2.trans (h x hx).2⟩
theorem Fr30.rp {a b : HS} (h : Fr30 a b) {P : PP} (r : RepP a P) : RepP b P := r.congr (fun x z1 z2 => h x (by omega))
theorem Fr30.rc {a b : HS} (h : Fr30 a b) {P : PP} {C : CC} (r : RepC a 30 P C) : RepC b 30 P C := r.congr (h 30 (by omega)).1 (h 31 (by omega)).1
theorem made_c {P : PP} {C : CC} {σ : HS} {m mm : Nat} (rp : RepP σ P) (rc : RepC σ 30 P C) (w : WfP P) (wc : WfC P C) (hm : m = 0 ∨ m = 1) (hk : MkAt σ 30 mm) (hb : mm < 900000) (hT : 0 < turnsN P C) : ∃ σ', (bd (f5_openWhatIsReached σ) fun r1 => bd (f5_settleAll 30 (nI m) r1) fun r2 => some r2) = some σ' ∧ Fr30 σ σ' ∧ MkAt σ' 30 (mm + 1) ∧ ∀ t, t < turnsN P C → σ'.1 33 (100 * t + (dday P C (saidM m P C) t).1) = cd (saidM m P C t (dday P C (saidM m P C) t).1) := by
  have h99 := w.2.1
  have h6 := turns_le C w
  obtain ⟨σ1, mk, n, L, q1, q2, q3, q4, q5, q6, q7, q8⟩ := reach_c rp rc w wc hk hb hT
  obtain ⟨σ2, v1, v2, v3, v4⟩ := settleAll_c (g := 30) (m := m) (by omega) (rp.congr (fun x z1 z2 => ⟨q7 x (by omega) (by omega) (by omega), by rw [q8]⟩)) (rc.congr (q7 30 (by omega) (by omega) (by omega)) (q7 31 (by omega) (by omega) (by omega))) w wc hm q3 q4 q5
  rw [q1, bd_s, v1, bd_s]
  refine ⟨σ2, rfl, fun b hb => ⟨by rw [v2 b (by omega), q7 b (by omega) (by omega) (by omega)], by rw [v3 b (by omega), q8]⟩, (q3.mk.congr (by rw [v2 _ (by omega)]) (v2 _ (by omega))).mono q2, fun t ht => ?_⟩
  obtain ⟨k, k1, k2⟩ := walk_in m w wc q5 q6 t ht
  have ok := (dok w wc (saidM_SaidOk m w wc) t (by omega)).1
  have := (v4 k k1).1
  rw [k2, show (100 * t + (dday P C (saidM m P C) t).1) / 100 = t by omega, show (100 * t + (dday P C (saidM m P C) t).1) % 100 = (dday P C (saidM m P C) t).1 by omega] at this
  exact this
theorem free30 {P : PP} {C : CC} {σ : HS} {m : Nat} (rp : RepP σ P) (rc : RepC σ 30 P C) (w : WfP P) (wc : WfC P C) (hE : ∀ t, t < turnsN P C → σ.1 33 (100 * t + (dday P C (saidM m P C) t).1) = cd (saidM m P C t (dday P C (saidM m P C) t).1)) : ∃ σ', f1_goFreely 30 σ = some σ' ∧ FrC 30 σ σ' ∧ DayC σ' 30 P C (saidM m P C) (turnsN P C) := by
  have h6 := turns_le C w
  obtain ⟨σ', q1, q2, q3⟩ := go_c (g := 30) (x1 := -1) (c := 9) (by omega) rp rc w wc (saidM_SaidOk m w wc) (fun t ht _ => hE t ht) (fun t ht e => absurd e (m1_ne t (by omega)))
  rw [cd_9] at q1
  unfold f1_goFreely
  rw [q1, bd_s]
  exact ⟨σ', rfl, q2, q3⟩
theorem FrC.f30 {a b : HS} (h : FrC 30 a b) : Fr30 a b := fun x hx => ⟨h.1 x (by omega) (by omega) (by omega), h.2 x (by omega)⟩
theorem FrC.mk30 {a b : HS} (h : FrC 30 a b) {m : Nat} (k : MkAt a 30 m) : MkAt b 30 m := k.congr (by rw [h.1 32 (by omega) (by omega) (by omega)]) (h.1 36 (by omega) (by omega) (by omega))
/-- the other course follows the first -/
theorem follow_c {σ : HS} {P : PP} {C : CC} (rc : RepC σ 20 P C) (w : WfP P) : ∃ σ', f0_follow σ = some σ' ∧ RepC σ' 30 P C ∧ (∀ b, b ≠ 30 → b ≠ 31 → σ'.1 b = σ.1 b) ∧ σ'.2 = σ.2 := by
  have h5 := w.1
  unfold f0_follow f0_follow_18
  obtain ⟨r, p1, p2, p3, p4, p5⟩ := wl_fuel (body := fun k18 p => f0_follow_18_b k18 p.1 p.2) (fun p : Int32 × HS => ∃ i, i ≤ 5 ∧ p.1 = nI i ∧ (∀ b, b ≠ 30 → b ≠ 31 → p.2.1 b = σ.1 b) ∧ p.2.2 = σ.2 ∧ (p.2.1 30 2 = nI (cw C) ∧ p.2.1 30 3 = nI (cl C)) ∧ ∀ x, x < i → x < pn P → p.2.1 31 x = nI (co C x)) (fun p => 10 - p.1.toNatClampNeg) (fun r : HS => (∀ b, b ≠ 30 → b ≠ 31 → r.1 b = σ.1 b) ∧ r.2 = σ.2 ∧ (r.1 30 2 = nI (cw C) ∧ r.1 30 3 = nI (cl C)) ∧ ∀ x, x < pn P → r.1 31 x = nI (co C x)) (0, uI (uI σ 30 2 (σ.1 20 2)) 30 3 ((uI σ 30 2 (σ.1 20 2)).1 20 3)) ⟨0, by omega, rfl, fun b b1 b2 => by show (uI (uI σ _ _ _) _ _ _).1 b = _; rw [uI_other b1, uI_other b1], rfl, ⟨by rw [rc.1]; simp [uI_at], by simp [uI_at]; exact rc.2.1⟩, fun x hx => absurd hx (Nat.not_lt_zero x)⟩ (by show 10 - _ < _; omega) (by
    rintro kk ⟨x2, σ2⟩ ⟨i, hi, e, g1, g2, g3, g4⟩ ih
    have e : x2 = nI i := e
    subst e
    have g1 : ∀ b, b ≠ 30 → b ≠ 31 → σ2.1 b = σ.1 b := g1
    have g3 : σ2.1 30 2 = nI (cw C) ∧ σ2.1 30 3 = nI (cl C) := g3
    have g4 : ∀ x, x < i → x < pn P → σ2.1 31 x = nI (co C x) := g4
    dsimp only
    unfold f0_follow_18_b f0_whoAt
    by_cases c : 5 ≤ i
    · rw [if_pos (show (5 : Int32) ≤ nI i from nI_le c (by omega))]
      exact ⟨_, rfl, g1, g2, g3, fun x hx => g4 x (by omega) hx⟩
    · rw [if_neg (show ¬ (5 : Int32) ≤ nI i from nI_ge (b := 5) (by omega) (by omega)), at_in (by omega) (by omega), bd_s, bd_s, set_in (by omega) (by omega), bd_s, nI_1]
      refine ih _ ⟨i + 1, by omega, rfl, fun b b1 b2 => by show (uI σ2 31 _ _).1 b = _; rw [uI_other b2]; exact g1 b b1 b2, g2, ⟨by show (uI σ2 31 _ _).1 30 2 = _; rw [uI_other (by omega)]; exact g3.1, by show (uI σ2 31 _ _).1 30 3 = _; rw [uI_other (by omega)]; exact g3.2⟩, fun x hx hxn => ?_⟩ ?_
      · show (uI σ2 31 i (σ2.1 21 i)).1 31 x = _
        rw [uI_at]
        by_cases c1 : x = i
        · rw [if_pos ⟨rfl, c1⟩, ← c1, g1 21 (by omega) (by omega)]; exact rc.2.2 x hxn
        · rw [if_neg (fun z => c1 z.2)]; exact g4 x (by omega) hxn
      · show 10 - (nI (i + 1)).toNatClampNeg < 10 - (nI i).toNatClampNeg
        rw [nI_clamp (by omega), nI_clamp (by omega)]; omega)
  exact ⟨r, p1, ⟨p4.1, p4.2, p5⟩, p2, p3⟩
