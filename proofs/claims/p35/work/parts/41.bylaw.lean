/-! byLaw -/
theorem InvB.f30 {j j2 : Nat} {σ τ σ' τ' : HS} {P : PP} {C : CC} (h : InvB j σ τ P C) (hj : j ≤ j2) (f : ∀ b, (b < 30 ∨ 40 ≤ b) → σ'.1 b = σ.1 b ∧ σ'.2 b = σ.2 b) (mk : MkAt σ' 30 (200 * j2)) (t : ∀ a, (1 ≤ a ∧ a ≤ 6) ∨ (19 ≤ a ∧ a ≤ 23) → τ'.1 a = τ.1 a) (t0 : ∀ y, y ≠ 23 → y ≠ 24 → τ'.1 0 y = τ.1 0 y) : InvB j2 σ' τ' P C := by
  obtain ⟨a1, a2, a3, a4, a5, a6, a7, a8, a9, b1, b2, b3, b4⟩ := id h
  exact h.mk' (fun a ha => (f a (by omega)).1) (f 11 (by omega)).2 ⟨by rw [(f 0 (by omega)).1], by rw [(f 0 (by omega)).1]⟩ (a8.congr (by rw [(f 0 (by omega)).1]) (f 23 (by omega)).1 (f 24 (by omega)).2) (a9.congr (by rw [(f 44 (by omega)).1]) (f 45 (by omega)).1 (f 46 (by omega)).1) ((b1.congr (by rw [(f 22 (by omega)).1]) (f 26 (by omega)).1).mono (by omega)) mk t t0
def F30 (σ σ' : HS) : Prop := ∀ b, (b < 30 ∨ 40 ≤ b) → σ'.1 b = σ.1 b ∧ σ'.2 b = σ.2 b
theorem F30.tr {a b c : HS} (h : F30 a b) (h2 : F30 b c) : F30 a c := fun x hx => ⟨(h2 x hx).1.trans (h x hx).1, (h2 x hx).2.trans (h x hx).2⟩
theorem F30.rfl' (a : HS) : F30 a a := fun _ _ => ⟨rfl, rfl⟩
theorem F30.rp {a b : HS} (h : F30 a b) {P : PP} (r : RepP a P) : RepP b P := r.congr (fun x z1 z2 => h x (by omega))
theorem F30.rc {a b : HS} (h : F30 a b) {P : PP} {C : CC} (r : RepC a 20 P C) : RepC b 20 P C := r.congr (h 20 (by omega)).1 (h 21 (by omega)).1
theorem turns_pos {P : PP} {C : CC} (h : 0 < pn P) : 0 < turnsN P C := by unfold turnsN; split <;> omega
theorem under_c {σ : HS} {P : PP} {C : CC} {m L : Nat} (rp : RepP σ P) (rc : RepC σ 20 P C) (w : WfP P) (wc : WfC P C) (hL : L ≤ 3) (hk : MkAt σ 30 m) (hb : m < 900000) (hn : 0 < pn P) : ∃ σ', f8_worthUnder (nI L) σ = some (nI (sumW (dday P (L, cl C, co C) (saidM 0 P (L, cl C, co C)) (turnsN P (L, cl C, co C))).2.2.2 5), σ') ∧ F30 σ σ' ∧ MkAt σ' 30 (m + 1) := by
  have wc2 : WfC P (L, cl C, co C) := ⟨hL, wc.2.1, fun z => by omega, wc.2.2.2⟩
  obtain ⟨σ1, q1, q2, q3, q4⟩ := follow_c rc w
  unfold f8_worthUnder f5_makeForFreeDay
  rw [q1, bd_s]
  have rp2 : RepP (uI σ1 30 2 (nI L)) P := rp.congr (fun x z1 z2 => ⟨by rw [uI_other (by omega), q3 x (by omega) (by omega)], by rw [uI_2, q4]⟩)
  have rc2 : RepC (uI σ1 30 2 (nI L)) 30 P (L, cl C, co C) := ⟨by simp [uI_at], by simp [uI_at]; exact q2.2.1, fun p hp => by simp [uI_at]; exact q2.2.2 p hp⟩
  have mk2 : MkAt (uI σ1 30 2 (nI L)) 30 m := hk.congr (by rw [uI_other (by omega), q3 32 (by omega) (by omega)]) (by rw [uI_other (by omega), q3 36 (by omega) (by omega)])
  obtain ⟨σ2, r1, r2, r3, r4⟩ := made_c (m := 0) rp2 rc2 w wc2 (Or.inl rfl) mk2 hb (turns_pos hn)
  have r1 : (bd (f5_openWhatIsReached (uI σ1 30 2 (nI L))) fun r1 => bd (f5_settleAll 30 0 r1) fun r2 => some r2) = some σ2 := r1
  obtain ⟨σ3, s1, s2, s3⟩ := free30 (r2.rp rp2) (r2.rc rc2) w wc2 r4
  have wl := worth_lt w wc2 (saidM_SaidOk 0 w wc2) (Nat.le_refl _)
  rw [r1, bd_s, s1, bd_s, s3.2.2.2.2.1, toAll_c (fun i _ => by have := wl i; omega), bd_s]
  refine ⟨σ3, rfl, fun b hb => ⟨?_, ?_⟩, s2.mk30 r3⟩
  · rw [(s2.f30 b (by omega)).1, (r2 b (by omega)).1, uI_other (by omega), q3 b (by omega) (by omega)]
  · rw [(s2.f30 b (by omega)).2, (r2 b (by omega)).2, uI_2, q4]
theorem toAllM {τ : HS} {P : PP} {V : Nat → Nat} (h1 : τ.1 0 1 = nI (pn P)) (w : WfP P) (hV : ∀ j, j < pn P → τ.1 14 j = nI (V j)) (hz : ∀ j, pn P ≤ j → V j = 0) : f9_worthToAll τ = some (nI (sumW V 5), τ) := by
  have h5 := w.1
  rw [sumW_z V (pn P) hz 5 h5]
  unfold f9_worthToAll f9_worthToAll_4
  refine wl_eq (fun q : Int32 × Int32 × HS => ∃ i, i ≤ pn P ∧ q = (nI (sumW V i), nI i, τ)) (fun q => 10 - q.2.1.toNatClampNeg) _ _ ⟨0, by omega, rfl⟩ (by show 10 - _ < _; omega) ?_
  rintro k2 _ ⟨i, hi, rfl⟩ ih
  show f9_worthToAll_4_b k2 (nI (sumW V i)) (nI i) τ = _
  unfold f9_worthToAll_4_b
  rw [h1]
  by_cases c : pn P ≤ i
  · have : i = pn P := by omega
    subst this
    rw [if_pos (nI_le c (by omega))]
  · rw [if_neg (nI_ge (by omega) (by omega)), ix_in (by omega) (by omega), nI_clamp (by omega), hV i (by omega), nI_add, nI_1]
    refine ih _ ⟨i + 1, by omega, rfl⟩ ?_
    show 10 - (nI (i + 1)).toNatClampNeg < 10 - (nI i).toNatClampNeg
    rw [nI_clamp (by omega), nI_clamp (by omega)]; omega
def FB (τ τ' : HS) : Prop := (∀ a, (1 ≤ a ∧ a ≤ 6) ∨ (19 ≤ a ∧ a ≤ 23) → τ'.1 a = τ.1 a) ∧ ∀ y, y ≠ 23 → y ≠ 24 → τ'.1 0 y = τ.1 0 y
theorem FB.tr {a b c : HS} (h : FB a b) (h2 : FB b c) : FB a c := ⟨fun x hx => (h2.1 x hx).trans (h.1 x hx), fun y h1 h3 => (h2.2 y h1 h3).trans (h.2 y h1 h3)⟩
theorem FB.rfl' (a : HS) : FB a a := ⟨fun _ _ => rfl, fun _ _ _ => rfl⟩
theorem FB.rm {a b : HS} (h : FB a b) {P : PP} {C : CC} (r : RepM a P C) : RepM b P C := r.congr ⟨h.2 1 (by omega) (by omega), h.2 2 (by omega) (by omega), h.2 3 (by omega) (by omega), h.2 4 (by omega) (by omega)⟩ (fun x z1 z2 => h.1 x (by omega))
theorem FrM.fb {a b : HS} (h : FrM a b) : FB a b := ⟨fun x hx => h.1 x (by omega) (by omega) (by omega) (by omega), h.2⟩
theorem FrL.fb {a b : HS} (h : FrL a b) : FB a b := ⟨fun x hx => h x (by omega) (by omega), fun y _ _ => by rw [h 0 (by omega) (by omega)]⟩
theorem by_m {τ : HS} {P : PP} {C : CC} {L : Nat} (rm : RepM τ P C) (w : WfP P) (wc : WfC P C) (hL : L ≤ 3) (hn : 0 < pn P) : ∃ τ', f9_worthBy (nI L) τ = some (nI (sumW (dday P (L, cl C, co C) (saidM 0 P (L, cl C, co C)) (turnsN P (L, cl C, co C))).2.2.2 5), τ') ∧ FB τ τ' := by
  have wc2 : WfC P (L, cl C, co C) := ⟨hL, wc.2.1, fun z => by omega, wc.2.2.2⟩
  have rm2 : RepM (uI τ 0 4 (nI L)) P (L, cl C, co C) := ⟨by simp [uI_at]; exact rm.1, by simp [uI_at]; exact rm.2.1, by simp [uI_at]; exact rm.2.2.1, by simp [uI_at], fun k hk => by simp [uI_at]; exact rm.2.2.2.2.1 k hk, fun p hp => by simp [uI_at]; exact rm.2.2.2.2.2 p hp⟩
  obtain ⟨τ1, τ2, t1, t2, t3, t4, t5⟩ := goFree_m rm2 w wc2
  have fb := t2.fb.tr t3.fb
  unfold f9_worthBy
  rw [t1, bd_s]
  have ok := dok w wc2 (free_ok w wc2) (turnsN P (L, cl C, co C)) (Nat.le_refl _)
  rw [toAllM (V := (dday P (L, cl C, co C) (freeSaid P (L, cl C, co C)) (turnsN P (L, cl C, co C))).2.2.2) (by rw [uI_at, if_neg (by omega)]; exact (fb.rm rm2).1) w (fun j hj => by rw [uI_other (by omega)]; exact t5.2.2.2.1 j hj) ok.2.2.2.2, bd_s]
  refine ⟨_, rfl, fun a ha => ?_, fun y h1 h2 => ?_⟩
  · rw [uI_other (by omega), fb.1 a ha, uI_other (by omega)]
  · rw [uI_at]
    by_cases c : y = 4
    · subst c; simp
    · rw [if_neg (fun z => c z.2), fb.2 y h1 h2, uI_at, if_neg (fun z => c z.2)]
theorem greater_c {a b : Nat} (ha : a < 100000) (hb : b < 100000) (τ : HS) : f9_greater (nI a) (nI b) τ = some (nI (if a ≤ b then b else a), τ) := by
  unfold f9_greater
  by_cases c : a ≤ b
  · rw [if_pos (nI_le c (by omega)), if_pos c]
  · rw [if_neg (nI_ge (by omega) (by omega)), if_neg c]
def lawW (P : PP) (C : CC) (L : Nat) : Nat := sumW (dday P (L, cl C, co C) (saidM 0 P (L, cl C, co C)) (turnsN P (L, cl C, co C))).2.2.2 5
/-- the first law of the most worth, among the first n + 1 -/
def lawBest (P : PP) (C : CC) : Nat → Nat × Nat
  | 0 => (0, lawW P C 0)
  | n + 1 => if lawW P C (n + 1) ≤ (lawBest P C n).2 then lawBest P C n else (n + 1, lawW P C (n + 1))
theorem op_byLaw (j : Nat) (σ τ : HS) (a1 : Int32) (hI : Inv j σ τ) (hj : j < 512) : ∃ (r : Int32) (σ1 τ1 : HS), f8_byLaw a1 σ = some (r, σ1) ∧ f9_byLaw a1 τ = some (r, τ1) ∧ Inv (j + 1) σ1 τ1 := by
  obtain ⟨P, C, hB⟩ := hI
  obtain ⟨w, wc, rp, rc, rm, -, -, -, -, -, mk, -⟩ := id hB
  have h5 := w.1
  unfold f8_byLaw f9_byLaw
  rw [rp.1]
  have lb : ∀ L, L ≤ 3 → 0 < pn P → lawW P C L < 1000 := fun L hL hn => by
    have wc2 : WfC P (L, cl C, co C) := ⟨hL, wc.2.1, fun z => by omega, wc.2.2.2⟩
    have wl := worth_lt w wc2 (saidM_SaidOk 0 w wc2) (Nat.le_refl _)
    unfold lawW
    rw [sumW5]
    have := wl 0
    have := wl 1
    have := wl 2
    have := wl 3
    have := wl 4
    omega
  by_cases c : a1.toInt < -1 ∨ 3 < a1.toInt
  · rw [in_n (by rw [w64]; show _ < (-1 : Int) ∨ (3 : Int) < _; omega), bd_s, if_pos rfl]
    refine ⟨_, _, _, ?_, rfl, P, C, hB.mono⟩
    by_cases c2 : a1 < -1
    · rw [if_pos c2]
    · rw [if_neg c2, if_neg]
      rw [Int32.lt_iff_toInt_lt, tn1] at c2
      rw [Int32.lt_iff_toInt_lt, tp4]
      omega
  · rw [in_y (by rw [w64]; show (-1 : Int) ≤ _; omega) (by rw [w64]; show _ ≤ (3 : Int); omega), bd_s, if_neg n10, if_neg (by rw [Int32.lt_iff_toInt_lt, tn1]; omega), if_pos (by rw [Int32.lt_iff_toInt_lt, tp4]; omega)]
    dsimp only
    rw [rm.1]
    by_cases cn : pn P = 0
    · rw [if_pos (by rw [cn]; rfl), if_pos (by rw [cn]; rfl)]
      exact ⟨_, _, _, rfl, rfl, P, C, hB.mono⟩
    · have hn : 0 < pn P := by omega
      rw [if_neg (nI_ne0 hn (by omega)), if_neg (nI_ne0 hn (by omega))]
      by_cases cm : a1 = -1
      · rw [if_pos (show a1 < 0 by rw [cm]; decide), if_pos (show a1 < 0 by rw [cm]; decide)]
        have lbb : ∀ n, n ≤ 3 → (lawBest P C n).1 ≤ n ∧ (lawBest P C n).2 < 1000 := by
          intro n
          induction n with
          | zero => intro _; exact ⟨Nat.le_refl _, lb 0 (by omega) hn⟩
          | succ n ih =>
            intro hn3
            have := ih (by omega)
            unfold lawBest
            split
            · exact ⟨by omega, this.2⟩
            · exact ⟨Nat.le_refl _, lb _ hn3 hn⟩
        have cl : ∃ σ2, (bd (f8_worthUnder 0 σ) fun r5 => f8_byLaw_47 (0, r5.1, 1, r5.2)) = some (nI (lawBest P C 3).1, σ2) ∧ F30 σ σ2 ∧ MkAt σ2 30 (200 * j + 4) := by
          obtain ⟨σ1, q1, q2, q3⟩ := under_c (L := 0) rp rc w wc (by omega) mk (by omega) hn
          have q1 : f8_worthUnder 0 σ = some (nI (lawW P C 0), σ1) := q1
          rw [q1, bd_s]
          unfold f8_byLaw_47
          obtain ⟨⟨s1, s2⟩, p1, p2, p3⟩ := wl_fuel (body := fun k47 p => f8_byLaw_47_b k47 p.1 p.2.1 p.2.2.1 p.2.2.2) (fun p : Int32 × Int32 × Int32 × HS => ∃ n, n ≤ 3 ∧ p.1 = nI (lawBest P C n).1 ∧ p.2.1 = nI (lawBest P C n).2 ∧ p.2.2.1 = nI (n + 1) ∧ F30 σ p.2.2.2 ∧ MkAt p.2.2.2 30 (200 * j + (n + 1))) (fun p => 10 - p.2.2.1.toNatClampNeg) (fun r : Int32 × HS => r.1 = nI (lawBest P C 3).1 ∧ F30 σ r.2 ∧ MkAt r.2 30 (200 * j + 4)) (0, nI (lawW P C 0), 1, σ1) ⟨0, by omega, rfl, rfl, rfl, q2, q3⟩ (by show 10 - _ < _; omega) (by
            rintro kk ⟨x1, x2, x3, σ2⟩ ⟨n, hn3, e1, e2, e3, g1, g2⟩ ih
            have e1 : x1 = nI (lawBest P C n).1 := e1
            have e2 : x2 = nI (lawBest P C n).2 := e2
            have e3 : x3 = nI (n + 1) := e3
            subst e1 e2 e3
            have g1 : F30 σ σ2 := g1
            have g2 : MkAt σ2 30 (200 * j + (n + 1)) := g2
            dsimp only
            unfold f8_byLaw_47_b f8_byLaw_73
            have := lbb n hn3
            by_cases c : 4 ≤ n + 1
            · have : n = 3 := by omega
              subst this
              rw [if_pos (show (4 : Int32) ≤ nI (3 + 1) by decide)]
              exact ⟨_, rfl, rfl, g1, g2⟩
            · have := lb (n + 1) (by omega) hn
              obtain ⟨σ3, v1, v2, v3⟩ := under_c (L := n + 1) (g1.rp rp) (g1.rc rc) w wc (by omega) g2 (by omega) hn
              have v1 : f8_worthUnder (nI (n + 1)) σ2 = some (nI (lawW P C (n + 1)), σ3) := v1
              rw [if_neg (show ¬ (4 : Int32) ≤ nI (n + 1) from nI_ge (b := 4) (by omega) (by omega)), v1, bd_s, nI_1]
              have go : ∀ z : Nat × Nat, z = lawBest P C (n + 1) → ∃ r, kk (nI z.1, nI z.2, nI (n + 1 + 1), σ3) = some r ∧ r.1 = nI (lawBest P C 3).1 ∧ F30 σ r.2 ∧ MkAt r.2 30 (200 * j + 4) := by
                rintro z rfl
                refine ih _ ⟨n + 1, by omega, rfl, rfl, rfl, g1.tr v2, v3⟩ ?_
                show 10 - (nI (n + 1 + 1)).toNatClampNeg < 10 - (nI (n + 1)).toNatClampNeg
                rw [nI_clamp (by omega), nI_clamp (by omega)]; omega
              by_cases c2 : lawW P C (n + 1) ≤ (lawBest P C n).2
              · rw [if_pos (nI_le c2 (by omega))]
                exact go _ (by rw [lawBest, if_pos c2])
              · rw [if_neg (nI_ge (by omega) (by omega))]
                exact go (n + 1, lawW P C (n + 1)) (by rw [lawBest, if_neg c2]))
          have p2 : s1 = _ := p2
          subst p2
          exact ⟨s2, p1, p3⟩
        have ml : ∃ τ2, f9_byLaw_45 (0, -9, 0, τ) = some (nI (lawBest P C 3).1, τ2) ∧ FB τ τ2 := by
          unfold f9_byLaw_45
          obtain ⟨⟨s1, s2⟩, p1, p2, p3⟩ := wl_fuel (body := fun k45 p => f9_byLaw_45_b k45 p.1 p.2.1 p.2.2.1 p.2.2.2) (fun p : Int32 × Int32 × Int32 × HS => FB τ p.2.2.2 ∧ ((p.1 = 0 ∧ p.2.1 = -9 ∧ p.2.2.1 = 0) ∨ ∃ n, n ≤ 3 ∧ p.1 = nI (lawBest P C n).1 ∧ p.2.1 = nI (lawBest P C n).2 ∧ p.2.2.1 = nI (n + 1))) (fun p => 10 - p.2.2.1.toNatClampNeg) (fun r : Int32 × HS => r.1 = nI (lawBest P C 3).1 ∧ FB τ r.2) (0, -9, 0, τ) ⟨FB.rfl' _, Or.inl ⟨rfl, rfl, rfl⟩⟩ (by show 10 - _ < _; omega) (by
            rintro kk ⟨x1, x2, x3, τ2⟩ ⟨g1, hh⟩ ih
            have g1 : FB τ τ2 := g1
            have hh : (x1 = 0 ∧ x2 = -9 ∧ x3 = 0) ∨ ∃ n, n ≤ 3 ∧ x1 = nI (lawBest P C n).1 ∧ x2 = nI (lawBest P C n).2 ∧ x3 = nI (n + 1) := hh
            dsimp only
            unfold f9_byLaw_45_b f9_byLaw_71
            rcases hh with ⟨rfl, rfl, rfl⟩ | ⟨n, hn3, rfl, rfl, rfl⟩
            · obtain ⟨τ3, v1, v2⟩ := by_m (L := 0) (g1.rm rm) w wc (by omega) hn
              have v1 : f9_worthBy 0 τ2 = some (nI (lawW P C 0), τ3) := v1
              have := lb 0 (by omega) hn
              have e9 : f9_greater (-9) (nI (lawW P C 0)) τ3 = some (nI (lawW P C 0), τ3) := by
                unfold f9_greater
                rw [if_pos (by rw [Int32.le_iff_toInt_le, nI_toInt (by omega), tn9]; omega)]
              rw [if_neg (by decide), v1, bd_s, if_neg (by rw [Int32.le_iff_toInt_le, nI_toInt (by omega), tn9]; omega)]
              dsimp only
              rw [e9, bd_s]
              refine ih _ ⟨g1.tr v2, Or.inr ⟨0, by omega, rfl, rfl, rfl⟩⟩ ?_
              show 10 - ((0 : Int32) + 1).toNatClampNeg < 10 - (0 : Int32).toNatClampNeg
              decide
            · have lb2 := lbb n hn3
              by_cases c : 4 ≤ n + 1
              · have : n = 3 := by omega
                subst this
                rw [if_pos (show (4 : Int32) ≤ nI (3 + 1) by decide)]
                exact ⟨_, rfl, rfl, g1⟩
              · have := lb (n + 1) (by omega) hn
                obtain ⟨τ3, v1, v2⟩ := by_m (L := n + 1) (g1.rm rm) w wc (by omega) hn
                have v1 : f9_worthBy (nI (n + 1)) τ2 = some (nI (lawW P C (n + 1)), τ3) := v1
                rw [if_neg (show ¬ (4 : Int32) ≤ nI (n + 1) from nI_ge (b := 4) (by omega) (by omega)), v1, bd_s, nI_1]
                dsimp only
                rw [greater_c (by omega) (by omega), bd_s]
                have go : ∀ z : Nat × Nat, z = lawBest P C (n + 1) → ∃ r, kk (nI z.1, nI z.2, nI (n + 1 + 1), τ3) = some r ∧ r.1 = nI (lawBest P C 3).1 ∧ FB τ r.2 := by
                  rintro z rfl
                  refine ih _ ⟨g1.tr v2, Or.inr ⟨n + 1, by omega, rfl, rfl, rfl⟩⟩ ?_
                  show 10 - (nI (n + 1 + 1)).toNatClampNeg < 10 - (nI (n + 1)).toNatClampNeg
                  rw [nI_clamp (by omega), nI_clamp (by omega)]; omega
                by_cases c2 : lawW P C (n + 1) ≤ (lawBest P C n).2
                · rw [if_pos (nI_le c2 (by omega))]
                  have : (if (lawBest P C n).2 ≤ lawW P C (n + 1) then lawW P C (n + 1) else (lawBest P C n).2) = (lawBest P C n).2 := by split <;> omega
                  rw [this]
                  exact go _ (by rw [lawBest, if_pos c2])
                · rw [if_neg (nI_ge (by omega) (by omega)), if_pos (by omega)]
                  exact go (n + 1, lawW P C (n + 1)) (by rw [lawBest, if_neg c2]))
          have p2 : s1 = _ := p2
          subst p2
          exact ⟨s2, p1, p3⟩
        obtain ⟨σ2, x1, x2, x3⟩ := cl
        obtain ⟨τ2, y1, y2⟩ := ml
        rw [x1, y1]
        exact ⟨_, _, _, rfl, rfl, P, C, hB.f30 (by omega) x2 (x3.mono (by omega)) y2.1 y2.2⟩
      · rcases arg_n a1 with z | ⟨L, hL, rfl⟩
        · exfalso
          apply cm
          rw [← Int32.toInt_inj, tn1]; omega
        · rw [nI_toInt (by omega)] at c
          obtain ⟨σ1, q1, q2, q3⟩ := under_c (L := L) rp rc w wc (by omega) mk (by omega) hn
          obtain ⟨τ1, v1, v2⟩ := by_m (L := L) rm w wc (by omega) hn
          rw [if_neg (nI_pos (by omega)), if_neg (nI_pos (by omega)), q1, bd_s, v1, bd_s]
          exact ⟨_, _, _, rfl, rfl, P, C, hB.f30 (by omega) q2 (q3.mono (by omega)) v2.1 v2.2⟩
