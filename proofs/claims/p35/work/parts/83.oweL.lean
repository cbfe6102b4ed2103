/-! what he owes, what he is to give, his share; his words, dry -/
theorem i32_sc (a b c : Int32) : a - b - c = a - c - b := by
  rw [Int32.sub_eq_add_neg, Int32.sub_eq_add_neg, Int32.sub_eq_add_neg, Int32.sub_eq_add_neg, Int32.add_assoc, Int32.add_assoc, Int32.add_comm (-b)]
theorem barC {P : PP} {C : CC} (p k l : Nat) : nI (forcedW P C p 9 l) + nI (forcedW P C p 9 k) - nI (freeW P C l) - nI (freeW P C k) = nI (forcedW P C p 9 k) + nI (forcedW P C p 9 l) - nI (freeW P C k) - nI (freeW P C l) := by
  rw [Int32.add_comm, i32_sc]
theorem oweL {sL : Nat} {a0 : Nat → Int32} (k85 : (Nat → Int32) × Int32 × HS × Nat → Option Int32) (k562 : Int32 × HS × Nat → Option Int32) {a2 a3 : Nat → Int32} {x5 x9 : Int32} {a11 a12 a13 a22 a23 : Nat → Int32} {σ τ : HS} {g j : Nat} {P : PP} {C : CC} {k p : Nat} (hL : LwA a2 a3 P C) (hB : PB j σ τ P C) (h13 : DayO a13 P C (freeSaid P C) (turnsN P C)) (hk : k < pn P) (hp : p < pn P) (ep : co C p = k) (h22 : ∀ l, l < pn P → a22 l = nI (forcedW P C p 9 l)) (h23 : ∀ l, l < pn P → a23 l = nI (forcedW P C p (longest P k (freeX P C p) (pw P k)).1 l))
    (hK : ∀ σ', PB j σ' τ P C → g_law_961 sL a0 k85 k562 a2 a3 (nI (pn P)) x5 x9 (nI (turnsN P C)) a11 a12 a13 (nI k) (0, σ', g) = some 1) :
    g_law_779 sL a0 k85 k562 a2 a3 (nI (pn P)) x5 x9 (nI (turnsN P C)) a11 a12 a13 (nI k) (nI (away P C (freeSaid P C) k (turnsN P C))) a22 a23 g (0, σ) = some 1 := by
  have h2 := hL.1
  have h4 := hL.2.1
  obtain ⟨tb1, tb2⟩ := turnsB hL
  obtain ⟨w, wc, rp0, -⟩ := id hB.1
  have h13' : ∀ l, l < pn P → a13 l = nI (freeW P C l) := h13.1
  unfold g_law_779
  refine wl_to (fun s : Int32 × HS => ∃ l, l ≤ pn P ∧ s.1 = nI l ∧ PB j s.2 τ P C) (fun s => 10 - s.1.toNatClampNeg) _ _ ⟨0, by omega, rfl, hB⟩ (by show 10 - _ < _; omega) ?_
  rintro k779 ⟨x24, σ1⟩ ⟨l, hl, e1, e2⟩ ih
  have e1 : x24 = nI l := e1
  subst e1
  have e2 : PB j σ1 τ P C := e2
  dsimp only
  unfold g_law_779_b
  by_cases c : pn P ≤ l
  · obtain ⟨σ2, s1, s2⟩ := share_p e2 hk (x := 0) (by omega)
    obtain ⟨σ3, s3, s4⟩ := share_p s2 hk (x := 1) (by omega)
    have al := away_le w wc (free_ok w wc) k (turnsN P C) (Nat.le_refl _)
    have j99 := w.2.1
    have j1 : 1 ≤ pj P := by rcases w.2.2.1 with z | z <;> omega
    generalize away P C (freeSaid P C) k (turnsN P C) = A at al s1 s3
    have s1 : f8_share (nI k) 0 σ1 = some (lN (A / Nat.gcd A (pj P)), σ2) := s1
    have s3 : f8_share (nI k) 1 σ2 = some (lN (pj P / Nat.gcd A (pj P)), σ3) := s3
    have d1 := Nat.gcd_dvd_left A (pj P)
    have d2 := Nat.gcd_dvd_right A (pj P)
    have dl := Nat.gcd_le_right A (show 0 < pj P by omega)
    have dp : 0 < Nat.gcd A (pj P) := Nat.gcd_pos_of_pos_right A (by omega)
    generalize Nat.gcd A (pj P) = d at s1 s3 d1 d2 dl dp
    have q1 : 1 ≤ pj P / d := Nat.div_pos dl dp
    have q2 := Nat.div_le_self (pj P) d
    have q3 := Nat.div_le_self A d
    have q4 : pj P / (pj P / d) = d := Nat.div_div_self d2 (by omega)
    have q5 : A / d * d = A := Nat.div_mul_cancel d1
    have q6 : pj P % (pj P / d) = 0 := by
      have e : pj P / d * d = pj P := Nat.div_mul_cancel d2
      have e2 := Nat.div_add_mod (pj P) (pj P / d)
      rw [q4] at e2
      omega
    have rp3 : RepP σ3 P := s4.1.2.2.1
    rw [if_pos (nI_le c (by omega)), s1, bd_s]
    dsimp only
    rw [s3, bd_s]
    dsimp only
    rw [if_neg (show ¬ lN (pj P / d) < (1 : Int64) from fun z => by have := (lN_lt (b := 1) (by omega) (by omega)).mp z; omega), if_neg (show ¬ lN (pj P / d) = (0 : Int64) from fun z => by have := (lN_eq (b := 0) (by omega) (by omega)).mp z; omega), ct1, hL.2.2.2.1, nI_l (by omega), pk_lRem (by omega) (by omega) (by omega), q6, if_pos (show lN 0 = 0 from rfl), if_neg (show ¬ lN (pj P / d) = (0 : Int64) from fun z => by have := (lN_eq (b := 0) (by omega) (by omega)).mp z; omega), pk_lDiv (by omega) (by omega) (by omega), q4, lN_mul, q5, nI_l (by omega), if_pos rfl, share_2 rp3 w hk, bd_s, if_pos rfl]
    exact hK σ3 s4
  · have nx : ∀ σ', PB j σ' τ P C → k779 (nI l + 1, σ') = some 1 := by
      intro σ' hσ
      rw [nI_1]
      refine ih _ ⟨l + 1, by omega, rfl, hσ⟩ ?_
      show 10 - (nI (l + 1)).toNatClampNeg < 10 - (nI l).toNatClampNeg
      rw [nI_clamp (by omega), nI_clamp (by omega)]; omega
    rw [if_neg (nI_ge (by omega) (by omega))]
    unfold g_law_811 g_law_850
    by_cases ck : l = k
    · subst ck
      have rp : RepP σ1 P := e2.1.2.2.1
      rw [if_pos rfl, if_pos rfl, owed_n C rp w (Or.inr rfl), bd_s, if_pos rfl]
      dsimp only
      rw [bargain_n C rp w (Or.inr rfl), bd_s, if_pos rfl]
      exact nx σ1 e2
    · have nk : ¬ nI l = nI k := fun z => ck ((nIc (by omega) (by omega)).mp z)
      obtain ⟨σ2, o1, o2⟩ := owed_p e2 (l := l) hk (by omega) (fun z => ck z.symm) hp ep
      obtain ⟨σ3, b1, b2⟩ := bargain_p o2 (l := l) hk (by omega) (fun z => ck z.symm) hp ep
      rw [if_neg nk, ix_in (by omega) (by omega), ix_in (by omega) (by omega), if_neg nk, ix_in (by omega) (by omega), ix_in (by omega) (by omega), ix_in (by omega) (by omega), ix_in (by omega) (by omega), nI_clamp (by omega), nI_clamp (by omega), h22 l (by omega), h22 k hk, h23 l (by omega), h13' l (by omega), h13' k hk, o1, bd_s, if_pos rfl]
      dsimp only
      rw [b1, bd_s, if_pos (congrArg Int32.toInt64 (barC p k l).symm)]
      exact nx σ3 b2
def wcode (m : Nat) : Nat := if m = 0 then 9 else m - 1
def tried (m c : Nat) : Prop := (1 ≤ m ∧ c = 9) ∨ c + 1 < m
theorem dn_up (m : Nat) : dn m + 1 = nI m := by
  cases m with
  | zero => rfl
  | succ m => rw [dn_1, nI_1]
theorem dryL {sL : Nat} {a0 : Nat → Int32} (k85 : (Nat → Int32) × Int32 × HS × Nat → Option Int32) (k562 : Int32 × HS × Nat → Option Int32) (k961 : Int32 × HS × Nat → Option Int32) (k979 : Int32 × Int32 × Nat → Option Int32) {a2 a3 : Nat → Int32} {x4 x5 x9 : Int32} {a11 a12 a13 : Nat → Int32} {σ : HS} {g : Nat} {P : PP} {C : CC} {k q k3 p : Nat} {z : Int32} {b : Nat → Bool} (hL : LwA a2 a3 P C) (w : WfP P) (wc : WfC P C) (hS : LwS a11 a12 P (freeSaid P C) (turnsN P C)) (hk : k < pn P) (hq : q < pw P k) (hk3 : k3 < pn P) (hp : p < pn P) (ep : co C p = k3) (hg : g + 5 < 80000) (hb : b k3 = true ↔ (k3 ≠ k ∧ Silences P C p k q k3 (pw P k3)))
    (hK : ∀ g', g' ≤ g + 5 → k979 (if b k3 = true then z ||| bitN k3 else z, nI k3 + 1, g') = some 1) :
    g_law_1010 sL a0 k85 k562 k961 k979 a2 a3 x4 x5 x9 (nI (turnsN P C)) a11 a12 a13 (nI k) (nI q) (nI k3) (nI p) σ (z, -1, g) = some 1 := by
  have h4 := hL.2.1
  obtain ⟨pt1, pt2⟩ := place_turn (C := C) hp
  have hw := (hL.2.2.2.2.2.2.1 k3 hk3).1
  have w3 := (w.2.2.2 k3 hk3).2.2.1
  have w3k := (w.2.2.2 k hk).2.2.1
  unfold g_law_1010
  refine wl_to (fun s : Int32 × Int32 × Nat => ∃ m, m ≤ pw P k3 + 1 ∧ s.2.1 = dn m ∧ s.2.2 ≤ g + m ∧ ((s.1 = z ∧ ¬ ∃ c, tried m c ∧ ¬ SaidDay P C (forceSaid P C p c) k q (turnsN P C)) ∨ (s.1 = z ||| bitN k3 ∧ k3 ≠ k ∧ ∃ c, tried m c ∧ ¬ SaidDay P C (forceSaid P C p c) k q (turnsN P C)))) (fun s => if s.2.1 < 0 then 10 else 9 - s.2.1.toNatClampNeg) _ _ ⟨0, by omega, rfl, Nat.le_refl _, Or.inl ⟨rfl, fun ⟨c, h, _⟩ => by rcases h with h | h <;> omega⟩⟩ (by show (if (-1 : Int32) < 0 then 10 else _) < _; rw [if_pos m1_neg]; omega) ?_
  rintro k1010 ⟨x29, x32, g1⟩ ⟨m, hm, e1, e2, e3⟩ ih
  have e1 : x32 = dn m := e1
  subst e1
  have e2 : g1 ≤ g + m := e2
  have e3 : (x29 = z ∧ ¬ ∃ c, tried m c ∧ ¬ SaidDay P C (forceSaid P C p c) k q (turnsN P C)) ∨ (x29 = z ||| bitN k3 ∧ k3 ≠ k ∧ ∃ c, tried m c ∧ ¬ SaidDay P C (forceSaid P C p c) k q (turnsN P C)) := e3
  dsimp only
  unfold g_law_1010_b g_law_1082
  rw [le9, ix_in (by omega) (by omega), nI_clamp (by omega), hw]
  by_cases c : m = pw P k3 + 1
  · subst c
    rw [dn_1, if_pos (nI_le (Nat.le_refl _) (by omega))]
    have tr : ∀ c, tried (pw P k3 + 1) c ↔ (c = 9 ∨ c < pw P k3) := fun c => by
      unfold tried; omega
    have sil : Silences P C p k q k3 (pw P k3) ↔ ∃ c, tried (pw P k3 + 1) c ∧ ¬ SaidDay P C (forceSaid P C p c) k q (turnsN P C) := ⟨fun ⟨c, h1, h2⟩ => ⟨c, (tr c).mpr h1, h2⟩, fun ⟨c, h1, h2⟩ => ⟨c, (tr c).mp h1, h2⟩⟩
    have fin : x29 = if b k3 = true then z ||| bitN k3 else z := by
      rcases e3 with ⟨y1, y2⟩ | ⟨y1, y2, y3⟩
      · rw [if_neg (fun h => y2 (sil.mp (hb.mp h).2)), y1]
      · rw [if_pos (hb.mpr ⟨y2, sil.mpr y3⟩), y1]
    rw [fin]
    exact hK g1 (by omega)
  · have ng : ¬ nI (pw P k3) ≤ dn m := by
      cases m with
      | zero => rw [dn_0, Int32.le_iff_toInt_le, tn1, nI_toInt (by omega)]; omega
      | succ m => rw [dn_1]; exact nI_ge (by omega) (by omega)
    rw [if_neg ng]
    by_cases ck : k3 = k
    · subst ck
      rw [if_pos rfl]
      have fin : x29 = if b k3 = true then z ||| bitN k3 else z := by
        rcases e3 with ⟨y1, y2⟩ | ⟨y1, y2, y3⟩
        · rw [if_neg (fun h => (hb.mp h).1 rfl), y1]
        · exact absurd rfl y2
      rw [fin]
      exact hK g1 (by omega)
    · rw [if_neg (fun y => ck ((nIc (by omega) (by omega)).mp y))]
      have run : g_law_1052 sL a0 k85 k562 k961 k979 k1010 a2 a3 x4 x5 x9 (nI (turnsN P C)) a11 a12 a13 (nI k) (nI q) (nI k3) (nI p) (dn m) (cd (wcode m)) (nI p) x29 σ g1 = some 1 := by
        have hc : wcode m = 9 ∨ wcode m < pw P (who P C p) := by
          unfold wcode
          rw [pt2, ep]
          by_cases c0 : m = 0
          · rw [if_pos c0]; exact Or.inl rfl
          · rw [if_neg c0]; right; omega
        obtain ⟨r, r1, -, r2⟩ := butL hL w wc hS pt1 hc
        obtain ⟨v, v1, v2⟩ := saysL hL wc (s := fun t => forceSaid P C p (wcode m) t (dday P C (forceSaid P C p (wcode m)) t).1) (fun t ht => by
          have xle := (dok w wc (force_ok w wc (p := p) (c := wcode m) (fun _ => hc)) t (by omega)).1
          have := force_ok w wc (p := p) (c := wcode m) (fun _ => hc) t _ ht xle
          have w3' := (w.2.2.2 _ (who_lt wc ht)).2.2.1
          omega) r2 hk (q := q) (by omega)
        have v2 : (v = 1 ∧ SaidDay P C (forceSaid P C p (wcode m)) k q (turnsN P C)) ∨ (v = 0 ∧ ¬ SaidDay P C (forceSaid P C p (wcode m)) k q (turnsN P C)) := v2
        unfold g_law_1052 g_law_1073
        rw [r1, bd_s, if_neg (by omega), v1, bd_s, dn_up]
        have tr : ∀ c, tried (m + 1) c ↔ (tried m c ∨ c = wcode m) := fun c => by
          unfold tried wcode
          by_cases c0 : m = 0
          · rw [if_pos c0]; omega
          · rw [if_neg c0]; omega
        have go : ∀ (y : Int32), ((y = z ∧ ¬ ∃ c, tried (m + 1) c ∧ ¬ SaidDay P C (forceSaid P C p c) k q (turnsN P C)) ∨ (y = z ||| bitN k3 ∧ k3 ≠ k ∧ ∃ c, tried (m + 1) c ∧ ¬ SaidDay P C (forceSaid P C p c) k q (turnsN P C))) → k1010 (y, nI m, g1 + 1) = some 1 := by
          intro y hy
          refine ih _ ⟨m + 1, by omega, (dn_1 m).symm, ?_, hy⟩ ?_
          · show g1 + 1 ≤ _; omega
          · show (if nI m < 0 then 10 else 9 - (nI m).toNatClampNeg) < if dn m < 0 then 10 else 9 - (dn m).toNatClampNeg
            rw [if_neg (nI_pos (by omega)), nI_clamp (by omega)]
            cases m with
            | zero => rw [dn_0, if_pos m1_neg]; omega
            | succ m => rw [dn_1, if_neg (nI_pos (by omega)), nI_clamp (by omega)]; omega
        rcases v2 with ⟨rfl, v3⟩ | ⟨rfl, v3⟩
        · rw [if_neg n10, or_0]
          refine go _ ?_
          rcases e3 with ⟨y1, y2⟩ | ⟨y1, y2, c, y3, y4⟩
          · refine Or.inl ⟨y1, fun ⟨c, h1, h3⟩ => ?_⟩
            rcases (tr c).mp h1 with h | h
            · exact y2 ⟨c, h, h3⟩
            · rw [h] at h3; exact h3 v3
          · exact Or.inr ⟨y1, y2, c, (tr c).mpr (Or.inl y3), y4⟩
        · rw [if_pos rfl]
          refine go _ (Or.inr ⟨?_, ck, wcode m, (tr _).mpr (Or.inr rfl), v3⟩)
          rcases e3 with ⟨y1, -⟩ | ⟨y1, -⟩
          · rw [y1]; rfl
          · rw [y1]; exact or_twice z (bitN k3)
      cases m with
      | zero =>
        rw [if_neg (show ¬ (0 : Int32) ≤ dn 0 by decide)]
        exact run
      | succ m =>
        rw [if_pos (show (0 : Int32) ≤ dn (m + 1) from by rw [dn_1]; exact nI_pos' (by omega))]
        have : cd (wcode (m + 1)) = dn (m + 1) := by
          show cd (if m + 1 = 0 then 9 else m + 1 - 1) = _
          rw [if_neg (by omega), cd_z (by omega), dn_1]; rfl
        rw [this] at run
        exact run
