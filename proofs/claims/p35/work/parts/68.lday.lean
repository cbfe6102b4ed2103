/-! days as the law goes through them -/
theorem upN {f : Nat → Int32} {i j : Nat} {x : Int32} (h : j ≠ i) : upd f i x j = f j := if_neg h
theorem upS {f : Nat → Int32} {i : Nat} {x : Int32} : upd f i x i = x := if_pos rfl
theorem cd_neg {c : Nat} (h : c = 9 ∨ c < 3) : (cd c < 0) ↔ c = 9 := by
  rcases h with rfl | h
  · exact ⟨fun _ => rfl, fun _ => by decide⟩
  · rw [cd_z (by omega)]
    exact ⟨fun z => absurd z (nI_pos (by omega)), fun z => by omega⟩
theorem gnLo {P : PP} {k q j : Nat} (hj : j < pn P) : gn P k q j = if j = k then po P (3 * k + q) else pt P (3 * k + q) := if_pos hj
/-- a day from its first turn on, as the law tells it -/
def DayO (r : Nat → Int32) (P : PP) (C : CC) (sd : Nat → Nat → Nat) (T : Nat) : Prop := (∀ j, j < pn P → r j = nI ((dday P C sd T).2.2.2 j)) ∧ ∀ i, i < T → r (6 + i) = cd (sd i (dday P C sd i).1) ∧ r (12 + i) = nI (dday P C sd i).1
def DayD (r : Nat → Int32) (P : PP) (C : CC) (sd : Nat → Nat → Nat) (T : Nat) : Prop := r 1 = cd (dday P C sd T).2.2.1 ∧ r 2 = nI (dday P C sd T).1 ∧ ∀ j, j < pn P → r (3 + j) = nI ((dday P C sd T).2.2.2 j)
section LD
variable {a2 a3 : Nat → Int32} {P : PP} {C : CC}
theorem fromGain (h : LwA a2 a3 P C) (w : WfP P) {k q : Nat} (hk : k < pn P) (hq : q < pw P k) {V : Nat → Nat} {a7 : Nat → Int32} (hV : ∀ j, j < pn P → a7 j = nI (V j)) {Q : (Nat → Int32) → Prop} (a11 a12 : Nat → Int32) (k14 : (Nat → Int32) × Int32 × Int32 → Option (Nat → Int32)) (x4 x6 x8 x9 : Int32)
    (hK : ∀ a' : Nat → Int32, (∀ j, j < pn P → a' j = nI (V j + gn P k q j)) → (∀ i, pn P ≤ i → a' i = a7 i) → ∃ r, g_from_167 a2 a3 a11 a12 k14 x4 x6 a' x8 x9 = some r ∧ Q r) :
    ∃ r, g_from_123 a2 a3 a11 a12 k14 x4 x6 x8 x9 (nI k) (nI (9 * k + 3 * q)) (a7, 0) = some r ∧ Q r := by
  have h3 := (w.2.2.2 k hk).2.2.1
  obtain ⟨h2, h4, e0, e1, e2, e3, hw, -⟩ := h
  obtain ⟨-, hw⟩ := hw k hk
  obtain ⟨-, hw1, hw2⟩ := hw q hq
  unfold g_from_123
  refine wl_fuel (body := fun k123 p => g_from_123_b a2 a3 a11 a12 k14 k123 x4 x6 p.1 x8 x9 (nI k) (nI (9 * k + 3 * q)) p.2) (fun p : (Nat → Int32) × Int32 => ∃ m, m ≤ pn P ∧ p.2 = nI m ∧ (∀ j, j < pn P → p.1 j = nI (V j + if j < m then gn P k q j else 0)) ∧ ∀ i, pn P ≤ i → p.1 i = a7 i) (fun p => 10 - p.2.toNatClampNeg) Q (a7, 0) ⟨0, by omega, rfl, fun j hj => by rw [if_neg (by omega)]; exact hV j hj, fun _ _ => rfl⟩ (by show 10 - _ < _; omega) ?_
  rintro k123 ⟨a, x⟩ ⟨m, hm, e, g1, g2⟩ ih
  have e : x = nI m := e
  subst e
  have g1 : ∀ j, j < pn P → a j = nI (V j + if j < m then gn P k q j else 0) := g1
  have g2 : ∀ i, pn P ≤ i → a i = a7 i := g2
  dsimp only
  unfold g_from_123_b g_from_159
  rw [ct0, e0]
  by_cases c : pn P ≤ m
  · rw [if_pos (nI_le c (by omega))]
    exact hK a (fun j hj => by rw [g1 j hj, if_pos (by omega)]) g2
  · have go : ∀ z : Nat, z = gn P k q m → ∃ r, k123 (upd a m (a m + nI z), nI m + 1) = some r ∧ Q r := by
      rintro z rfl
      rw [nI_1]
      refine ih _ ⟨m + 1, by omega, rfl, fun j hj => ?_, fun i hi => ?_⟩ ?_
      · show upd a m _ j = _
        by_cases cj : j = m
        · subst cj
          rw [upS, g1 j hj, if_neg (by omega), if_pos (by omega), nI_add, Nat.add_zero]
        · rw [upN cj, g1 j hj]
          congr 2
          by_cases cm : j < m
          · rw [if_pos cm, if_pos (by omega)]
          · rw [if_neg cm, if_neg (by omega)]
      · show upd a m _ i = _
        rw [upN (by omega)]; exact g2 i hi
      · show 10 - (nI (m + 1)).toNatClampNeg < 10 - (nI m).toNatClampNeg
        rw [nI_clamp (by omega), nI_clamp (by omega)]; omega
    rw [if_neg (nI_ge (by omega) (by omega)), ix_in (by omega) (by omega), nI_clamp (by omega), nI_1, lr2, ix_in (by omega) (by omega), ix_in (by omega) (by omega), nI_clamp (by omega), nI_clamp (by omega), hw1, hw2, bd_s, bd_s]
    by_cases ck : m = k
    · rw [if_pos (by rw [ck]), ixc (by omega) (by omega)]
      exact go _ (by rw [gnLo (by omega), if_pos ck])
    · rw [if_neg (fun z => ck ((nIc (by omega) (by omega)).mp z)), ixc (by omega) (by omega)]
      exact go _ (by rw [gnLo (by omega), if_neg ck])
theorem butGain (h : LwA a2 a3 P C) (w : WfP P) {k q : Nat} (hk : k < pn P) (hq : q < pw P k) {V : Nat → Nat} {a7 : Nat → Int32} (hV : ∀ j, j < pn P → a7 j = nI (V j)) {Q : (Nat → Int32) → Prop} (a11 a12 : Nat → Int32) (k14 : (Nat → Int32) × Int32 × Int32 → Option (Nat → Int32)) (x4 x6 x8 x9 : Int32)
    (hK : ∀ a' : Nat → Int32, (∀ j, j < pn P → a' j = nI (V j + gn P k q j)) → (∀ i, pn P ≤ i → a' i = a7 i) → ∃ r, g_but_158 a2 a3 a11 a12 k14 x4 x6 a' x8 x9 = some r ∧ Q r) :
    ∃ r, g_but_114 a2 a3 a11 a12 k14 x4 x6 x8 x9 (nI k) (nI (9 * k + 3 * q)) (a7, 0) = some r ∧ Q r := by
  have h3 := (w.2.2.2 k hk).2.2.1
  obtain ⟨h2, h4, e0, e1, e2, e3, hw, -⟩ := h
  obtain ⟨-, hw⟩ := hw k hk
  obtain ⟨-, hw1, hw2⟩ := hw q hq
  unfold g_but_114
  refine wl_fuel (body := fun k123 p => g_but_114_b a2 a3 a11 a12 k14 k123 x4 x6 p.1 x8 x9 (nI k) (nI (9 * k + 3 * q)) p.2) (fun p : (Nat → Int32) × Int32 => ∃ m, m ≤ pn P ∧ p.2 = nI m ∧ (∀ j, j < pn P → p.1 j = nI (V j + if j < m then gn P k q j else 0)) ∧ ∀ i, pn P ≤ i → p.1 i = a7 i) (fun p => 10 - p.2.toNatClampNeg) Q (a7, 0) ⟨0, by omega, rfl, fun j hj => by rw [if_neg (by omega)]; exact hV j hj, fun _ _ => rfl⟩ (by show 10 - _ < _; omega) ?_
  rintro k123 ⟨a, x⟩ ⟨m, hm, e, g1, g2⟩ ih
  have e : x = nI m := e
  subst e
  have g1 : ∀ j, j < pn P → a j = nI (V j + if j < m then gn P k q j else 0) := g1
  have g2 : ∀ i, pn P ≤ i → a i = a7 i := g2
  dsimp only
  unfold g_but_114_b g_but_150
  rw [ct0, e0]
  by_cases c : pn P ≤ m
  · rw [if_pos (nI_le c (by omega))]
    exact hK a (fun j hj => by rw [g1 j hj, if_pos (by omega)]) g2
  · have go : ∀ z : Nat, z = gn P k q m → ∃ r, k123 (upd a m (a m + nI z), nI m + 1) = some r ∧ Q r := by
      rintro z rfl
      rw [nI_1]
      refine ih _ ⟨m + 1, by omega, rfl, fun j hj => ?_, fun i hi => ?_⟩ ?_
      · show upd a m _ j = _
        by_cases cj : j = m
        · subst cj
          rw [upS, g1 j hj, if_neg (by omega), if_pos (by omega), nI_add, Nat.add_zero]
        · rw [upN cj, g1 j hj]
          congr 2
          by_cases cm : j < m
          · rw [if_pos cm, if_pos (by omega)]
          · rw [if_neg cm, if_neg (by omega)]
      · show upd a m _ i = _
        rw [upN (by omega)]; exact g2 i hi
      · show 10 - (nI (m + 1)).toNatClampNeg < 10 - (nI m).toNatClampNeg
        rw [nI_clamp (by omega), nI_clamp (by omega)]; omega
    rw [if_neg (nI_ge (by omega) (by omega)), ix_in (by omega) (by omega), nI_clamp (by omega), nI_1, lr2, ix_in (by omega) (by omega), ix_in (by omega) (by omega), nI_clamp (by omega), nI_clamp (by omega), hw1, hw2, bd_s, bd_s]
    by_cases ck : m = k
    · rw [if_pos (by rw [ck]), ixc (by omega) (by omega)]
      exact go _ (by rw [gnLo (by omega), if_pos ck])
    · rw [if_neg (fun z => ck ((nIc (by omega) (by omega)).mp z)), ixc (by omega) (by omega)]
      exact go _ (by rw [gnLo (by omega), if_neg ck])
theorem dayGain (h : LwA a2 a3 P C) (w : WfP P) {k q : Nat} (hk : k < pn P) (hq : q < pw P k) {V : Nat → Nat} {a7 : Nat → Int32} (hV : ∀ j, j < pn P → a7 (3 + j) = nI (V j)) {Q : (Nat → Int32) → Prop} (a11 : Nat → Int32) (k14 : (Nat → Int32) × Int32 × Int32 → Option (Nat → Int32)) (x3 x4 x8 x9 : Int32)
    (hK : ∀ a' : Nat → Int32, (∀ j, j < pn P → a' (3 + j) = nI (V j + gn P k q j)) → (∀ i, i < 3 → a' i = a7 i) → ∃ r, g_day_189 a2 a3 a11 k14 x3 x4 a' x8 x9 = some r ∧ Q r) :
    ∃ r, g_day_143 a2 a3 a11 k14 x3 x4 x8 x9 (nI k) (nI (9 * k + 3 * q)) (a7, 0) = some r ∧ Q r := by
  have h3 := (w.2.2.2 k hk).2.2.1
  obtain ⟨h2, h4, e0, e1, e2, e3, hw, -⟩ := h
  obtain ⟨-, hw⟩ := hw k hk
  obtain ⟨-, hw1, hw2⟩ := hw q hq
  unfold g_day_143
  refine wl_fuel (body := fun k143 p => g_day_143_b a2 a3 a11 k14 k143 x3 x4 p.1 x8 x9 (nI k) (nI (9 * k + 3 * q)) p.2) (fun p : (Nat → Int32) × Int32 => ∃ m, m ≤ pn P ∧ p.2 = nI m ∧ (∀ j, j < pn P → p.1 (3 + j) = nI (V j + if j < m then gn P k q j else 0)) ∧ ∀ i, i < 3 → p.1 i = a7 i) (fun p => 10 - p.2.toNatClampNeg) Q (a7, 0) ⟨0, by omega, rfl, fun j hj => by rw [if_neg (by omega)]; exact hV j hj, fun _ _ => rfl⟩ (by show 10 - _ < _; omega) ?_
  rintro k143 ⟨a, x⟩ ⟨m, hm, e, g1, g2⟩ ih
  have e : x = nI m := e
  subst e
  have g1 : ∀ j, j < pn P → a (3 + j) = nI (V j + if j < m then gn P k q j else 0) := g1
  have g2 : ∀ i, i < 3 → a i = a7 i := g2
  dsimp only
  unfold g_day_143_b g_day_181
  rw [ct0, e0]
  by_cases c : pn P ≤ m
  · rw [if_pos (nI_le c (by omega))]
    exact hK a (fun j hj => by rw [g1 j hj, if_pos (by omega)]) g2
  · have go : ∀ z : Nat, z = gn P k q m → ∃ r, k143 (upd a (3 + m) (a (3 + m) + nI z), nI m + 1) = some r ∧ Q r := by
      rintro z rfl
      rw [nI_1]
      refine ih _ ⟨m + 1, by omega, rfl, fun j hj => ?_, fun i hi => ?_⟩ ?_
      · show upd a (3 + m) _ (3 + j) = _
        by_cases cj : j = m
        · subst cj
          rw [upS, g1 j hj, if_neg (by omega), if_pos (by omega), nI_add, Nat.add_zero]
        · rw [upN (by omega), g1 j hj]
          congr 2
          by_cases cm : j < m
          · rw [if_pos cm, if_pos (by omega)]
          · rw [if_neg cm, if_neg (by omega)]
      · show upd a (3 + m) _ i = _
        rw [upN (by omega)]; exact g2 i hi
      · show 10 - (nI (m + 1)).toNatClampNeg < 10 - (nI m).toNatClampNeg
        rw [nI_clamp (by omega), nI_clamp (by omega)]; omega
    rw [if_neg (nI_ge (by omega) (by omega)), le3, ix_in (by omega) (by omega), nI_clamp (by omega), nI_1, lr2, ix_in (by omega) (by omega), ix_in (by omega) (by omega), nI_clamp (by omega), nI_clamp (by omega), hw1, hw2, bd_s, bd_s]
    by_cases ck : m = k
    · rw [if_pos (by rw [ck]), ixc (by omega) (by omega)]
      exact go _ (by rw [gnLo (by omega), if_pos ck])
    · rw [if_neg (fun z => ck ((nIc (by omega) (by omega)).mp z)), ixc (by omega) (by omega)]
      exact go _ (by rw [gnLo (by omega), if_neg ck])
theorem fromTurn (h : LwA a2 a3 P C) (w : WfP P) (wc : WfC P C) {sd : Nat → Nat → Nat} (hs : SaidOk P C sd) {t : Nat} (ht : t < turnsN P C) {a : Nat → Int32} (g1 : ∀ j, j < pn P → a j = nI ((dday P C sd t).2.2.2 j)) (g2 : ∀ i, i < t → a (6 + i) = cd (sd i (dday P C sd i).1) ∧ a (12 + i) = nI (dday P C sd i).1) {Q : (Nat → Int32) → Prop} (a11 a12 : Nat → Int32) (k14 : (Nat → Int32) × Int32 × Int32 → Option (Nat → Int32)) (x4 x6 : Int32)
    (hK : ∀ a' : Nat → Int32, (∀ j, j < pn P → a' j = nI ((dday P C sd (t + 1)).2.2.2 j)) → (∀ i, i < t + 1 → a' (6 + i) = cd (sd i (dday P C sd i).1) ∧ a' (12 + i) = nI (dday P C sd i).1) → ∃ r, k14 (a', nI (dday P C sd (t + 1)).1, nI (t + 1)) = some r ∧ Q r) :
    ∃ r, g_from_52 a2 a3 a11 a12 k14 x4 x6 a (nI (dday P C sd t).1) (nI t) (nI (who P C t)) (cd (sd t (dday P C sd t).1)) = some r ∧ Q r := by
  have h99 := w.2.1
  have tb := turnsB h
  have hn4 := h.2.1
  have ok := dok w wc hs t (by omega)
  have hsd := hs t _ ht ok.1
  have hkn := who_lt wc ht
  have h3 := (w.2.2.2 _ hkn).2.2.1
  have hd1 : (dday P C sd (t + 1)) = dstep P C t (sd t (dday P C sd t).1) (dday P C sd t) := rfl
  have d99 : (dday P C sd t).1 ≤ 99 := by have := ok.1; omega
  generalize hW : (dday P C sd t).1 = X at *
  generalize hc : sd t X = c at *
  generalize hk : who P C t = k at *
  -- behind the turn: water left y
  have behind : ∀ (y : Nat) (a' : Nat → Int32), y ≤ 99 → bh P C y = (dday P C sd (t + 1)).1 → (∀ j, j < pn P → a' j = nI ((dday P C sd (t + 1)).2.2.2 j)) → (∀ i, i < t + 1 → a' (6 + i) = cd (sd i (dday P C sd i).1) ∧ a' (12 + i) = nI (dday P C sd i).1) → ∃ r, g_from_167 a2 a3 a11 a12 k14 x4 x6 a' (nI y) (nI t) = some r ∧ Q r := by
    intro y a' hy e1 e2 e3
    unfold g_from_167
    rw [ct2, h.2.2.2.2.1, aheadL h w wc hy wc.2.1, bd_s, nI_1, bhC, e1]
    exact hK a' e2 e3
  unfold g_from_52
  have hw := h.2.2.2.2.2.2.1 k hkn
  rw [le6, ix_in (by omega) (by omega), nI_clamp (by omega), bd_s, le12, ix_in (by omega) (by omega), nI_clamp (by omega), bd_s]
  have u1 : ∀ j, j < pn P → upd (upd a (6 + t) (cd c)) (12 + t) (nI X) j = nI ((dday P C sd t).2.2.2 j) := fun j hj => by
    rw [upN (by omega), upN (by omega)]; exact g1 j hj
  have u2 : ∀ i, i < t + 1 → upd (upd a (6 + t) (cd c)) (12 + t) (nI X) (6 + i) = cd (sd i (dday P C sd i).1) ∧ upd (upd a (6 + t) (cd c)) (12 + t) (nI X) (12 + i) = nI (dday P C sd i).1 := fun i hi => by
    by_cases ci : i = t
    · subst ci
      rw [upN (by omega), upS, upS, hW, hc]
      exact ⟨rfl, rfl⟩
    · rw [upN (by omega), upN (by omega), upN (by omega), upN (by omega)]
      exact g2 i (by omega)
  by_cases c9 : c = 9
  · have e1 : (dday P C sd (t + 1)).1 = bh P C X := by rw [hd1]; unfold dstep; rw [if_pos c9, hW]
    have e2 : (dday P C sd (t + 1)).2.2.2 = (dday P C sd t).2.2.2 := by rw [hd1]; unfold dstep; rw [if_pos c9]
    unfold g_from_106
    rw [if_pos (by rw [c9]; decide), if_pos (by rw [c9]; decide)]
    exact behind X _ d99 e1.symm (fun j hj => by rw [e2]; exact u1 j hj) u2
  · have c3 : c < pw P k := by rcases hsd with z | z <;> omega
    have hl := (w.2.2.2 k hkn).2.2.2 c c3
    obtain ⟨hl1, hl2, hl3⟩ := hw.2 c c3
    rw [cd_z (by omega), if_neg (nI_pos (by omega)), l93, ix_in (by omega) (by omega), nI_clamp (by omega), hl1]
    have hst : dday P C sd (t + 1) = if pl P (3 * k + c) ≤ X then (bh P C (X - pl P (3 * k + c)), (dday P C sd t).2.1 + 1, (dday P C sd t).2.2.1, fun j => (dday P C sd t).2.2.2 j + gn P k c j) else (bh P C 0, (dday P C sd t).2.1, (if (dday P C sd t).2.2.1 = 9 then t else (dday P C sd t).2.2.1), (dday P C sd t).2.2.2) := by
      rw [hd1]; unfold dstep; rw [if_neg c9, hk, hW]
    by_cases cl : pl P (3 * k + c) ≤ X
    · rw [if_pos cl] at hst
      rw [if_pos (nI_le cl (by omega))]
      unfold g_from_106
      rw [if_neg (nI_pos (by omega)), ix_in (by omega) (by omega), nI_clamp (by omega), hl1, pk_sub cl]
      rw [cd_z (by omega)] at u1 u2
      refine fromGain h w hkn c3 u1 a11 a12 k14 x4 x6 _ _ (fun a' q1 q2 => ?_)
      refine behind (X - pl P (3 * k + c)) a' (by omega) (by rw [hst]) (fun j hj => by rw [hst]; exact q1 j hj) (fun i hi => ?_)
      rw [q2 (6 + i) (by omega), q2 (12 + i) (by omega)]
      exact u2 i hi
    · rw [if_neg cl] at hst
      rw [if_neg (nI_ge (by omega) (by omega))]
      rw [cd_z (by omega)] at u1 u2
      exact behind 0 _ (by omega) (by rw [hst]) (fun j hj => by rw [hst]; exact u1 j hj) u2
theorem butTurn (h : LwA a2 a3 P C) (w : WfP P) (wc : WfC P C) {sd : Nat → Nat → Nat} (hs : SaidOk P C sd) {t : Nat} (ht : t < turnsN P C) {a : Nat → Int32} (g1 : ∀ j, j < pn P → a j = nI ((dday P C sd t).2.2.2 j)) (g2 : ∀ i, i < t → a (6 + i) = cd (sd i (dday P C sd i).1)) {Q : (Nat → Int32) → Prop} (a11 a12 : Nat → Int32) (k14 : (Nat → Int32) × Int32 × Int32 → Option (Nat → Int32)) (x4 x6 : Int32)
    (hK : ∀ a' : Nat → Int32, (∀ j, j < pn P → a' j = nI ((dday P C sd (t + 1)).2.2.2 j)) → (∀ i, i < t + 1 → a' (6 + i) = cd (sd i (dday P C sd i).1)) → ∃ r, k14 (a', nI (dday P C sd (t + 1)).1, nI (t + 1)) = some r ∧ Q r) :
    ∃ r, g_but_53 a2 a3 a11 a12 k14 x4 x6 a (nI (dday P C sd t).1) (nI t) (nI (who P C t)) (cd (sd t (dday P C sd t).1)) = some r ∧ Q r := by
  have h99 := w.2.1
  have tb := turnsB h
  have hn4 := h.2.1
  have ok := dok w wc hs t (by omega)
  have hsd := hs t _ ht ok.1
  have hkn := who_lt wc ht
  have h3 := (w.2.2.2 _ hkn).2.2.1
  have hd1 : (dday P C sd (t + 1)) = dstep P C t (sd t (dday P C sd t).1) (dday P C sd t) := rfl
  have d99 : (dday P C sd t).1 ≤ 99 := by have := ok.1; omega
  generalize hW : (dday P C sd t).1 = X at *
  generalize hc : sd t X = c at *
  generalize hk : who P C t = k at *
  have behind : ∀ (y : Nat) (a' : Nat → Int32), y ≤ 99 → bh P C y = (dday P C sd (t + 1)).1 → (∀ j, j < pn P → a' j = nI ((dday P C sd (t + 1)).2.2.2 j)) → (∀ i, i < t + 1 → a' (6 + i) = cd (sd i (dday P C sd i).1)) → ∃ r, g_but_158 a2 a3 a11 a12 k14 x4 x6 a' (nI y) (nI t) = some r ∧ Q r := by
    intro y a' hy e1 e2 e3
    unfold g_but_158
    rw [ct2, h.2.2.2.2.1, aheadL h w wc hy wc.2.1, bd_s, nI_1, bhC, e1]
    exact hK a' e2 e3
  unfold g_but_53
  have hw := h.2.2.2.2.2.2.1 k hkn
  rw [le6, ix_in (by omega) (by omega), nI_clamp (by omega), bd_s]
  have u1 : ∀ j, j < pn P → upd a (6 + t) (cd c) j = nI ((dday P C sd t).2.2.2 j) := fun j hj => by
    rw [upN (by omega)]; exact g1 j hj
  have u2 : ∀ i, i < t + 1 → upd a (6 + t) (cd c) (6 + i) = cd (sd i (dday P C sd i).1) := fun i hi => by
    by_cases ci : i = t
    · subst ci
      rw [upS, hW, hc]
    · rw [upN (by omega)]
      exact g2 i (by omega)
  by_cases c9 : c = 9
  · have e1 : (dday P C sd (t + 1)).1 = bh P C X := by rw [hd1]; unfold dstep; rw [if_pos c9, hW]
    have e2 : (dday P C sd (t + 1)).2.2.2 = (dday P C sd t).2.2.2 := by rw [hd1]; unfold dstep; rw [if_pos c9]
    unfold g_but_97
    rw [if_pos (by rw [c9]; decide), if_pos (by rw [c9]; decide)]
    exact behind X _ d99 e1.symm (fun j hj => by rw [e2]; exact u1 j hj) u2
  · have c3 : c < pw P k := by rcases hsd with z | z <;> omega
    have hl := (w.2.2.2 k hkn).2.2.2 c c3
    obtain ⟨hl1, hl2, hl3⟩ := hw.2 c c3
    rw [cd_z (by omega), if_neg (nI_pos (by omega)), l93, ix_in (by omega) (by omega), nI_clamp (by omega), hl1]
    have hst : dday P C sd (t + 1) = if pl P (3 * k + c) ≤ X then (bh P C (X - pl P (3 * k + c)), (dday P C sd t).2.1 + 1, (dday P C sd t).2.2.1, fun j => (dday P C sd t).2.2.2 j + gn P k c j) else (bh P C 0, (dday P C sd t).2.1, (if (dday P C sd t).2.2.1 = 9 then t else (dday P C sd t).2.2.1), (dday P C sd t).2.2.2) := by
      rw [hd1]; unfold dstep; rw [if_neg c9, hk, hW]
    by_cases cl : pl P (3 * k + c) ≤ X
    · rw [if_pos cl] at hst
      rw [if_pos (nI_le cl (by omega))]
      unfold g_but_97
      rw [if_neg (nI_pos (by omega)), ix_in (by omega) (by omega), nI_clamp (by omega), hl1, pk_sub cl]
      rw [cd_z (by omega)] at u1 u2
      refine butGain h w hkn c3 u1 a11 a12 k14 x4 x6 _ _ (fun a' q1 q2 => ?_)
      refine behind (X - pl P (3 * k + c)) a' (by omega) (by rw [hst]) (fun j hj => by rw [hst]; exact q1 j hj) (fun i hi => ?_)
      rw [q2 (6 + i) (by omega)]
      exact u2 i hi
    · rw [if_neg cl] at hst
      rw [if_neg (nI_ge (by omega) (by omega))]
      rw [cd_z (by omega)] at u1 u2
      exact behind 0 _ (by omega) (by rw [hst]) (fun j hj => by rw [hst]; exact u1 j hj) u2
/-- a day from the first turn on, in which something is said first -/
theorem fromL (h : LwA a2 a3 P C) (w : WfP P) (wc : WfC P C) {a11 a12 : Nat → Int32} (hS : LwS a11 a12 P (freeSaid P C) (turnsN P C)) {c : Nat} (hc : c = 9 ∨ c < pw P (who P C 0)) : ∃ r, g_from a2 a3 a11 a12 0 (nI (fw P C)) (cd c) = some r ∧ DayO r P C (forceSaid P C 0 c) (turnsN P C) := by
  have tb := turnsB h
  have hn4 := h.2.1
  have h6 := turns_le C w
  have so := force_ok (p := 0) (c := c) w wc (fun _ => hc)
  unfold g_from g_from_14
  refine wl_fuel (body := fun k14 p => g_from_14_b a2 a3 a11 a12 k14 0 (cd c) p.1 p.2.1 p.2.2) (fun p : (Nat → Int32) × Int32 × Int32 => ∃ t, t ≤ turnsN P C ∧ p.2.2 = nI t ∧ p.2.1 = nI (dday P C (forceSaid P C 0 c) t).1 ∧ (∀ j, j < pn P → p.1 j = nI ((dday P C (forceSaid P C 0 c) t).2.2.2 j)) ∧ ∀ i, i < t → p.1 (6 + i) = cd (forceSaid P C 0 c i (dday P C (forceSaid P C 0 c) i).1) ∧ p.1 (12 + i) = nI (dday P C (forceSaid P C 0 c) i).1) (fun p => 10 - p.2.2.toNatClampNeg) _ _ ⟨0, by omega, rfl, rfl, fun j hj => rfl, fun i hi => absurd hi (Nat.not_lt_zero i)⟩ (by show 10 - _ < _; omega) ?_
  rintro k14 ⟨a, x, y⟩ ⟨t, ht, e1, e2, g1, g2⟩ ih
  have e1 : y = nI t := e1
  have e2 : x = nI (dday P C (forceSaid P C 0 c) t).1 := e2
  subst e1 e2
  have g1 : ∀ j, j < pn P → a j = nI ((dday P C (forceSaid P C 0 c) t).2.2.2 j) := g1
  have g2 : ∀ i, i < t → a (6 + i) = cd (forceSaid P C 0 c i (dday P C (forceSaid P C 0 c) i).1) ∧ a (12 + i) = nI (dday P C (forceSaid P C 0 c) i).1 := g2
  dsimp only
  unfold g_from_14_b
  rw [turnsL h wc, bd_s]
  by_cases ct : turnsN P C ≤ t
  · have : t = turnsN P C := by omega
    subst this
    rw [if_pos (nI_le ct (by omega)), bd_s, ct5]
    refine ⟨_, rfl, fun j hj => ?_, fun i hi => ?_⟩
    · rw [upN (by omega)]; exact g1 j hj
    · rw [upN (by omega), upN (by omega)]; exact g2 i hi
  · have htT : t < turnsN P C := by omega
    have ok := dok w wc so t (by omega)
    rw [if_neg (nI_ge (by omega) (by omega)), whoL h htT, bd_s]
    have go : ∃ r, g_from_52 a2 a3 a11 a12 k14 0 (cd c) a (nI (dday P C (forceSaid P C 0 c) t).1) (nI t) (nI (who P C t)) (cd (forceSaid P C 0 c t (dday P C (forceSaid P C 0 c) t).1)) = some r ∧ DayO r P C (forceSaid P C 0 c) (turnsN P C) :=
      fromTurn h w wc so htT g1 g2 a11 a12 k14 0 (cd c) (fun a' q1 q2 => ih _ ⟨t + 1, by omega, rfl, rfl, q1, q2⟩ (by
        show 10 - (nI (t + 1)).toNatClampNeg < 10 - (nI t).toNatClampNeg
        rw [nI_clamp (by omega), nI_clamp (by omega)]; omega))
    by_cases c0 : t = 0
    · rw [if_pos (by rw [c0]; rfl)]
      have : forceSaid P C 0 c t (dday P C (forceSaid P C 0 c) t).1 = c := by unfold forceSaid; rw [if_pos c0]
      rw [this] at go
      exact go
    · rw [if_neg (show ¬ nI t = (0 : Int32) from fun z => c0 ((nIc (c := 0) (by omega) (by omega)).mp z))]
      have e : forceSaid P C 0 c t (dday P C (forceSaid P C 0 c) t).1 = freeSaid P C t (dday P C (forceSaid P C 0 c) t).1 := by
        show (if t = 0 then c else freeSaid P C t (dday P C (forceSaid P C 0 c) t).1) = _
        rw [if_neg c0]
      rw [saidL hS w h6 (fun t x ht hx => by
        rcases free_ok w wc t x ht hx with z | z
        · exact Or.inl z
        · have := (w.2.2.2 _ (who_lt wc ht)).2.2.1
          exact Or.inr (by omega)) htT ok.1, bd_s]
      rw [e] at go
      exact go
/-- a day in which one thing is told for a turn -/
theorem butL (h : LwA a2 a3 P C) (w : WfP P) (wc : WfC P C) {a11 a12 : Nat → Int32} (hS : LwS a11 a12 P (freeSaid P C) (turnsN P C)) {p c : Nat} (hp : p < turnsN P C) (hc : c = 9 ∨ c < pw P (who P C p)) : ∃ r, g_but a2 a3 a11 a12 (nI p) (cd c) = some r ∧ (∀ j, j < pn P → r j = nI ((dday P C (forceSaid P C p c) (turnsN P C)).2.2.2 j)) ∧ ∀ i, i < turnsN P C → r (6 + i) = cd (forceSaid P C p c i (dday P C (forceSaid P C p c) i).1) := by
  have tb := turnsB h
  have hn4 := h.2.1
  have h6 := turns_le C w
  have so := force_ok (p := p) (c := c) w wc (fun _ => hc)
  unfold g_but g_but_15
  rw [startL h w wc, bd_s]
  refine wl_fuel (body := fun k14 q => g_but_15_b a2 a3 a11 a12 k14 (nI p) (cd c) q.1 q.2.1 q.2.2) (fun q : (Nat → Int32) × Int32 × Int32 => ∃ t, t ≤ turnsN P C ∧ q.2.2 = nI t ∧ q.2.1 = nI (dday P C (forceSaid P C p c) t).1 ∧ (∀ j, j < pn P → q.1 j = nI ((dday P C (forceSaid P C p c) t).2.2.2 j)) ∧ ∀ i, i < t → q.1 (6 + i) = cd (forceSaid P C p c i (dday P C (forceSaid P C p c) i).1)) (fun q => 10 - q.2.2.toNatClampNeg) _ _ ⟨0, by omega, rfl, rfl, fun j hj => rfl, fun i hi => absurd hi (Nat.not_lt_zero i)⟩ (by show 10 - _ < _; omega) ?_
  rintro k14 ⟨a, x, y⟩ ⟨t, ht, e1, e2, g1, g2⟩ ih
  have e1 : y = nI t := e1
  have e2 : x = nI (dday P C (forceSaid P C p c) t).1 := e2
  subst e1 e2
  have g1 : ∀ j, j < pn P → a j = nI ((dday P C (forceSaid P C p c) t).2.2.2 j) := g1
  have g2 : ∀ i, i < t → a (6 + i) = cd (forceSaid P C p c i (dday P C (forceSaid P C p c) i).1) := g2
  dsimp only
  unfold g_but_15_b
  rw [turnsL h wc, bd_s]
  by_cases ct : turnsN P C ≤ t
  · have : t = turnsN P C := by omega
    subst this
    rw [if_pos (nI_le ct (by omega)), bd_s, ct5]
    refine ⟨_, rfl, fun j hj => ?_, fun i hi => ?_⟩
    · rw [upN (by omega)]; exact g1 j hj
    · rw [upN (by omega)]; exact g2 i hi
  · have htT : t < turnsN P C := by omega
    have ok := dok w wc so t (by omega)
    rw [if_neg (nI_ge (by omega) (by omega)), whoL h htT, bd_s]
    have go : ∃ r, g_but_53 a2 a3 a11 a12 k14 (nI p) (cd c) a (nI (dday P C (forceSaid P C p c) t).1) (nI t) (nI (who P C t)) (cd (forceSaid P C p c t (dday P C (forceSaid P C p c) t).1)) = some r ∧ (∀ j, j < pn P → r j = nI ((dday P C (forceSaid P C p c) (turnsN P C)).2.2.2 j)) ∧ ∀ i, i < turnsN P C → r (6 + i) = cd (forceSaid P C p c i (dday P C (forceSaid P C p c) i).1) :=
      butTurn h w wc so htT g1 g2 a11 a12 k14 (nI p) (cd c) (fun a' q1 q2 => ih _ ⟨t + 1, by omega, rfl, rfl, q1, q2⟩ (by
        show 10 - (nI (t + 1)).toNatClampNeg < 10 - (nI t).toNatClampNeg
        rw [nI_clamp (by omega), nI_clamp (by omega)]; omega))
    by_cases c0 : t = p
    · rw [if_pos (by rw [c0])]
      have : forceSaid P C p c t (dday P C (forceSaid P C p c) t).1 = c := by unfold forceSaid; rw [if_pos c0]
      rw [this] at go
      exact go
    · rw [if_neg (fun z => c0 ((nIc (by omega) (by omega)).mp z))]
      have e : forceSaid P C p c t (dday P C (forceSaid P C p c) t).1 = freeSaid P C t (dday P C (forceSaid P C p c) t).1 := by
        show (if t = p then c else freeSaid P C t (dday P C (forceSaid P C p c) t).1) = _
        rw [if_neg c0]
      rw [saidL hS w h6 (fun t x ht hx => by
        rcases free_ok w wc t x ht hx with z | z
        · exact Or.inl z
        · have := (w.2.2.2 _ (who_lt wc ht)).2.2.1
          exact Or.inr (by omega)) htT ok.1, bd_s]
      rw [e] at go
      exact go
/-- a free day -/
theorem freeL (h : LwA a2 a3 P C) (w : WfP P) (wc : WfC P C) {a11 a12 : Nat → Int32} (hS : LwS a11 a12 P (freeSaid P C) (turnsN P C)) : ∃ r, g_free a2 a3 a11 a12 = some r ∧ DayO r P C (freeSaid P C) (turnsN P C) := by
  have tb := turnsB h
  have h6 := turns_le C w
  have f9 : ∀ t x, t < turnsN P C → x ≤ pj P → freeSaid P C t x = 9 ∨ freeSaid P C t x < 3 := fun t x ht hx => by
    rcases free_ok w wc t x ht hx with z | z
    · exact Or.inl z
    · have := (w.2.2.2 _ (who_lt wc ht)).2.2.1
      exact Or.inr (by omega)
  have h0 : 0 < turnsN P C := by have := h.1; omega
  unfold g_free
  rw [startL h w wc, bd_s, bd_s, show (0 : Int32) = nI 0 from rfl, saidL hS w h6 f9 h0 fw_le, bd_s]
  obtain ⟨r, e1, e2⟩ := fromL h w wc hS (c := freeSaid P C 0 (fw P C)) (free_ok w wc 0 _ h0 fw_le)
  rw [show (nI 0 : Int32) = 0 from rfl, e1, bd_s]
  refine ⟨r, rfl, ?_⟩
  have same : ∀ t, dday P C (forceSaid P C 0 (freeSaid P C 0 (fw P C))) t = dday P C (freeSaid P C) t ∧ forceSaid P C 0 (freeSaid P C 0 (fw P C)) t (dday P C (forceSaid P C 0 (freeSaid P C 0 (fw P C))) t).1 = freeSaid P C t (dday P C (freeSaid P C) t).1 := by
    intro t
    have st : dday P C (forceSaid P C 0 (freeSaid P C 0 (fw P C))) t = dday P C (freeSaid P C) t → forceSaid P C 0 (freeSaid P C 0 (fw P C)) t (dday P C (forceSaid P C 0 (freeSaid P C 0 (fw P C))) t).1 = freeSaid P C t (dday P C (freeSaid P C) t).1 := by
      intro e
      rw [e]
      show (if t = 0 then freeSaid P C 0 (fw P C) else freeSaid P C t (dday P C (freeSaid P C) t).1) = _
      by_cases c : t = 0
      · rw [if_pos c, c]; rfl
      · rw [if_neg c]
    induction t with
    | zero => exact ⟨rfl, st rfl⟩
    | succ t ih =>
      have ih := ih (by
        intro e
        rw [e]
        show (if t = 0 then freeSaid P C 0 (fw P C) else freeSaid P C t (dday P C (freeSaid P C) t).1) = _
        by_cases c : t = 0
        · rw [if_pos c, c]; rfl
        · rw [if_neg c])
      have e : dday P C (forceSaid P C 0 (freeSaid P C 0 (fw P C))) (t + 1) = dday P C (freeSaid P C) (t + 1) := by
        show dstep P C t (forceSaid P C 0 (freeSaid P C 0 (fw P C)) t (dday P C (forceSaid P C 0 (freeSaid P C 0 (fw P C))) t).1) (dday P C (forceSaid P C 0 (freeSaid P C 0 (fw P C))) t) = dstep P C t (freeSaid P C t (dday P C (freeSaid P C) t).1) (dday P C (freeSaid P C) t)
        rw [ih.2, ih.1]
      exact ⟨e, st e⟩
  refine ⟨fun j hj => by rw [e2.1 j hj, (same _).1], fun i hi => ?_⟩
  obtain ⟨y1, y2⟩ := e2.2 i hi
  rw [y1, y2, (same i).2, (same i).1]
  exact ⟨rfl, rfl⟩
/-- a day that is told, by a leak -/
theorem dayL (h : LwA a2 a3 P C) (w : WfP P) (wc : WfC P C) {L : Nat} (hL : L ≤ 9) {s : Nat → Nat} (hs : ∀ t, t < turnsN P C → s t = 9 ∨ s t < pw P (who P C t)) {a11 : Nat → Int32} (ha : ∀ t, t < turnsN P C → a11 t = cd (s t)) : ∃ r, g_day a2 a3 a11 (nI (turnsN P C)) (nI L) = some r ∧ DayD r P (cw C, L, co C) (fun t _ => s t) (turnsN P C) := by
  have h99 := w.2.1
  have tb := turnsB h
  have hn4 := h.2.1
  have wcL : WfC P (cw C, L, co C) := ⟨wc.1, hL, wc.2.2.1, wc.2.2.2⟩
  have so : SaidOk P (cw C, L, co C) (fun t _ => s t) := fun t x ht _ => hs t ht
  have fwe : fw P (cw C, L, co C) = fw P C := rfl
  have main : ∀ b2 : Nat → Int32, b2 = upd (fun _ => 0) 1 (-9) → ∃ r, g_day_31 a2 a3 a11 (nI (turnsN P C)) (nI L) b2 (nI (fw P C)) = some r ∧ DayD r P (cw C, L, co C) (fun t _ => s t) (turnsN P C) := by
    rintro b2 rfl
    unfold g_day_31 g_day_36
    refine wl_fuel (body := fun k36 p => g_day_36_b a2 a3 a11 k36 (nI (turnsN P C)) (nI L) p.1 p.2.1 p.2.2) (fun p : (Nat → Int32) × Int32 × Int32 => ∃ t, t ≤ turnsN P C ∧ p.2.2 = nI t ∧ p.2.1 = nI (dday P (cw C, L, co C) (fun t _ => s t) t).1 ∧ p.1 1 = cd (dday P (cw C, L, co C) (fun t _ => s t) t).2.2.1 ∧ ∀ j, j < pn P → p.1 (3 + j) = nI ((dday P (cw C, L, co C) (fun t _ => s t) t).2.2.2 j)) (fun p => 10 - p.2.2.toNatClampNeg) _ _ ⟨0, by omega, rfl, rfl, rfl, fun j hj => by show upd (fun _ => (0 : Int32)) 1 (-9) (3 + j) = nI 0; rw [upN (by omega)]; rfl⟩ (by show 10 - _ < _; omega) ?_
    rintro k36 ⟨a, x, y⟩ ⟨t, ht, e1, e2, g1, g2⟩ ih
    have e1 : y = nI t := e1
    have e2 : x = nI (dday P (cw C, L, co C) (fun t _ => s t) t).1 := e2
    subst e1 e2
    have g1 : a 1 = cd (dday P (cw C, L, co C) (fun t _ => s t) t).2.2.1 := g1
    have g2 : ∀ j, j < pn P → a (3 + j) = nI ((dday P (cw C, L, co C) (fun t _ => s t) t).2.2.2 j) := g2
    dsimp only
    unfold g_day_36_b
    by_cases ct : turnsN P C ≤ t
    · have : t = turnsN P C := by omega
      subst this
      rw [if_pos (nI_le ct (by omega)), bd_s, ct2]
      exact ⟨_, rfl, by rw [upN (by omega)]; exact g1, upS, fun j hj => by rw [upN (by omega)]; exact g2 j hj⟩
    · have htT : t < turnsN P C := by omega
      have ok := dok w wcL so t (by show t ≤ turnsN P C; omega)
      have hkn := who_lt wc htT
      have h3 := (w.2.2.2 _ hkn).2.2.1
      have d99 : (dday P (cw C, L, co C) (fun t _ => s t) t).1 ≤ 99 := by have := ok.1; omega
      have hsd := hs t htT
      have hd1 : dday P (cw C, L, co C) (fun t _ => s t) (t + 1) = dstep P (cw C, L, co C) t (s t) (dday P (cw C, L, co C) (fun t _ => s t) t) := rfl
      have hwe : who P (cw C, L, co C) t = who P C t := rfl
      have hat := ha t htT
      generalize hD : dday P (cw C, L, co C) (fun t _ => s t) t = d at *
      generalize hc : s t = c at *
      generalize hk : who P C t = k at *
      have behind : ∀ (y : Nat) (a' : Nat → Int32), y ≤ 99 → bh P (cw C, L, co C) y = (dday P (cw C, L, co C) (fun t _ => s t) (t + 1)).1 → a' 1 = cd (dday P (cw C, L, co C) (fun t _ => s t) (t + 1)).2.2.1 → (∀ j, j < pn P → a' (3 + j) = nI ((dday P (cw C, L, co C) (fun t _ => s t) (t + 1)).2.2.2 j)) → ∃ r, g_day_189 a2 a3 a11 k36 (nI (turnsN P C)) (nI L) a' (nI y) (nI t) = some r ∧ DayD r P (cw C, L, co C) (fun t _ => s t) (turnsN P C) := by
        intro y a' hy e1 e2 e3
        unfold g_day_189
        rw [aheadL h w wc hy hL, bd_s, nI_1, e1]
        refine ih _ ⟨t + 1, by omega, rfl, rfl, e2, e3⟩ ?_
        show 10 - (nI (t + 1)).toNatClampNeg < 10 - (nI t).toNatClampNeg
        rw [nI_clamp (by omega), nI_clamp (by omega)]; omega
      rw [if_neg (nI_ge (by omega) (by omega)), le8, ix_in (by omega) (by omega), nI_clamp (by omega), bd_s, whoL h htT, bd_s, hk, ix_in (by omega) (by omega), ix_in (by omega) (by omega), nI_clamp (by omega), hat]
      have hw := h.2.2.2.2.2.2.1 k hkn
      have u1 : upd a (8 + t) (nI d.1) 1 = cd d.2.2.1 := by rw [upN (by omega)]; exact g1
      have u2 : ∀ j, j < pn P → upd a (8 + t) (nI d.1) (3 + j) = nI (d.2.2.2 j) := fun j hj => by rw [upN (by omega)]; exact g2 j hj
      unfold g_day_116 g_day_109
      by_cases c9 : c = 9
      · have hst : dday P (cw C, L, co C) (fun t _ => s t) (t + 1) = (bh P (cw C, L, co C) d.1, d.2.1, d.2.2.1, d.2.2.2) := by rw [hd1]; unfold dstep; rw [if_pos c9]
        rw [if_pos (by rw [c9]; decide), ix_in (by omega) (by omega), nI_clamp (by omega), hat, if_pos (by rw [c9]; decide)]
        exact behind d.1 _ d99 (by rw [hst]) (by rw [hst]; exact u1) (fun j hj => by rw [hst]; exact u2 j hj)
      · have c3 : c < pw P k := by rcases hsd with z | z <;> omega
        have hl := (w.2.2.2 k hkn).2.2.2 c c3
        obtain ⟨hl1, hl2, hl3⟩ := hw.2 c c3
        have hst : dday P (cw C, L, co C) (fun t _ => s t) (t + 1) = if pl P (3 * k + c) ≤ d.1 then (bh P (cw C, L, co C) (d.1 - pl P (3 * k + c)), d.2.1 + 1, d.2.2.1, fun j => d.2.2.2 j + gn P k c j) else (bh P (cw C, L, co C) 0, d.2.1, (if d.2.2.1 = 9 then t else d.2.2.1), d.2.2.2) := by
          rw [hd1]; unfold dstep; rw [if_neg c9, hwe]
        rw [cd_z (by omega), if_neg (nI_pos (by omega)), l93, ix_in (by omega) (by omega), nI_clamp (by omega), hl1]
        by_cases cl : pl P (3 * k + c) ≤ d.1
        · rw [if_pos cl] at hst
          rw [if_pos (nI_le cl (by omega)), ix_in (by omega) (by omega), nI_clamp (by omega), hat, cd_z (by omega), if_neg (nI_pos (by omega)), bd_s, ixc (by omega) (by omega), pk_sub cl, ct0]
          have v1 : upd (upd a (8 + t) (nI d.1)) 0 (upd a (8 + t) (nI d.1) 0 + 1) 1 = cd d.2.2.1 := by rw [upN (by omega)]; exact u1
          have v2 : ∀ j, j < pn P → upd (upd a (8 + t) (nI d.1)) 0 (upd a (8 + t) (nI d.1) 0 + 1) (3 + j) = nI (d.2.2.2 j) := fun j hj => by rw [upN (by omega)]; exact u2 j hj
          refine dayGain h w hkn c3 v2 a11 k36 (nI (turnsN P C)) (nI L) _ _ (fun a' q1 q2 => ?_)
          exact behind (d.1 - pl P (3 * k + c)) a' (by omega) (by rw [hst]) (by rw [hst, q2 1 (by omega)]; exact v1) (fun j hj => by rw [hst]; exact q1 j hj)
        · rw [if_neg cl] at hst
          rw [if_neg (nI_ge (by omega) (by omega)), ct1, u1]
          have fin : ∀ z : Nat, z = (if d.2.2.1 = 9 then t else d.2.2.1) → ∃ r, (if (1 : Int32) < 0 ∨ 16 ≤ (1 : Int32).toNatClampNeg then none else bd (some (upd (upd a (8 + t) (nI d.1)) (1 : Int32).toNatClampNeg (cd z))) fun b2 => g_day_189 a2 a3 a11 k36 (nI (turnsN P C)) (nI L) b2 0 (nI t)) = some r ∧ DayD r P (cw C, L, co C) (fun t _ => s t) (turnsN P C) := by
            rintro z rfl
            rw [if_neg (by decide), bd_s, ct1]
            exact behind 0 _ (by omega) (by rw [hst]) (by rw [hst, upS]) (fun j hj => by rw [hst, upN (by omega)]; exact u2 j hj)
          by_cases cc : d.2.2.1 = 9
          · rw [if_neg (by rw [cc]; decide)]
            have := fin t (by rw [if_pos cc])
            rw [cd_z (by omega)] at this
            exact this
          · have := ok.2.2.1
            rw [if_pos (by rw [cd_z (by omega)]; exact nI_pos' (by omega))]
            exact fin d.2.2.1 (by rw [if_neg cc])
  unfold g_day
  have hs0 := startL h w wc
  unfold g_start at hs0
  rw [ct1, bd_s]
  by_cases c1 : (a2 (3 : Int32).toNatClampNeg : Int32) = 1
  · rw [if_pos c1] at hs0 ⊢
    obtain ⟨v, e1, e2⟩ := bd_some hs0
    have e2 : v = nI (fw P C) := Option.some.inj e2
    rw [e1, bd_s, e2]
    exact main _ rfl
  · rw [if_neg c1] at hs0 ⊢
    have hs0 := Option.some.inj hs0
    rw [ct1] at hs0
    rw [hs0]
    exact main _ rfl
/-- whether a word is said in a day, as the law asks -/
theorem saysL (h : LwA a2 a3 P C) (wc : WfC P C) {s : Nat → Nat} (hs : ∀ t, t < turnsN P C → s t = 9 ∨ s t < 3) {a : Nat → Int32} (ha : ∀ t, t < turnsN P C → a (6 + t) = cd (s t)) {k q : Nat} (hk : k < pn P) (hq : q < 3) : ∃ r : Int32, g_says a2 a (nI k) (nI q) = some r ∧ ((r = 1 ∧ ∃ t, t < turnsN P C ∧ who P C t = k ∧ s t = q) ∨ (r = 0 ∧ ¬ ∃ t, t < turnsN P C ∧ who P C t = k ∧ s t = q)) := by
  have tb := turnsB h
  have hn4 := h.2.1
  unfold g_says g_says_6
  refine wl_fuel (body := fun k6 p => g_says_6_b a2 a k6 (nI k) (nI q) p.1 p.2) (fun p : Int32 × Int32 => ∃ t, t ≤ turnsN P C ∧ p.2 = nI t ∧ ((p.1 = 1 ∧ ∃ i, i < t ∧ who P C i = k ∧ s i = q) ∨ (p.1 = 0 ∧ ¬ ∃ i, i < t ∧ who P C i = k ∧ s i = q))) (fun p => 10 - p.2.toNatClampNeg) _ _ ⟨0, by omega, rfl, Or.inr ⟨rfl, fun ⟨i, hi, _⟩ => absurd hi (Nat.not_lt_zero i)⟩⟩ (by show 10 - _ < _; omega) ?_
  rintro k6 ⟨x, y⟩ ⟨t, ht, e1, g1⟩ ih
  have e1 : y = nI t := e1
  subst e1
  have g1 : (x = 1 ∧ ∃ i, i < t ∧ who P C i = k ∧ s i = q) ∨ (x = 0 ∧ ¬ ∃ i, i < t ∧ who P C i = k ∧ s i = q) := g1
  dsimp only
  unfold g_says_6_b g_says_41 g_says_45 g_says_46
  rw [turnsL h wc, bd_s]
  by_cases ct : turnsN P C ≤ t
  · have : t = turnsN P C := by omega
    subst this
    rw [if_pos (nI_le ct (by omega)), if_pos (by rcases g1 with ⟨z, _⟩ | ⟨z, _⟩ <;> simp [z])]
    exact ⟨_, rfl, g1⟩
  · have htT : t < turnsN P C := by omega
    have go : ∀ v : Int32, ((v = 1 ∧ ∃ i, i < t + 1 ∧ who P C i = k ∧ s i = q) ∨ (v = 0 ∧ ¬ ∃ i, i < t + 1 ∧ who P C i = k ∧ s i = q)) → ∃ r : Int32, k6 (v, nI t + 1) = some r ∧ ((r = 1 ∧ ∃ t, t < turnsN P C ∧ who P C t = k ∧ s t = q) ∨ (r = 0 ∧ ¬ ∃ t, t < turnsN P C ∧ who P C t = k ∧ s t = q)) := by
      intro v hv
      rw [nI_1]
      refine ih _ ⟨t + 1, by omega, rfl, hv⟩ ?_
      show 10 - (nI (t + 1)).toNatClampNeg < 10 - (nI t).toNatClampNeg
      rw [nI_clamp (by omega), nI_clamp (by omega)]; omega
    have hkn := who_lt wc htT
    rw [if_neg (nI_ge (by omega) (by omega))]
    rcases g1 with ⟨rfl, i, g0⟩ | ⟨rfl, g0⟩
    · rw [if_neg (by decide)]
      exact go 1 (Or.inl ⟨rfl, i, by omega, g0.2⟩)
    · rw [if_pos rfl, whoL h htT, bd_s]
      have no : ¬ (who P C t = k ∧ s t = q) → ¬ ∃ i, i < t + 1 ∧ who P C i = k ∧ s i = q := by
        rintro z ⟨i, hi, y1⟩
        by_cases ci : i = t
        · rw [ci] at y1; exact z y1
        · exact g0 ⟨i, by omega, y1⟩
      by_cases ck : who P C t = k
      · rw [if_pos (by rw [ck]), le6, ix_in (by omega) (by omega), nI_clamp (by omega), ha t htT]
        by_cases cq : s t = q
        · rw [if_pos ((cd_eq (hs t htT) hq).mpr cq)]
          exact go 1 (Or.inl ⟨rfl, t, by omega, ck, cq⟩)
        · rw [if_neg (fun z => cq ((cd_eq (hs t htT) hq).mp z))]
          exact go 0 (Or.inr ⟨rfl, no (fun z => cq z.2)⟩)
      · rw [if_neg (fun z => ck ((nIc (by omega) (by omega)).mp z))]
        exact go 0 (Or.inr ⟨rfl, no (fun z => ck z.1)⟩)
end LD
