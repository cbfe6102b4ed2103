/-! together -/
def und (d : Nat) : Nat := if d = 3 then 9 else d
def dig (c : Nat) : Nat := if c = 9 then 3 else c
/-- the word that a row of figures in fours says in turn t, of T turns -/
def rs (T row t : Nat) : Nat := und (row / 4 ^ (T - 1 - t) % 4)
def gsum (P : PP) (k c : Nat) : Nat := if c = 9 then 0 else sumW (gn P k c) 5
def nx (P : PP) (C : CC) (t x c : Nat) : Nat := if c = 9 then bh P C x else bh P C (x - pl P (3 * who P C t + c))
def Hd (P : PP) (C : CC) (t x c : Nat) : Prop := c = 9 ∨ (c < pw P (who P C t) ∧ pl P (3 * who P C t + c) ≤ x)
def TV (P : PP) (C : CC) (r x : Nat) : Nat := sumW (plan 1 P C r x).2 5
/-- what a row is worth from the turn on that has r turns to go -/
def TT (P : PP) (C : CC) (row : Nat) : Nat → Nat → Nat
  | 0, _ => 0
  | r + 1, x => gsum P (who P C (turnsN P C - (r + 1))) (und (row / 4 ^ r % 4)) + TT P C row r (nx P C (turnsN P C - (r + 1)) x (und (row / 4 ^ r % 4)))
def VT (P : PP) (C : CC) (row : Nat) : Nat → Nat → Prop
  | 0, _ => True
  | r + 1, x => Hd P C (turnsN P C - (r + 1)) x (und (row / 4 ^ r % 4)) ∧ VT P C row r (nx P C (turnsN P C - (r + 1)) x (und (row / 4 ^ r % 4)))
/-- the plan's row -/
def PR (P : PP) (C : CC) : Nat → Nat → Nat
  | 0, _ => 0
  | r + 1, x => dig (plan 1 P C (r + 1) x).1 * 4 ^ r + PR P C r (nx P C (turnsN P C - (r + 1)) x (plan 1 P C (r + 1) x).1)
theorem sumW_add (V W : Nat → Nat) : sumW (fun j => V j + W j) 5 = sumW V 5 + sumW W 5 := by
  rw [sumW5, sumW5, sumW5]; omega
theorem val_1 (V : Nat → Nat) (k : Nat) : val 1 V k = sumW V 5 := by rw [sumW5]; exact if_neg (by omega)
theorem pbest1 {P : PP} {C : CC} (Vn : Nat → Nat → Nat) (k x : Nat) : ∀ n, n ≤ 3 → (sumW (Vn (bh P C x)) 5 ≤ sumW (pbest 1 P C Vn k x n).2.2 5 ∧ ((pbest 1 P C Vn k x n).1 ≠ 9 → True)) ∧ (∀ c, c < n → pl P (3 * k + c) ≤ x → sumW (pnew P C Vn k x c) 5 ≤ sumW (pbest 1 P C Vn k x n).2.2 5 ∧ (c < (pbest 1 P C Vn k x n).1 → sumW (pnew P C Vn k x c) 5 < sumW (pbest 1 P C Vn k x n).2.2 5)) := by
  intro n
  induction n with
  | zero => intro _; exact ⟨⟨Nat.le_refl _, fun _ => trivial⟩, fun c hc => absurd hc (Nat.not_lt_zero c)⟩
  | succ n ih =>
    intro hn
    obtain ⟨h1, h2⟩ := ih (by omega)
    have hb := pbest_c 1 P C Vn k x n
    have b1 : better 1 (pk P k) (pl P (3 * k + n)) (pbest 1 P C Vn k x n).2.1 (pbest 1 P C Vn k x n).1 = decide ((pbest 1 P C Vn k x n).1 = 9) := if_neg (by omega)
    unfold pbest
    rw [val_1, val_1, b1]
    split
    · next c =>
      dsimp only
      obtain ⟨c1, c2⟩ := c
      refine ⟨⟨by omega, fun _ => trivial⟩, fun c hc hl => ?_⟩
      by_cases e : c = n
      · subst e; exact ⟨Nat.le_refl _, fun z => absurd z (Nat.lt_irrefl _)⟩
      · obtain ⟨h3, h4⟩ := h2 c (by omega) hl
        refine ⟨by omega, fun _ => ?_⟩
        rcases c2 with c2 | ⟨c2, c3⟩
        · omega
        · have c3 : (pbest 1 P C Vn k x n).1 = 9 := by simpa using c3
          have := h4 (by omega)
          omega
    · next cc =>
      refine ⟨h1, fun c hc hl => ?_⟩
      by_cases e : c = n
      · subst e
        have n1 : ¬ sumW (pbest 1 P C Vn k x c).2.2 5 < sumW (pnew P C Vn k x c) 5 := fun z => cc ⟨hl, Or.inl z⟩
        have n2 : sumW (pnew P C Vn k x c) 5 = sumW (pbest 1 P C Vn k x c).2.2 5 → (pbest 1 P C Vn k x c).1 ≠ 9 := fun z y => cc ⟨hl, Or.inr ⟨z, by simpa using y⟩⟩
        refine ⟨by omega, fun z => ?_⟩
        rcases Nat.lt_or_ge (sumW (pnew P C Vn k x c) 5) (sumW (pbest 1 P C Vn k x c).2.2 5) with y | y
        · exact y
        · have := n2 (by omega)
          rcases hb with hb | hb <;> omega
      · exact h2 c (by omega) hl
/-- the plan for all: what it takes is worth most, and what lies before it is worth less -/
theorem plan1 {P : PP} {C : CC} (w : WfP P) (wc : WfC P C) {r x : Nat} (hr : r + 1 ≤ turnsN P C) : Hd P C (turnsN P C - (r + 1)) x (plan 1 P C (r + 1) x).1 ∧ TV P C (r + 1) x = gsum P (who P C (turnsN P C - (r + 1))) (plan 1 P C (r + 1) x).1 + TV P C r (nx P C (turnsN P C - (r + 1)) x (plan 1 P C (r + 1) x).1) ∧ ∀ c, Hd P C (turnsN P C - (r + 1)) x c → gsum P (who P C (turnsN P C - (r + 1))) c + TV P C r (nx P C (turnsN P C - (r + 1)) x c) ≤ TV P C (r + 1) x ∧ (dig c < dig (plan 1 P C (r + 1) x).1 → gsum P (who P C (turnsN P C - (r + 1))) c + TV P C r (nx P C (turnsN P C - (r + 1)) x c) < TV P C (r + 1) x) := by
  have hw := who_lt wc (show turnsN P C - (r + 1) < turnsN P C by omega)
  have h3 := (w.2.2.2 _ hw).2.2.1
  have nW : nWords 1 P (who P C (turnsN P C - (r + 1))) = pw P (who P C (turnsN P C - (r + 1))) := if_neg (fun z => absurd z.1 (by omega))
  have hc := pbest_c 1 P C (fun y => (plan 1 P C r y).2) (who P C (turnsN P C - (r + 1))) x (pw P (who P C (turnsN P C - (r + 1))))
  obtain ⟨⟨m1, -⟩, m2⟩ := pbest1 (P := P) (C := C) (fun y => (plan 1 P C r y).2) (who P C (turnsN P C - (r + 1))) x (pw P (who P C (turnsN P C - (r + 1)))) h3
  have pe : plan 1 P C (r + 1) x = ((pbest 1 P C (fun y => (plan 1 P C r y).2) (who P C (turnsN P C - (r + 1))) x (pw P (who P C (turnsN P C - (r + 1))))).1, (pbest 1 P C (fun y => (plan 1 P C r y).2) (who P C (turnsN P C - (r + 1))) x (pw P (who P C (turnsN P C - (r + 1))))).2.2) := by
    rw [plan, nW]
  have pn : ∀ c, sumW (pnew P C (fun y => (plan 1 P C r y).2) (who P C (turnsN P C - (r + 1))) x c) 5 = sumW (gn P (who P C (turnsN P C - (r + 1))) c) 5 + TV P C r (bh P C (x - pl P (3 * who P C (turnsN P C - (r + 1)) + c))) := fun c => by
    unfold pnew
    rw [sumW_add, Nat.add_comm]
    rfl
  generalize hB : pbest 1 P C (fun y => (plan 1 P C r y).2) (who P C (turnsN P C - (r + 1))) x (pw P (who P C (turnsN P C - (r + 1)))) = B at *
  have e1 : (plan 1 P C (r + 1) x).1 = B.1 := by rw [pe]
  have e2 : TV P C (r + 1) x = sumW B.2.2 5 := by unfold TV; rw [pe]
  rw [e1, e2]
  refine ⟨?_, ?_, fun c hd => ?_⟩
  · rcases hc with hc | hc
    · exact Or.inl hc.1
    · exact Or.inr ⟨hc.1, hc.2.1⟩
  · rcases hc with ⟨c1, c2, c3⟩ | ⟨c1, c2, c3, c4⟩
    · rw [c3, c1]; unfold gsum nx; rw [if_pos rfl, if_pos rfl]; show _ = 0 + _; rw [Nat.zero_add]; rfl
    · rw [c4, pn]; unfold gsum nx; rw [if_neg (by omega), if_neg (by omega)]
  · unfold gsum nx
    rcases hd with h9 | ⟨d1, d2⟩
    · rw [if_pos h9, if_pos h9, h9]
      refine ⟨by rw [Nat.zero_add]; exact m1, fun z => ?_⟩
      unfold dig at z
      rw [if_pos rfl] at z
      rcases hc with hc | hc
      · rw [if_pos hc.1] at z; omega
      · rw [if_neg (by omega)] at z; omega
    · rw [if_neg (by omega), if_neg (by omega), ← pn]
      obtain ⟨k1, k2⟩ := m2 c d1 d2
      refine ⟨k1, fun z => k2 ?_⟩
      unfold dig at z
      rw [if_neg (by omega)] at z
      rcases hc with hc | hc
      · omega
      · rw [if_neg (by omega)] at z; omega
theorem dig_lt {c : Nat} (h : c = 9 ∨ c < 3) : dig c < 4 := by unfold dig; split <;> omega
theorem und_dig {c : Nat} (h : c = 9 ∨ c < 3) : und (dig c) = c := by
  unfold und dig
  split
  · split <;> omega
  · split <;> omega
theorem dig_und {d : Nat} (h : d < 4) : dig (und d) = d := by
  unfold und dig
  split
  · split <;> omega
  · split <;> omega
theorem Hd.le {P : PP} {C : CC} (w : WfP P) (wc : WfC P C) {t x c : Nat} (ht : t < turnsN P C) (h : Hd P C t x c) : c = 9 ∨ c < 3 := by
  have := (w.2.2.2 _ (who_lt wc ht)).2.2.1
  unfold Hd at h; omega
theorem PR_lt {P : PP} {C : CC} (w : WfP P) (wc : WfC P C) : ∀ r x, r ≤ turnsN P C → PR P C r x < 4 ^ r := by
  intro r
  induction r with
  | zero => intro _ _; exact Nat.one_pos
  | succ r ih =>
    intro x hr
    have := ih (nx P C (turnsN P C - (r + 1)) x (plan 1 P C (r + 1) x).1) (by omega)
    have d := dig_lt ((plan1 (x := x) w wc hr).1.le w wc (by omega))
    unfold PR
    rw [Nat.pow_succ]
    have : dig (plan 1 P C (r + 1) x).1 * 4 ^ r ≤ 3 * 4 ^ r := Nat.mul_le_mul_right _ (by omega)
    omega
theorem row_cmp {P : PP} {C : CC} (w : WfP P) (wc : WfC P C) (row : Nat) : ∀ r x, r ≤ turnsN P C → VT P C row r x → TT P C row r x ≤ TV P C r x ∧ (row % 4 ^ r < PR P C r x → TT P C row r x < TV P C r x) := by
  intro r
  induction r with
  | zero => intro x _ _; exact ⟨Nat.zero_le _, fun h => absurd h (Nat.not_lt_zero _)⟩
  | succ r ih =>
    intro x hr hv
    obtain ⟨v1, v2⟩ := hv
    obtain ⟨i1, i2⟩ := ih _ (by omega) v2
    obtain ⟨p1, p2, p3⟩ := plan1 (x := x) w wc hr
    obtain ⟨q1, q2⟩ := p3 _ v1
    have hd4 : row / 4 ^ r % 4 < 4 := Nat.mod_lt _ (by omega)
    have e : row % 4 ^ (r + 1) = row % 4 ^ r + 4 ^ r * (row / 4 ^ r % 4) := by rw [Nat.pow_succ, Nat.mod_mul]
    have lt := Nat.mod_lt row (Nat.pow_pos (n := r) (show 0 < 4 by omega))
    unfold TT
    refine ⟨by omega, fun h => ?_⟩
    rw [dig_und hd4] at q2
    unfold PR at h
    rw [e] at h
    by_cases c : row / 4 ^ r % 4 = dig (plan 1 P C (r + 1) x).1
    · have cu : und (row / 4 ^ r % 4) = (plan 1 P C (r + 1) x).1 := by rw [c]; exact und_dig (p1.le w wc (by omega))
      rw [cu] at i1 i2 q1 ⊢
      rw [c, Nat.mul_comm] at h
      have := i2 (by omega)
      omega
    · by_cases c2 : row / 4 ^ r % 4 < dig (plan 1 P C (r + 1) x).1
      · have := q2 c2
        omega
      · exfalso
        have : (dig (plan 1 P C (r + 1) x).1 + 1) * 4 ^ r ≤ row / 4 ^ r % 4 * 4 ^ r := Nat.mul_le_mul_right _ (by omega)
        rw [Nat.add_mul, Nat.one_mul] at this
        have pl := PR_lt w wc r (nx P C (turnsN P C - (r + 1)) x (plan 1 P C (r + 1) x).1) (by omega)
        rw [Nat.mul_comm (4 ^ r)] at h
        omega
theorem PR_dig {P : PP} {C : CC} (w : WfP P) (wc : WfC P C) : ∀ r x row, r + 1 ≤ turnsN P C → row % 4 ^ (r + 1) = PR P C (r + 1) x → und (row / 4 ^ r % 4) = (plan 1 P C (r + 1) x).1 ∧ row % 4 ^ r = PR P C r (nx P C (turnsN P C - (r + 1)) x (plan 1 P C (r + 1) x).1) := by
  intro r x row hr h
  have e : row % 4 ^ (r + 1) = row % 4 ^ r + 4 ^ r * (row / 4 ^ r % 4) := by rw [Nat.pow_succ, Nat.mod_mul]
  have lt := Nat.mod_lt row (Nat.pow_pos (n := r) (show 0 < 4 by omega))
  have p1 := (plan1 (x := x) w wc hr).1.le w wc (by omega)
  have pl := PR_lt w wc r (nx P C (turnsN P C - (r + 1)) x (plan 1 P C (r + 1) x).1) (by omega)
  rw [e] at h
  unfold PR at h
  rw [Nat.mul_comm (4 ^ r)] at h
  have key : row / 4 ^ r % 4 = dig (plan 1 P C (r + 1) x).1 := by
    rcases Nat.lt_trichotomy (row / 4 ^ r % 4) (dig (plan 1 P C (r + 1) x).1) with z | z | z
    · have : (row / 4 ^ r % 4 + 1) * 4 ^ r ≤ dig (plan 1 P C (r + 1) x).1 * 4 ^ r := Nat.mul_le_mul_right _ (by omega)
      rw [Nat.add_mul, Nat.one_mul] at this
      omega
    · exact z
    · have : (dig (plan 1 P C (r + 1) x).1 + 1) * 4 ^ r ≤ row / 4 ^ r % 4 * 4 ^ r := Nat.mul_le_mul_right _ (by omega)
      rw [Nat.add_mul, Nat.one_mul] at this
      omega
  rw [key] at h ⊢
  exact ⟨und_dig p1, by omega⟩
theorem PR_val {P : PP} {C : CC} (w : WfP P) (wc : WfC P C) : ∀ r x row, r ≤ turnsN P C → row % 4 ^ r = PR P C r x → VT P C row r x ∧ TT P C row r x = TV P C r x := by
  intro r
  induction r with
  | zero => intro x row _ _; exact ⟨trivial, by show 0 = sumW (fun _ => 0) 5; rw [sumW5]⟩
  | succ r ih =>
    intro x row hr h
    obtain ⟨h1, h2⟩ := PR_dig w wc r x row hr h
    obtain ⟨p1, p2, p3⟩ := plan1 (x := x) w wc hr
    obtain ⟨i1, i2⟩ := ih _ row (by omega) h2
    unfold VT TT
    rw [h1]
    exact ⟨⟨p1, i1⟩, by rw [i2, p2]⟩
/-- rows as days -/
theorem day_sum {P : PP} {C : CC} (sd : Nat → Nat → Nat) (t : Nat) (hd : Hd P C t (dday P C sd t).1 (sd t (dday P C sd t).1)) (h9 : sd t (dday P C sd t).1 = 9 ∨ sd t (dday P C sd t).1 < 3) : sumW (dday P C sd (t + 1)).2.2.2 5 = sumW (dday P C sd t).2.2.2 5 + gsum P (who P C t) (sd t (dday P C sd t).1) ∧ (dday P C sd (t + 1)).1 = nx P C t (dday P C sd t).1 (sd t (dday P C sd t).1) := by
  show sumW (dstep P C t (sd t (dday P C sd t).1) (dday P C sd t)).2.2.2 5 = _ ∧ (dstep P C t (sd t (dday P C sd t).1) (dday P C sd t)).1 = _
  generalize sd t (dday P C sd t).1 = c at *
  generalize dday P C sd t = d at *
  unfold dstep gsum nx
  by_cases c9 : c = 9
  · rw [if_pos c9, if_pos c9, if_pos c9]; exact ⟨rfl, rfl⟩
  · have : pl P (3 * who P C t + c) ≤ d.1 := by unfold Hd at hd; omega
    rw [if_neg c9, if_pos this, if_neg c9, if_neg c9]
    exact ⟨sumW_add _ _, rfl⟩
def RowOk (P : PP) (C : CC) (row n : Nat) : Prop := ∀ t, t < n → Hd P C t (dday P C (fun t _ => rs (turnsN P C) row t) t).1 (rs (turnsN P C) row t)
theorem row_tail {P : PP} {C : CC} (w : WfP P) (wc : WfC P C) (row : Nat) : ∀ r, r ≤ turnsN P C → RowOk P C row (turnsN P C - r) → (RowOk P C row (turnsN P C) ↔ VT P C row r (dday P C (fun t _ => rs (turnsN P C) row t) (turnsN P C - r)).1) ∧ (RowOk P C row (turnsN P C) → sumW (dday P C (fun t _ => rs (turnsN P C) row t) (turnsN P C)).2.2.2 5 = sumW (dday P C (fun t _ => rs (turnsN P C) row t) (turnsN P C - r)).2.2.2 5 + TT P C row r (dday P C (fun t _ => rs (turnsN P C) row t) (turnsN P C - r)).1) := by
  intro r
  induction r with
  | zero => intro _ h; exact ⟨⟨fun _ => trivial, fun _ => h⟩, fun _ => rfl⟩
  | succ r ih =>
    intro hr h
    have ht : turnsN P C - (r + 1) < turnsN P C := by omega
    have er : rs (turnsN P C) row (turnsN P C - (r + 1)) = und (row / 4 ^ r % 4) := by
      unfold rs; rw [show turnsN P C - 1 - (turnsN P C - (r + 1)) = r by omega]
    have e1 : turnsN P C - (r + 1) + 1 = turnsN P C - r := by omega
    have h39 : rs (turnsN P C) row (turnsN P C - (r + 1)) = 9 ∨ rs (turnsN P C) row (turnsN P C - (r + 1)) < 3 := by
      have : row / 4 ^ r % 4 < 4 := Nat.mod_lt _ (by omega)
      rw [er]; unfold und; split <;> omega
    have next : Hd P C (turnsN P C - (r + 1)) (dday P C (fun t _ => rs (turnsN P C) row t) (turnsN P C - (r + 1))).1 (rs (turnsN P C) row (turnsN P C - (r + 1))) → RowOk P C row (turnsN P C - r) := fun hh t htl => by
      by_cases c : t = turnsN P C - (r + 1)
      · rw [c]; exact hh
      · exact h t (by omega)
    refine ⟨⟨fun hh => ?_, fun hv => ?_⟩, fun hh => ?_⟩
    · have hd := hh _ ht
      obtain ⟨d1, d2⟩ := day_sum (fun t _ => rs (turnsN P C) row t) (turnsN P C - (r + 1)) hd h39
      have := (ih (by omega) (next hd)).1.mp hh
      rw [← e1, d2, er] at this
      unfold VT
      rw [er] at hd
      exact ⟨hd, this⟩
    · obtain ⟨v1, v2⟩ := hv
      rw [← er] at v1 v2
      obtain ⟨d1, d2⟩ := day_sum (fun t _ => rs (turnsN P C) row t) (turnsN P C - (r + 1)) v1 h39
      refine (ih (by omega) (next v1)).1.mpr ?_
      rw [← e1, d2]; exact v2
    · have hd := hh _ ht
      obtain ⟨d1, d2⟩ := day_sum (fun t _ => rs (turnsN P C) row t) (turnsN P C - (r + 1)) hd h39
      have := (ih (by omega) (next hd)).2 hh
      rw [this, ← e1, d1, d2, er]
      show _ = _ + (gsum P (who P C (turnsN P C - (r + 1))) (und (row / 4 ^ r % 4)) + TT P C row r (nx P C (turnsN P C - (r + 1)) (dday P C (fun t _ => rs (turnsN P C) row t) (turnsN P C - (r + 1))).1 (und (row / 4 ^ r % 4))))
      rw [Nat.add_assoc]
theorem row_all {P : PP} {C : CC} (w : WfP P) (wc : WfC P C) (row : Nat) : (RowOk P C row (turnsN P C) ↔ VT P C row (turnsN P C) (fw P C)) ∧ (RowOk P C row (turnsN P C) → sumW (dday P C (fun t _ => rs (turnsN P C) row t) (turnsN P C)).2.2.2 5 = TT P C row (turnsN P C) (fw P C)) := by
  have h := row_tail w wc row (turnsN P C) (Nat.le_refl _) (fun t ht => absurd ht (by omega))
  rw [Nat.sub_self] at h
  refine ⟨h.1, fun z => ?_⟩
  have := h.2 z
  rw [this]
  show sumW (fun _ => 0) 5 + _ = _
  rw [sumW5]; simp; rfl
/-- the plan's day is its row's day -/
theorem plan_day {P : PP} {C : CC} (w : WfP P) (wc : WfC P C) {row : Nat} (hr : row % 4 ^ turnsN P C = PR P C (turnsN P C) (fw P C)) : ∀ t, t ≤ turnsN P C → dday P C (saidM 1 P C) t = dday P C (fun t _ => rs (turnsN P C) row t) t ∧ (∀ i, i < t → saidM 1 P C i (dday P C (saidM 1 P C) i).1 = rs (turnsN P C) row i) ∧ row % 4 ^ (turnsN P C - t) = PR P C (turnsN P C - t) (dday P C (saidM 1 P C) t).1 := by
  intro t
  induction t with
  | zero => intro _; exact ⟨rfl, fun i h => absurd h (Nat.not_lt_zero i), hr⟩
  | succ t ih =>
    intro ht
    obtain ⟨h1, h2, h3⟩ := ih (by omega)
    have e1 : turnsN P C - t = (turnsN P C - (t + 1)) + 1 := by omega
    rw [e1] at h3
    obtain ⟨k1, k2⟩ := PR_dig w wc (turnsN P C - (t + 1)) _ row (by omega) h3
    rw [← e1, show turnsN P C - (turnsN P C - t) = t by omega] at k2
    rw [← e1] at k1
    have said : saidM 1 P C t (dday P C (saidM 1 P C) t).1 = rs (turnsN P C) row t := by
      unfold saidM rs
      rw [show turnsN P C - 1 - t = turnsN P C - (t + 1) by omega]
      exact k1.symm
    have hd : Hd P C t (dday P C (saidM 1 P C) t).1 (saidM 1 P C t (dday P C (saidM 1 P C) t).1) := by
      rcases saidM_ok 1 w wc (x := (dday P C (saidM 1 P C) t).1) (show t < turnsN P C by omega) with z | z
      · exact Or.inl z
      · exact Or.inr z
    obtain ⟨d1, d2⟩ := day_sum (saidM 1 P C) t hd (hd.le w wc (by omega))
    refine ⟨?_, fun i hi => ?_, ?_⟩
    · show dstep P C t (saidM 1 P C t (dday P C (saidM 1 P C) t).1) (dday P C (saidM 1 P C) t) = dstep P C t (rs (turnsN P C) row t) (dday P C (fun t _ => rs (turnsN P C) row t) t)
      rw [said, h1]
    · by_cases c : i = t
      · rw [c]; exact said
      · exact h2 i (by omega)
    · rw [d2, k2]; rfl
