/-! THE COUNCIL AS NUMBERS. P: how many speakers, jar, kinds, how many words, lengths, own, others (place 3 k + q); C: law, leak, order -/
abbrev PP : Type := Nat × Nat × (Nat → Nat) × (Nat → Nat) × (Nat → Nat) × (Nat → Nat) × (Nat → Nat)
abbrev CC : Type := Nat × Nat × (Nat → Nat)
abbrev pn (P : PP) : Nat := P.1
abbrev pj (P : PP) : Nat := P.2.1
abbrev pk (P : PP) : Nat → Nat := P.2.2.1
abbrev pw (P : PP) : Nat → Nat := P.2.2.2.1
abbrev pl (P : PP) : Nat → Nat := P.2.2.2.2.1
abbrev po (P : PP) : Nat → Nat := P.2.2.2.2.2.1
abbrev pt (P : PP) : Nat → Nat := P.2.2.2.2.2.2
abbrev cw (C : CC) : Nat := C.1
abbrev cl (C : CC) : Nat := C.2.1
abbrev co (C : CC) : Nat → Nat := C.2.2
/-- NONE is 9 -/
def cd (c : Nat) : Int32 := if c = 9 then -9 else nI c
def pkw (V : Nat → Nat) : Nat → Nat
  | 0 => 0
  | n + 1 => pkw V n + V n * 256 ^ n
def turnsN (P : PP) (C : CC) : Nat := if cw C = 3 then pn P + 1 else pn P
def who (P : PP) (C : CC) (t : Nat) : Nat := co C (if t < pn P then t else 0)
def fw (P : PP) (C : CC) : Nat := if cw C = 1 then pj P / pn P else pj P
def bh (P : PP) (C : CC) (w : Nat) : Nat := if cw C = 1 then pj P / pn P else if cw C = 2 then (w - cl C) / 2 else w - cl C
def gn (P : PP) (k q j : Nat) : Nat := if j < pn P then (if j = k then po P (3 * k + q) else pt P (3 * k + q)) else 0
def rather (kd len bl : Nat) : Bool := if kd = 0 then decide (bl < len) else decide (len < bl)
/-- in making for each (m = 0) or for all (m = 1) -/
def val (m : Nat) (V : Nat → Nat) (k : Nat) : Nat := if m = 0 then V k else V 0 + V 1 + V 2 + V 3 + V 4
def better (m kd len bl bw : Nat) : Bool := if m = 0 then rather kd len bl else decide (bw = 9)
def nWords (m : Nat) (P : PP) (k : Nat) : Nat := if m = 0 ∧ pk P k = 2 then 0 else pw P k
def pnew (P : PP) (C : CC) (Vn : Nat → Nat → Nat) (k w q : Nat) : Nat → Nat := fun j => Vn (bh P C (w - pl P (3 * k + q))) j + gn P k q j
def pbest (m : Nat) (P : PP) (C : CC) (Vn : Nat → Nat → Nat) (k w : Nat) : Nat → Nat × Nat × (Nat → Nat)
  | 0 => (9, 0, Vn (bh P C w))
  | q + 1 =>
    if pl P (3 * k + q) ≤ w ∧ (val m (pbest m P C Vn k w q).2.2 k < val m (pnew P C Vn k w q) k ∨ (val m (pnew P C Vn k w q) k = val m (pbest m P C Vn k w q).2.2 k ∧ better m (pk P k) (pl P (3 * k + q)) (pbest m P C Vn k w q).2.1 (pbest m P C Vn k w q).1 = true)) then (q, pl P (3 * k + q), pnew P C Vn k w q)
    else pbest m P C Vn k w q
def plan (m : Nat) (P : PP) (C : CC) : Nat → Nat → Nat × (Nat → Nat)
  | 0, _ => (9, fun _ => 0)
  | r + 1, w =>
    ((pbest m P C (fun w => (plan m P C r w).2) (who P C (turnsN P C - (r + 1))) w (nWords m P (who P C (turnsN P C - (r + 1))))).1,
     (pbest m P C (fun w => (plan m P C r w).2) (who P C (turnsN P C - (r + 1))) w (nWords m P (who P C (turnsN P C - (r + 1))))).2.2)
/-- a day: water, how many are heard, who is cut off first (9: nobody), worths -/
abbrev DD : Type := Nat × Nat × Nat × (Nat → Nat)
def dstep (P : PP) (C : CC) (t c : Nat) (d : DD) : DD :=
  if c = 9 then (bh P C d.1, d.2.1, d.2.2.1, d.2.2.2)
  else if pl P (3 * who P C t + c) ≤ d.1 then (bh P C (d.1 - pl P (3 * who P C t + c)), d.2.1 + 1, d.2.2.1, fun j => d.2.2.2 j + gn P (who P C t) c j)
  else (bh P C 0, d.2.1, (if d.2.2.1 = 9 then t else d.2.2.1), d.2.2.2)
def dday (P : PP) (C : CC) (said : Nat → Nat → Nat) : Nat → DD
  | 0 => (fw P C, 0, 9, fun _ => 0)
  | t + 1 => dstep P C t (said t (dday P C said t).1) (dday P C said t)
def WfP (P : PP) : Prop := pn P ≤ 5 ∧ pj P ≤ 99 ∧ (pn P = 0 ∨ (2 ≤ pn P ∧ 1 ≤ pj P)) ∧ ∀ k, k < pn P → pk P k ≤ 2 ∧ 1 ≤ pw P k ∧ pw P k ≤ 3 ∧ ∀ q, q < pw P k → 1 ≤ pl P (3 * k + q) ∧ pl P (3 * k + q) ≤ 60 ∧ po P (3 * k + q) ≤ 9 ∧ pt P (3 * k + q) ≤ 9
def WfC (P : PP) (C : CC) : Prop := cw C ≤ 3 ∧ cl C ≤ 9 ∧ (pn P = 0 → cw C = 0) ∧ (∀ p, p < pn P → co C p < pn P) ∧ ∀ p r, p < pn P → r < pn P → co C p = co C r → p = r
def RepP (σ : HS) (P : PP) : Prop := σ.1 5 0 = nI (pn P) ∧ σ.1 5 1 = nI (pj P) ∧ ∀ k, k < pn P → σ.1 6 k = nI (pk P k) ∧ σ.1 7 k = nI (pw P k) ∧ ∀ q, q < pw P k → σ.1 8 (3 * k + q) = nI (pl P (3 * k + q)) ∧ σ.1 9 (3 * k + q) = nI (po P (3 * k + q)) ∧ σ.1 10 (3 * k + q) = nI (pt P (3 * k + q)) ∧ σ.2 11 (3 * k + q) = lN (pkw (gn P k q) 5)
def RepC (σ : HS) (g : Nat) (P : PP) (C : CC) : Prop := σ.1 g 2 = nI (cw C) ∧ σ.1 g 3 = nI (cl C) ∧ ∀ p, p < pn P → σ.1 (g + 1) p = nI (co C p)
def RepM (τ : HS) (P : PP) (C : CC) : Prop := τ.1 0 1 = nI (pn P) ∧ τ.1 0 2 = nI (pj P) ∧ τ.1 0 3 = nI (cl C) ∧ τ.1 0 4 = nI (cw C) ∧ (∀ k, k < pn P → τ.1 1 k = nI (pk P k) ∧ τ.1 2 k = nI (pw P k) ∧ ∀ q, q < pw P k → τ.1 3 (3 * k + q) = nI (pl P (3 * k + q)) ∧ τ.1 4 (3 * k + q) = nI (po P (3 * k + q)) ∧ τ.1 5 (3 * k + q) = nI (pt P (3 * k + q))) ∧ ∀ p, p < pn P → τ.1 6 p = nI (co C p)
def RepSh (σ τ : HS) : Prop := ∀ k, k < 4 → (σ.1 2 k = -1 ∧ σ.1 3 k = 0 ∧ τ.1 21 k = -1) ∨ ∃ a s : Nat, a ≤ 2 ∧ s ≤ 100 ∧ σ.1 2 k = nI a ∧ σ.1 3 k = nI s ∧ τ.1 21 k = nI s ∧ τ.1 22 k = nI a ∧ ∀ i, i < s → σ.1 4 (100 * k + i) = τ.1 23 (100 * k + i)
def RepLog (σ τ : HS) (P : PP) (C : CC) : Prop := ∃ (d : Nat) (lg : Nat → Nat → Nat) (en : Nat → Nat), d ≤ 6 ∧ σ.1 40 3 = nI d ∧ τ.1 0 29 = nI d ∧ ∀ i, i < d → en i ≤ 99 ∧ σ.1 42 i = nI (en i) ∧ τ.1 20 i = nI (en i) ∧ ∀ t, t < turnsN P C → σ.1 41 (6 * i + t) = cd (lg i t) ∧ τ.1 19 (6 * i + t) = cd (lg i t) ∧ (lg i t = 9 ∨ lg i t < pw P (who P C t))
def PlanAt (σ : HS) (g : Nat) (P : PP) (C : CC) : Prop := ∀ t w, t < turnsN P C → w ≤ pj P → σ.1 (g + 3) (t * 100 + w) = cd (plan 0 P C (turnsN P C - t) w).1 ∧ σ.2 (g + 4) (t * 100 + w) = lN (pkw (plan 0 P C (turnsN P C - t) w).2 5)
def PlanOk (σ : HS) (P : PP) (C : CC) : Prop := σ.1 0 11 = 0 ∨ (σ.1 0 11 = 1 ∧ PlanAt σ 20 P C)
def MkAt (σ : HS) (g m : Nat) : Prop := ∃ a : Nat, a ≤ m ∧ σ.1 (g + 2) 7 = nI a ∧ ∀ s, s < 600 → ∃ c : Nat, c ≤ a ∧ σ.1 (g + 6) s = nI c
/-- all words' motions, as they are known -/
def freeSaid (P : PP) (C : CC) (t w : Nat) : Nat := (plan 0 P C (turnsN P C - t) w).1
/-- what is said in turn t of a free day -/
def saysN (P : PP) (C : CC) (t : Nat) : Nat := freeSaid P C t (dday P C (freeSaid P C) t).1
/-- whether a speaker says a word in a free day, by an order -/
def saidBy (P : PP) (C : CC) (od : Nat → Nat) (k q : Nat) : Prop := ∃ t, t < turnsN P C ∧ who P (cw C, cl C, od) t = k ∧ saysN P (cw C, cl C, od) t = q
def chg (P : PP) (C : CC) (od : Nat → Nat) : Nat → Nat
  | 0 => 0
  | n + 1 => chg P C od n + if od n = co C n then 0 else 1
/-- a row of figures in n-s, as an order -/
def dgt (n R p : Nat) : Nat := R / n ^ (n - 1 - p) % n
def permB (n R : Nat) : Bool := (List.range n).all fun p => (List.range n).all fun r => p == r || dgt n R p != dgt n R r
/-- of a word: the order of fewest changes that has it said, and of these the first row -/
def MotAt (σ : HS) (P : PP) (C : CC) : Prop := ∀ k q, k < pn P → q < pw P k → (σ.1 45 (3 * k + q) = 6 ∧ ∀ R, R < pn P ^ pn P → permB (pn P) R = true → ¬ saidBy P C (dgt (pn P) R) k q) ∨ ∃ R r : Nat, R < pn P ^ pn P ∧ permB (pn P) R = true ∧ saidBy P C (dgt (pn P) R) k q ∧ (∀ R', R' < pn P ^ pn P → permB (pn P) R' = true → saidBy P C (dgt (pn P) R') k q → chg P C (dgt (pn P) R) (pn P) < chg P C (dgt (pn P) R') (pn P) ∨ (chg P C (dgt (pn P) R) (pn P) = chg P C (dgt (pn P) R') (pn P) ∧ R ≤ R')) ∧ σ.1 45 (3 * k + q) = nI (chg P C (dgt (pn P) R) (pn P)) ∧ σ.1 46 (3 * k + q) = nI r ∧ r < 32768 ∧ ∀ p, p < pn P → r / 8 ^ p % 8 = dgt (pn P) R p
def MotOk (σ : HS) (P : PP) (C : CC) : Prop := σ.1 44 6 = 0 ∨ (σ.1 44 6 = 1 ∧ MotAt σ P C)
def InvB (j : Nat) (σ τ : HS) (P : PP) (C : CC) : Prop := WfP P ∧ WfC P C ∧ RepP σ P ∧ RepC σ 20 P C ∧ RepM τ P C ∧ RepSh σ τ ∧ RepLog σ τ P C ∧ PlanOk σ P C ∧ MotOk σ P C ∧ MkAt σ 20 (200 * j) ∧ MkAt σ 30 (200 * j) ∧ σ.1 0 12 = τ.1 0 36 ∧ σ.1 0 13 = τ.1 0 0
def Inv (j : Nat) (σ τ : HS) : Prop := ∃ (P : PP) (C : CC), InvB j σ τ P C
theorem MkAt.mono {σ : HS} {g m m2 : Nat} (h : MkAt σ g m) (hm : m ≤ m2) : MkAt σ g m2 := by
  obtain ⟨a, h1, h2, h3⟩ := h
  exact ⟨a, by omega, h2, h3⟩
theorem InvB.mono {j : Nat} {σ τ : HS} {P : PP} {C : CC} (h : InvB j σ τ P C) : InvB (j + 1) σ τ P C := by
  obtain ⟨a1, a2, a3, a4, a5, a6, a7, a8, a9, b1, b2, b3, b4⟩ := h
  exact ⟨a1, a2, a3, a4, a5, a6, a7, a8, a9, b1.mono (by omega), b2.mono (by omega), b3, b4⟩
theorem inv_mono {j : Nat} {σ τ : HS} (h : Inv j σ τ) : Inv (j + 1) σ τ := by
  obtain ⟨P, C, h⟩ := h
  exact ⟨P, C, h.mono⟩
theorem inv_start : Inv 0 sC0 sM0 := by
  refine ⟨(0, 0, fun _ => 0, fun _ => 0, fun _ => 0, fun _ => 0, fun _ => 0), (0, 0, fun _ => 0), ?_⟩
  have z : ∀ k : Nat, ¬ k < pn (0, 0, fun _ => 0, fun _ => 0, fun _ => 0, fun _ => 0, fun _ => 0) := fun k h => absurd h (Nat.not_lt_zero k)
  refine ⟨⟨Nat.zero_le _, Nat.zero_le _, Or.inl rfl, fun k h => absurd h (z k)⟩, ⟨Nat.zero_le _, Nat.zero_le _, fun _ => rfl, fun k h => absurd h (z k), fun k _ h => absurd h (z k)⟩, ⟨rfl, rfl, fun k h => absurd h (z k)⟩, ⟨rfl, rfl, fun k h => absurd h (z k)⟩, ⟨rfl, rfl, rfl, rfl, fun k h => absurd h (z k), fun k h => absurd h (z k)⟩, ?_, ⟨0, fun _ _ => 0, fun _ => 0, by omega, rfl, rfl, fun i h => absurd h (Nat.not_lt_zero i)⟩, Or.inl rfl, Or.inl rfl, ⟨0, by omega, rfl, fun s _ => ⟨0, by omega, rfl⟩⟩, ⟨0, by omega, rfl, fun s _ => ⟨0, by omega, rfl⟩⟩, rfl, rfl⟩
  intro k hk
  left
  match k, hk with
  | 0, _ => exact ⟨rfl, rfl, rfl⟩
  | 1, _ => exact ⟨rfl, rfl, rfl⟩
  | 2, _ => exact ⟨rfl, rfl, rfl⟩
  | 3, _ => exact ⟨rfl, rfl, rfl⟩
/-! what each part of it rests on -/
theorem RepP.congr {σ σ' : HS} {P : PP} (h : RepP σ P) (e : ∀ a, 5 ≤ a → a ≤ 11 → σ'.1 a = σ.1 a ∧ σ'.2 a = σ.2 a) : RepP σ' P := by
  unfold RepP at h ⊢
  rw [(e 5 (by omega) (by omega)).1, (e 6 (by omega) (by omega)).1, (e 7 (by omega) (by omega)).1, (e 8 (by omega) (by omega)).1, (e 9 (by omega) (by omega)).1, (e 10 (by omega) (by omega)).1, (e 11 (by omega) (by omega)).2]
  exact h
theorem RepC.congr {σ σ' : HS} {g : Nat} {P : PP} {C : CC} (h : RepC σ g P C) (e1 : σ'.1 g = σ.1 g) (e2 : σ'.1 (g + 1) = σ.1 (g + 1)) : RepC σ' g P C := by
  unfold RepC at h ⊢; rw [e1, e2]; exact h
theorem RepM.congr {τ τ' : HS} {P : PP} {C : CC} (h : RepM τ P C) (e0 : τ'.1 0 1 = τ.1 0 1 ∧ τ'.1 0 2 = τ.1 0 2 ∧ τ'.1 0 3 = τ.1 0 3 ∧ τ'.1 0 4 = τ.1 0 4) (e : ∀ a, 1 ≤ a → a ≤ 6 → τ'.1 a = τ.1 a) : RepM τ' P C := by
  unfold RepM at h ⊢
  rw [e0.1, e0.2.1, e0.2.2.1, e0.2.2.2, e 1 (by omega) (by omega), e 2 (by omega) (by omega), e 3 (by omega) (by omega), e 4 (by omega) (by omega), e 5 (by omega) (by omega), e 6 (by omega) (by omega)]
  exact h
theorem RepSh.congr {σ σ' τ τ' : HS} (h : RepSh σ τ) (e : σ'.1 2 = σ.1 2 ∧ σ'.1 3 = σ.1 3 ∧ σ'.1 4 = σ.1 4) (e2 : τ'.1 21 = τ.1 21 ∧ τ'.1 22 = τ.1 22 ∧ τ'.1 23 = τ.1 23) : RepSh σ' τ' := by
  unfold RepSh at h ⊢; rw [e.1, e.2.1, e.2.2, e2.1, e2.2.1, e2.2.2]; exact h
theorem RepLog.congr {σ σ' τ τ' : HS} {P : PP} {C : CC} (h : RepLog σ τ P C) (e : σ'.1 40 3 = σ.1 40 3 ∧ σ'.1 41 = σ.1 41 ∧ σ'.1 42 = σ.1 42) (e2 : τ'.1 0 29 = τ.1 0 29 ∧ τ'.1 19 = τ.1 19 ∧ τ'.1 20 = τ.1 20) : RepLog σ' τ' P C := by
  unfold RepLog at h ⊢; rw [e.1, e.2.1, e.2.2, e2.1, e2.2.1, e2.2.2]; exact h
theorem PlanAt.congr {σ σ' : HS} {g : Nat} {P : PP} {C : CC} (h : PlanAt σ g P C) (e1 : σ'.1 (g + 3) = σ.1 (g + 3)) (e2 : σ'.2 (g + 4) = σ.2 (g + 4)) : PlanAt σ' g P C := by
  unfold PlanAt at h ⊢; rw [e1, e2]; exact h
theorem PlanOk.congr {σ σ' : HS} {P : PP} {C : CC} (h : PlanOk σ P C) (e0 : σ'.1 0 11 = σ.1 0 11) (e1 : σ'.1 23 = σ.1 23) (e2 : σ'.2 24 = σ.2 24) : PlanOk σ' P C := by
  unfold PlanOk at h ⊢; rw [e0]
  rcases h with h | ⟨h1, h2⟩
  · exact Or.inl h
  · exact Or.inr ⟨h1, h2.congr e1 e2⟩
theorem MotOk.congr {σ σ' : HS} {P : PP} {C : CC} (h : MotOk σ P C) (e0 : σ'.1 44 6 = σ.1 44 6) (e1 : σ'.1 45 = σ.1 45) (e2 : σ'.1 46 = σ.1 46) : MotOk σ' P C := by
  unfold MotOk MotAt at h ⊢; rw [e0, e1, e2]; exact h
theorem MkAt.congr {σ σ' : HS} {g m : Nat} (h : MkAt σ g m) (e1 : σ'.1 (g + 2) 7 = σ.1 (g + 2) 7) (e2 : σ'.1 (g + 6) = σ.1 (g + 6)) : MkAt σ' g m := by
  unfold MkAt at h ⊢; rw [e1, e2]; exact h
theorem uI_at (σ : HS) (k j a b : Nat) (x : Int32) : (uI σ k j x).1 a b = if a = k ∧ b = j then x else σ.1 a b := by
  by_cases h : a = k
  · subst h
    rw [uI_same]; unfold upd
    by_cases h2 : b = j
    · rw [if_pos h2, if_pos ⟨rfl, h2⟩]
    · rw [if_neg h2, if_neg (fun z => h2 z.2)]
  · rw [uI_other h, if_neg (fun z => h z.1)]
