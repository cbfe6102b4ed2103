/-! the law lays a council's text; the class takes it -/
theorem lr3 (p : Nat) : nI p + (3 : Int32) = nI (p + 3) := nI_add p 3
theorem lr4 (p : Nat) : nI p + (4 : Int32) = nI (p + 4) := nI_add p 4
theorem lr5 (p : Nat) : nI p + (5 : Int32) = nI (p + 5) := nI_add p 5
theorem le1 (p : Nat) : (1 : Int32) + nI p = nI (1 + p) := nI_add 1 p
theorem le2 (p : Nat) : (2 : Int32) + nI p = nI (2 + p) := nI_add 2 p
theorem le48 (p : Nat) : (48 : Int32) + nI p = nI (48 + p) := nI_add 48 p
theorem dv10 {x : Nat} (h : x < 1000) : nI x / (10 : Int32) = nI (x / 10) := pk_div (d := 10) (by omega) (by omega) (by omega)
theorem rm10 {x : Nat} (h : x < 1000) : nI x - nI (x / 10) * (10 : Int32) = nI (x % 10) := by
  rw [← dv10 h]
  exact pk_rem (d := 10) (by omega) (by omega) (by omega)
def wsh (cv : Nat → Int32) (s : Nat) : Int32 := cv (6 + s / 3) >>> ((9 * nI (s % 3)) &&& 31)
def layP (cv : Nat → Int32) (kf : Int32 → Nat) (lw : Int32 → Nat → Nat) (M : Nat) : PP := (2 + lw (cv 0) 3, 1 + lw (cv 0 >>> (3 &&& 31)) 99, fun k => if cv (1 + k) &&& 7 = 7 then 2 else kf (cv (1 + k)), fun k => 1 + lw (cv (1 + k) >>> (3 &&& 31)) 3, fun s => 1 + lw (wsh cv s) M, fun s => lw (wsh cv s >>> (3 &&& 31)) 10, fun s => lw (wsh cv s >>> (5 &&& 31)) 10)
/-- what the cells hold, and what is taken of them -/
def Drw (sL : Nat) (a0 : Nat → Int32) (cv : Nat → Int32) (kf : Int32 → Nat) (lw : Int32 → Nat → Nat) : Prop := (∀ k, k < 1000 → g_cell sL a0 (nI k) = some (cv k)) ∧ (∀ v, kf v ≤ 1 ∧ v &&& 1 = nI (kf v)) ∧ ∀ v n, 0 < n → n < 1000 → lw v n < n ∧ g_low v (nI n) = some (nI (lw v n))
theorem drw_ex {sL : Nat} (hsL : sL ≤ 260) (a0 : Nat → Int32) : ∃ cv kf lw, Drw sL a0 cv kf lw := by
  have h1 : ∀ k : Nat, ∃ v, k < 1000 → g_cell sL a0 (nI k) = some v := fun k => by
    by_cases c : k < 1000
    · obtain ⟨v, hv⟩ := cellL hsL a0 k (by omega)
      exact ⟨v, fun _ => hv⟩
    · exact ⟨0, fun z => absurd z c⟩
  have h2 : ∀ v : Int32, ∃ m : Nat, m ≤ 1 ∧ v &&& 1 = nI m := fun v => by
    have h : ∃ m, m < 2 ^ 1 ∧ v &&& 1 = nI m := pk_andE v 1 rfl
    obtain ⟨m, m1, m2⟩ := h
    exact ⟨m, by omega, m2⟩
  have h3 : ∀ (v : Int32) (n : Nat), ∃ m : Nat, 0 < n → n < 1000 → m < n ∧ g_low v (nI n) = some (nI m) := fun v n => by
    by_cases c : 0 < n ∧ n < 1000
    · obtain ⟨m, m1, m2⟩ := lowL v c.1 c.2
      exact ⟨m, fun _ _ => ⟨m1, m2⟩⟩
    · exact ⟨0, fun z1 z2 => absurd ⟨z1, z2⟩ c⟩
  exact ⟨fun k => Classical.choose (h1 k), fun v => Classical.choose (h2 v), fun v n => Classical.choose (h3 v n), fun k => Classical.choose_spec (h1 k), fun v => Classical.choose_spec (h2 v), fun v n => Classical.choose_spec (h3 v n)⟩
theorem layP_w {sL : Nat} {a0 : Nat → Int32} {cv : Nat → Int32} {kf : Int32 → Nat} {lw : Int32 → Nat → Nat} {M : Nat} (d : Drw sL a0 cv kf lw) (hM : 1 ≤ M) (hM2 : M ≤ 60) : WfP (layP cv kf lw M) ∧ 2 ≤ pn (layP cv kf lw M) ∧ pn (layP cv kf lw M) ≤ 4 := by
  obtain ⟨-, d2, d3⟩ := d
  have n3 := (d3 (cv 0) 3 (by omega) (by omega)).1
  have n99 := (d3 (cv 0 >>> (3 &&& 31)) 99 (by omega) (by omega)).1
  have en : pn (layP cv kf lw M) = 2 + lw (cv 0) 3 := rfl
  refine ⟨⟨by omega, ?_, Or.inr ⟨by omega, ?_⟩, fun k hk => ⟨?_, ?_, ?_, fun q hq => ⟨?_, ?_, ?_, ?_⟩⟩⟩, by omega, by omega⟩
  · show 1 + _ ≤ 99; omega
  · show 1 ≤ 1 + _; omega
  · show (if cv (1 + k) &&& 7 = 7 then 2 else kf (cv (1 + k))) ≤ 2
    have := (d2 (cv (1 + k))).1
    split <;> omega
  · show 1 ≤ 1 + _; omega
  · have := (d3 (cv (1 + k) >>> (3 &&& 31)) 3 (by omega) (by omega)).1
    show 1 + _ ≤ 3; omega
  · show 1 ≤ 1 + _; omega
  · have := (d3 (wsh cv (3 * k + q)) M (by omega) (by omega)).1
    show 1 + _ ≤ 60; omega
  · have := (d3 (wsh cv (3 * k + q) >>> (3 &&& 31)) 10 (by omega) (by omega)).1
    show lw (wsh cv (3 * k + q) >>> (3 &&& 31)) 10 ≤ 9; omega
  · have := (d3 (wsh cv (3 * k + q) >>> (5 &&& 31)) 10 (by omega) (by omega)).1
    show lw (wsh cv (3 * k + q) >>> (5 &&& 31)) 10 ≤ 9; omega
def LSt (j : Nat) (σ τ : HS) (P0 : PP) (C0 : CC) : Prop := InvB j σ τ P0 C0 ∧ τ.1 21 0 = nI 100 ∧ τ.1 22 0 = nI 0 ∧ ShF τ
theorem put0 {j : Nat} {σ τ : HS} {P0 : PP} {C0 : CC} (h : LSt j σ τ P0 C0) {i c : Nat} (hi : i < 100) (hc : c < 128) : ∃ σ' τ', f8_put 0 (nI i) (nI c) σ = some (1, σ') ∧ LSt j σ' τ' P0 C0 ∧ ∀ q, τ'.1 23 q = if q = i then nI c else τ.1 23 q := by
  obtain ⟨h1, h2, h3, h4⟩ := h
  obtain ⟨σ1, a1, a2⟩ := put_g h1 (k := 0) (a := 0) (s := 100) (i := i) (by omega) (by omega) (by omega) h2 h3 hi (nI c)
  rw [cutV0 hc] at a2
  refine ⟨σ1, _, a1, ⟨a2, h2, h3, h4⟩, fun q => ?_⟩
  show (uI (uI τ 23 (100 * 0 + i) (nI c)) 0 0 0).1 23 q = _
  rw [uI_other (by omega), uI_at]
  by_cases cq : q = i
  · rw [if_pos ⟨rfl, by omega⟩, if_pos cq]
  · rw [if_neg (by omega), if_neg cq]
def RowG (a2 : Nat → Int32) (P : PP) (k q : Nat) : Prop := a2 (9 * k + 3 * q) = nI (pl P (3 * k + q)) ∧ a2 (9 * k + 3 * q + 1) = nI (po P (3 * k + q)) ∧ a2 (9 * k + 3 * q + 2) = nI (pt P (3 * k + q))
abbrev LayR : Type := Int32 × HS × (Nat → Int32) × (Nat → Int32)
theorem wordsY {sL : Nat} {a0 : Nat → Int32} {cv : Nat → Int32} {kf : Int32 → Nat} {lw : Int32 → Nat → Nat} {M : Nat} {P : PP} {Q : LayR → Prop} (k157 : (Nat → Int32) × (Nat → Int32) × Int32 × Int32 × Int32 × HS → Option LayR) {a1 a2 : Nat → Int32} {σ τ : HS} {j k b : Nat} {P0 : PP} {C0 : CC}
    (d : Drw sL a0 cv kf lw) (eP : P = layP cv kf lw M) (w : WfP P) (hM : 1 ≤ M) (hM2 : M ≤ 60) (hk : k < pn P) (h4 : pn P ≤ 4) (hb : b + 17 ≤ 100) (hw : a1 (9 + k) = nI (pw P k)) (hL : LSt j σ τ P0 C0) (hA : ∀ k' q, k' < k → q < pw P k' → RowG a2 P k' q)
    (hK : ∀ a2' σ' τ', LSt j σ' τ' P0 C0 → (∀ q, q < b + 2 → τ'.1 23 q = τ.1 23 q) → (∀ q, q < pw P k → WdT (τ'.1 23) (b + 2 + 5 * q) (pl P (3 * k + q)) (po P (3 * k + q)) (pt P (3 * k + q))) → (∀ k' q, k' < k + 1 → q < pw P k' → RowG a2' P k' q) → ∃ r, k157 (a1, a2', 1, nI (b + 2 + 5 * pw P k), nI (k + 1), σ') = some r ∧ Q r) :
    ∃ r, g_lay_303 sL a0 k157 a1 0 (nI M) (nI k) (a2, 1, nI b + 2, 0, σ) = some r ∧ Q r := by
  obtain ⟨-, w1, w3, wq⟩ := w.2.2.2 k hk
  rw [lr2]
  unfold g_lay_303
  refine wl_fuel (body := fun k303 p => g_lay_303_b sL a0 k157 k303 a1 p.1 0 (nI M) p.2.1 p.2.2.1 (nI k) p.2.2.2.1 p.2.2.2.2) (fun s : (Nat → Int32) × Int32 × Int32 × Int32 × HS => ∃ q τ1, q ≤ pw P k ∧ s.2.1 = 1 ∧ s.2.2.1 = nI (b + 2 + 5 * q) ∧ s.2.2.2.1 = nI q ∧ LSt j s.2.2.2.2 τ1 P0 C0 ∧ (∀ i, i < b + 2 → τ1.1 23 i = τ.1 23 i) ∧ (∀ q', q' < q → WdT (τ1.1 23) (b + 2 + 5 * q') (pl P (3 * k + q')) (po P (3 * k + q')) (pt P (3 * k + q'))) ∧ (∀ k' q', k' < k → q' < pw P k' → RowG s.1 P k' q') ∧ ∀ q', q' < q → RowG s.1 P k q') (fun s => 10 - s.2.2.2.1.toNatClampNeg) _ _ ⟨0, τ, by omega, rfl, rfl, rfl, hL, fun _ _ => rfl, fun q hq => absurd hq (Nat.not_lt_zero q), hA, fun q hq => absurd hq (Nat.not_lt_zero q)⟩ (by show 10 - _ < _; omega) ?_
  rintro k303 ⟨c2, x8, x9, x12, σ1⟩ ⟨q, τ1, hq, e1, e2, e3, f1, f2, f3, f4, f5⟩ ih
  have e1 : x8 = 1 := e1
  have e2 : x9 = nI (b + 2 + 5 * q) := e2
  have e3 : x12 = nI q := e3
  subst e1 e2 e3
  have f1 : LSt j σ1 τ1 P0 C0 := f1
  have f4 : ∀ k' q', k' < k → q' < pw P k' → RowG c2 P k' q' := f4
  have f5 : ∀ q', q' < q → RowG c2 P k q' := f5
  dsimp only
  unfold g_lay_303_b
  rw [le9, ix_in (by omega) (by omega), nI_clamp (by omega), hw]
  by_cases c : pw P k ≤ q
  · have : q = pw P k := by omega
    subst this
    rw [if_pos (nI_le c (by omega)), nI_1]
    refine hK c2 σ1 τ1 f1 f2 f3 (fun k' q' h1 h3 => ?_)
    by_cases ck : k' = k
    · subst ck; exact f5 q' h3
    · exact f4 k' q' (by omega) h3
  · obtain ⟨l1, l60, lo, lt⟩ := wq q (by omega)
    have hcell := d.1 (6 + k) (by omega)
    have e6 : ((0 : Int32) + 6) + nI k = nI (6 + k) := nI_add 6 k
    have ew : cv (6 + k) >>> ((9 * nI q) &&& 31) = wsh cv (3 * k + q) := by
      unfold wsh
      rw [show (3 * k + q) / 3 = k by omega, show (3 * k + q) % 3 = q by omega]
    have g1 := (d.2.2 (wsh cv (3 * k + q)) M (by omega) (by omega)).2
    have g2 : g_low (wsh cv (3 * k + q) >>> (3 &&& 31)) 10 = _ := (d.2.2 (wsh cv (3 * k + q) >>> (3 &&& 31)) 10 (by omega) (by omega)).2
    have g3 : g_low (wsh cv (3 * k + q) >>> (5 &&& 31)) 10 = _ := (d.2.2 (wsh cv (3 * k + q) >>> (5 &&& 31)) 10 (by omega) (by omega)).2
    have el : pl P (3 * k + q) = 1 + lw (wsh cv (3 * k + q)) M := by rw [eP]; rfl
    have eo : po P (3 * k + q) = lw (wsh cv (3 * k + q) >>> (3 &&& 31)) 10 := by rw [eP]; rfl
    have et : pt P (3 * k + q) = lw (wsh cv (3 * k + q) >>> (5 &&& 31)) 10 := by rw [eP]; rfl
    obtain ⟨σ2, τ2, a1', a2', a3'⟩ := put0 f1 (i := b + 2 + 5 * q) (c := 119) (by omega) (by omega)
    have a1' : f8_put 0 (nI (b + 2 + 5 * q)) 119 σ1 = some (1, σ2) := a1'
    obtain ⟨σ3, τ3, b1', b2', b3'⟩ := put0 a2' (i := b + 2 + 5 * q + 1) (c := 48 + pl P (3 * k + q) / 10) (by omega) (by omega)
    obtain ⟨σ4, τ4, c1', c2', c3'⟩ := put0 b2' (i := b + 2 + 5 * q + 2) (c := 48 + pl P (3 * k + q) % 10) (by omega) (by omega)
    obtain ⟨σ5, τ5, d1', d2', d3'⟩ := put0 c2' (i := b + 2 + 5 * q + 3) (c := 48 + po P (3 * k + q)) (by omega) (by omega)
    obtain ⟨σ6, τ6, h1', h2', h3'⟩ := put0 d2' (i := b + 2 + 5 * q + 4) (c := 48 + pt P (3 * k + q)) (by omega) (by omega)
    rw [if_neg (nI_ge (by omega) (by omega)), e6, hcell, bd_s, ew, g1, bd_s, l93, ix_in (by omega) (by omega), bd_s, g2, bd_s, nI_1, ix_in (by omega) (by omega), bd_s, g3, bd_s, lr2, ix_in (by omega) (by omega), bd_s, if_neg n10, a1', bd_s, if_pos rfl, ix_in (by omega) (by omega), nI_clamp (by omega), nI_clamp (by omega), nI_clamp (by omega), le1, ← el, ← eo, ← et]
    have u0 : upd (upd (upd c2 (9 * k + 3 * q) (nI (pl P (3 * k + q)))) (9 * k + 3 * q + 1) (nI (po P (3 * k + q)))) (9 * k + 3 * q + 2) (nI (pt P (3 * k + q))) (9 * k + 3 * q) = nI (pl P (3 * k + q)) := by rw [upN (by omega), upN (by omega), upS]
    have u1 : upd (upd (upd c2 (9 * k + 3 * q) (nI (pl P (3 * k + q)))) (9 * k + 3 * q + 1) (nI (po P (3 * k + q)))) (9 * k + 3 * q + 2) (nI (pt P (3 * k + q))) (9 * k + 3 * q + 1) = nI (po P (3 * k + q)) := by rw [upN (by omega), upS]
    have u2 : upd (upd (upd c2 (9 * k + 3 * q) (nI (pl P (3 * k + q)))) (9 * k + 3 * q + 1) (nI (po P (3 * k + q)))) (9 * k + 3 * q + 2) (nI (pt P (3 * k + q))) (9 * k + 3 * q + 2) = nI (pt P (3 * k + q)) := upS
    have uo : ∀ s, s < 9 * k + 3 * q → upd (upd (upd c2 (9 * k + 3 * q) (nI (pl P (3 * k + q)))) (9 * k + 3 * q + 1) (nI (po P (3 * k + q)))) (9 * k + 3 * q + 2) (nI (pt P (3 * k + q))) s = c2 s := fun s hs => by rw [upN (by omega), upN (by omega), upN (by omega)]
    generalize upd (upd (upd c2 (9 * k + 3 * q) (nI (pl P (3 * k + q)))) (9 * k + 3 * q + 1) (nI (po P (3 * k + q)))) (9 * k + 3 * q + 2) (nI (pt P (3 * k + q))) = c3 at u0 u1 u2 uo
    dsimp only
    rw [u0, dv10 (by omega), rm10 (by omega), le48, le48, nI_1, b1', bd_s, if_pos rfl, ixc (by omega) (by omega)]
    dsimp only
    rw [lr2, c1', bd_s, if_pos rfl, ixc (by omega) (by omega)]
    dsimp only
    rw [u1, le48, lr3, d1', bd_s, if_pos rfl, ixc (by omega) (by omega)]
    dsimp only
    rw [u2, le48, lr4, h1', bd_s, if_pos rfl]
    unfold g_lay_503
    rw [nI_1, lr5]
    have old : ∀ i, i < b + 2 + 5 * q → τ6.1 23 i = τ1.1 23 i := fun i hi => by
      rw [h3', if_neg (by omega), d3', if_neg (by omega), c3', if_neg (by omega), b3', if_neg (by omega), a3', if_neg (by omega)]
    refine ih _ ⟨q + 1, τ6, by omega, rfl, rfl, rfl, h2', fun i hi => by rw [old i (by omega)]; exact f2 i hi, fun q' hq' => ?_, fun k' q' h1 h3 => ?_, fun q' hq' => ?_⟩ ?_
    · by_cases cq : q' = q
      · subst cq
        refine ⟨?_, ?_, ?_, ?_, ?_⟩
        · rw [h3', if_neg (by omega), d3', if_neg (by omega), c3', if_neg (by omega), b3', if_neg (by omega), a3', if_pos rfl]; rfl
        · rw [h3', if_neg (by omega), d3', if_neg (by omega), c3', if_neg (by omega), b3', if_pos rfl]
        · rw [h3', if_neg (by omega), d3', if_neg (by omega), c3', if_pos rfl]
        · rw [h3', if_neg (by omega), d3', if_pos rfl]
        · rw [h3', if_pos rfl]
      · obtain ⟨t0, t1, t2, t3, t4⟩ := f3 q' (by omega)
        exact ⟨by rw [old _ (by omega)]; exact t0, by rw [old _ (by omega)]; exact t1, by rw [old _ (by omega)]; exact t2, by rw [old _ (by omega)]; exact t3, by rw [old _ (by omega)]; exact t4⟩
    · have w3' := (w.2.2.2 k' (by omega)).2.2.1
      obtain ⟨r0, r1, r2⟩ := f4 k' q' h1 h3
      exact ⟨by show c3 _ = _; rw [uo _ (by omega)]; exact r0, by show c3 _ = _; rw [uo _ (by omega)]; exact r1, by show c3 _ = _; rw [uo _ (by omega)]; exact r2⟩
    · by_cases cq : q' = q
      · subst cq; exact ⟨u0, u1, u2⟩
      · obtain ⟨r0, r1, r2⟩ := f5 q' (by omega)
        exact ⟨by show c3 _ = _; rw [uo _ (by omega)]; exact r0, by show c3 _ = _; rw [uo _ (by omega)]; exact r1, by show c3 _ = _; rw [uo _ (by omega)]; exact r2⟩
    · show 10 - (nI (q + 1)).toNatClampNeg < 10 - (nI q).toNatClampNeg
      rw [nI_clamp (by omega), nI_clamp (by omega)]; omega
