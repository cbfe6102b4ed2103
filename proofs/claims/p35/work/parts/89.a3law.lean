/-! the council laid and taken, and the law whole -/
def stf (P : PP) : Nat → Nat
  | 0 => 6
  | k + 1 => stf P k + 2 + 5 * pw P k
theorem stf_le {P : PP} (w : WfP P) : ∀ k, k ≤ pn P → stf P k ≤ 6 + 17 * k := by
  intro k
  induction k with
  | zero => intro _; exact Nat.le_refl _
  | succ k ih =>
    intro hk
    have := ih (by omega)
    have := (w.2.2.2 k (by omega)).2.2.1
    show stf P k + 2 + 5 * pw P k ≤ _
    omega
theorem stf_6 (P : PP) : ∀ k, 6 ≤ stf P k := by
  intro k
  induction k with
  | zero => exact Nat.le_refl _
  | succ k ih => show 6 ≤ stf P k + 2 + 5 * pw P k; omega
theorem shOf {σ τ : HS} (rs : RepSh σ τ) {k a s : Nat} (hk : k < 4) (ha : a ≤ 2) (hs : s ≤ 100) (e1 : σ.1 2 k = nI a) (e2 : σ.1 3 k = nI s) : τ.1 21 k = nI s ∧ τ.1 22 k = nI a ∧ ∀ i, i < s → σ.1 4 (100 * k + i) = τ.1 23 (100 * k + i) := by
  rcases rs k hk with ⟨s1, s2, s3⟩ | ⟨a', s', s1, s2, s3, s4, s5, s6, s7⟩
  · rw [e1] at s1; exact absurd s1 (nI_m1 (by omega))
  · have es : s' = s := (nIc (by omega) (by omega)).mp (s4.symm.trans e2)
    have ea : a' = a := (nIc (by omega) (by omega)).mp (s3.symm.trans e1)
    subst es ea
    exact ⟨s5, s6, s7⟩
theorem shZ_s {σ τ : HS} (rs : RepSh σ τ) (e1 : τ.1 21 0 = nI 100) (e2 : τ.1 22 0 = nI 0) : σ.1 2 0 = nI 0 ∧ σ.1 3 0 = nI 100 ∧ ∀ i, i < 100 → σ.1 4 (100 * 0 + i) = τ.1 23 (100 * 0 + i) := by
  rcases rs 0 (by omega) with ⟨s1, s2, s3⟩ | ⟨a', s', s1, s2, s3, s4, s5, s6, s7⟩
  · rw [e1] at s3; exact absurd s3 (nI_m1 (by omega))
  · have es : s' = 100 := (nIc (by omega) (by omega)).mp (s5.symm.trans e1)
    have ea : a' = 0 := (nIc (by omega) (by omega)).mp (s6.symm.trans e2)
    subst es ea
    exact ⟨s3, s4, s7⟩
/-- the council is taken, and the rows tell it -/
def LayQ (j : Nat) (r : LayR) : Prop := ∃ τ P C, InvB (j + 1) r.2.1 τ P C ∧ LwA r.2.2.1 r.2.2.2 P C ∧ ShF τ ∧ r.1 = nI (pn P)
theorem takeY {j l : Nat} {σ τ : HS} {P0 P : PP} {C0 : CC} {a1 a2 : Nat → Int32} (hL : LSt j σ τ P0 C0) (hj : j < 512) (w : WfP P) (h2 : 2 ≤ pn P) (h4 : pn P ≤ 4) (hl : l < 10) (hT : TxT (τ.1 23) P l (stf P (pn P)) (stf P)) (e0 : a1 0 = nI (pn P)) (e1 : a1 1 = nI (pj P)) (e2 : a1 2 = nI l) (e3 : a1 3 = nI 0) (e9 : ∀ k, k < pn P → a1 (9 + k) = nI (pw P k) ∧ a1 (14 + k) = nI k) (eR : ∀ k q, k < pn P → q < pw P k → RowG a2 P k q) : ∃ (r : Int32) (σ' : HS), f8_council 0 0 0 (nI (stf P (pn P))) σ = some (r, σ') ∧ LayQ j (r, σ', a1, a2) := by
  obtain ⟨hB, h21, h22, hF⟩ := hL
  obtain ⟨-, -, -, -, -, rs, -⟩ := id hB
  obtain ⟨z1, z2, z3⟩ := shZ_s rs h21 h22
  obtain ⟨f1, f2, -⟩ := shF_s rs hF
  have sl := stf_le w (pn P) (Nat.le_refl _)
  have j99 := w.2.1
  obtain ⟨σ1, c1, c2, c3, c4, c5, c6, c7⟩ := council_y w h2 h4 hl hT (by omega) (fun q hq => by have := z3 q (by omega); rw [Nat.mul_zero, Nat.zero_add] at this; exact this) z1 z2
  obtain ⟨r, σ2, τ2, d1, -, P1, C1, d2⟩ := op_council j σ τ 0 0 0 (nI (stf P (pn P))) ⟨P0, C0, hB⟩ hj
  have := d1.symm.trans c1
  have er : r = nI (pn P) := congrArg Prod.fst (Option.some.inj this)
  have es : σ2 = σ1 := congrArg Prod.snd (Option.some.inj this)
  subst er es
  obtain ⟨w1, wc1, rp1, rc1, -, rs1, -⟩ := id d2
  have b5 := w1.1
  have b99 := w1.2.1
  have en : pn P1 = pn P := (nIc (by omega) (by omega)).mp (rp1.1.symm.trans c2.1)
  have ej : pj P1 = pj P := (nIc (by omega) (by omega)).mp (rp1.2.1.symm.trans c2.2.1)
  have bc := wc1.1
  have bl := wc1.2.1
  have ec : cw C1 = 0 := (nIc (by omega) (by omega)).mp (rc1.1.symm.trans c3)
  have ecl : cl C1 = l := (nIc (by omega) (by omega)).mp (rc1.2.1.symm.trans c4)
  refine ⟨_, _, c1, τ2, P1, C1, d2, ⟨by omega, by omega, ?_, ?_, ?_, ?_, fun k hk => ?_, fun p hp => ?_⟩, ?_, ?_⟩
  · show a1 0 = _; rw [e0, en]
  · show a1 1 = _; rw [e1, ej]
  · show a1 2 = _; rw [e2, ecl]
  · show a1 3 = _; rw [e3, ec]
  · obtain ⟨-, q1, q2⟩ := rp1.2.2 k hk
    obtain ⟨-, q3, q4⟩ := c2.2.2 k (by omega)
    have w3 := (w1.2.2.2 k hk).2.2.1
    have w3' := (w.2.2.2 k (by omega)).2.2.1
    have ew : pw P1 k = pw P k := (nIc (by omega) (by omega)).mp (q1.symm.trans q3)
    refine ⟨by show a1 (9 + k) = _; rw [(e9 k (by omega)).1, ew], fun q hq => ?_⟩
    obtain ⟨r0, r1, r2⟩ := eR k q (by omega) (by omega)
    obtain ⟨s1, s2, s3, -⟩ := q2 q hq
    obtain ⟨t1, t2, t3, -⟩ := q4 q (by omega)
    exact ⟨r0.trans (t1.symm.trans s1), r1.trans (t2.symm.trans s2), r2.trans (t3.symm.trans s3)⟩
  · show a1 (14 + p) = _
    rw [(e9 p (by omega)).2, ← c5 p (by omega)]
    exact rc1.2.2 p hp
  · have g1 : σ2.1 2 1 = nI 1 := by rw [c6]; exact f1
    have g2 : σ2.1 3 1 = nI 7 := by rw [c7]; exact f2
    obtain ⟨y1, y2, -⟩ := shOf rs1 (k := 1) (a := 1) (s := 7) (by omega) (by omega) (by omega) g1 g2
    exact ⟨y1, y2⟩
  · show nI (pn P) = _; rw [en]
theorem speakY {sL : Nat} {a0 : Nat → Int32} {cv : Nat → Int32} {kf : Int32 → Nat} {lw : Int32 → Nat → Nat} {M l : Nat} {P : PP} {a1 a2 : Nat → Int32} {σ τ : HS} {j : Nat} {P0 : PP} {C0 : CC}
    (d : Drw sL a0 cv kf lw) (eP : P = layP cv kf lw M) (w : WfP P) (hM : 1 ≤ M) (hM2 : M ≤ 60) (h2 : 2 ≤ pn P) (h4 : pn P ≤ 4) (hl : l < 10) (hj : j < 512) (hL : LSt j σ τ P0 C0)
    (e0 : a1 0 = nI (pn P)) (e1 : a1 1 = nI (pj P)) (e2 : a1 2 = nI l) (e3 : a1 3 = nI 0)
    (v0 : τ.1 23 0 = 106) (v1 : τ.1 23 1 = nI (48 + pj P / 10)) (v2 : τ.1 23 2 = nI (48 + pj P % 10)) (v3 : τ.1 23 3 = 59) (v4 : τ.1 23 4 = 108) (v5 : τ.1 23 5 = nI (48 + l)) :
    ∃ r, g_lay_157 sL a0 0 (nI M) (a1, a2, 1, 6, 0, σ) = some r ∧ LayQ j r := by
  unfold g_lay_157
  refine wl_fuel (body := fun k157 p => g_lay_157_b sL a0 k157 p.1 p.2.1 0 (nI M) p.2.2.1 p.2.2.2.1 p.2.2.2.2.1 p.2.2.2.2.2) (fun s : (Nat → Int32) × (Nat → Int32) × Int32 × Int32 × Int32 × HS => ∃ k τ1, k ≤ pn P ∧ s.2.2.1 = 1 ∧ s.2.2.2.1 = nI (stf P k) ∧ s.2.2.2.2.1 = nI k ∧ LSt j s.2.2.2.2.2 τ1 P0 C0 ∧ (∀ i, i < 6 → τ1.1 23 i = τ.1 23 i) ∧ (∀ i, i < 4 → s.1 i = a1 i) ∧ (∀ k', k' < k → stf P k' + 2 + 5 * pw P k' ≤ stf P k ∧ SpT (τ1.1 23) P (stf P k') k' ∧ s.1 (9 + k') = nI (pw P k') ∧ s.1 (14 + k') = nI k') ∧ ∀ k' q, k' < k → q < pw P k' → RowG s.2.1 P k' q) (fun s => 10 - s.2.2.2.2.1.toNatClampNeg) _ _ ⟨0, τ, by omega, rfl, rfl, rfl, hL, fun _ _ => rfl, fun _ _ => rfl, fun k hk => absurd hk (Nat.not_lt_zero k), fun k _ hk => absurd hk (Nat.not_lt_zero k)⟩ (by show 10 - _ < _; omega) ?_
  rintro k157 ⟨b1, b2, x8, x9, x10, σ1⟩ ⟨k, τ1, hk, g1, g2, g3, f1, f2, f3, f4, f5⟩ ih
  have g1 : x8 = 1 := g1
  have g2 : x9 = nI (stf P k) := g2
  have g3 : x10 = nI k := g3
  subst g1 g2 g3
  have f1 : LSt j σ1 τ1 P0 C0 := f1
  have f3' : ∀ i, i < 4 → b1 i = a1 i := f3
  have f4 : ∀ k', k' < k → stf P k' + 2 + 5 * pw P k' ≤ stf P k ∧ SpT (τ1.1 23) P (stf P k') k' ∧ b1 (9 + k') = nI (pw P k') ∧ b1 (14 + k') = nI k' := f4
  have f5 : ∀ k' q, k' < k → q < pw P k' → RowG b2 P k' q := f5
  dsimp only
  unfold g_lay_157_b
  have sl := stf_le w k hk
  rw [ct0, f3' 0 (by omega), e0]
  by_cases c : pn P ≤ k
  · have : k = pn P := by omega
    subst this
    have hT : TxT (τ1.1 23) P l (stf P (pn P)) (stf P) := ⟨by rw [f2 0 (by omega)]; exact v0, by rw [f2 1 (by omega)]; exact v1, by rw [f2 2 (by omega)]; exact v2, by rw [f2 3 (by omega)]; exact v3, by rw [f2 4 (by omega)]; exact v4, by rw [f2 5 (by omega)]; exact v5, rfl, fun k hk => ⟨rfl, (f4 k hk).2.1⟩, rfl⟩
    have ne : ∀ i, i ≠ 40 → upd b1 40 (nI (stf P (pn P))) i = b1 i := fun i hi => upN hi
    obtain ⟨r, σ2, t1, t2⟩ := takeY (a1 := upd b1 40 (nI (stf P (pn P)))) (a2 := b2) f1 hj w h2 h4 hl hT (by rw [ne 0 (by omega), f3' 0 (by omega)]; exact e0) (by rw [ne 1 (by omega), f3' 1 (by omega)]; exact e1) (by rw [ne 2 (by omega), f3' 2 (by omega)]; exact e2) (by rw [ne 3 (by omega), f3' 3 (by omega)]; exact e3) (fun k hk => by rw [ne _ (by omega), ne _ (by omega)]; exact (f4 k hk).2.2) f5
    rw [if_pos (nI_le c (by omega)), bd_s, if_neg n10, ct40, t1, bd_s]
    exact ⟨_, rfl, t2⟩
  · have hkn : k < pn P := by omega
    obtain ⟨k2, w1, w3, wq⟩ := w.2.2.2 k hkn
    have hcell := d.1 (1 + k) (by omega)
    have e1k : ((0 : Int32) + 1) + nI k = nI (1 + k) := nI_add 1 k
    have gl : g_low (cv (1 + k) >>> (3 &&& 31)) 3 = _ := (d.2.2 (cv (1 + k) >>> (3 &&& 31)) 3 (by omega) (by omega)).2
    have ew : pw P k = 1 + lw (cv (1 + k) >>> (3 &&& 31)) 3 := by rw [eP]; rfl
    have ek : pk P k = if cv (1 + k) &&& 7 = 7 then 2 else kf (cv (1 + k)) := by rw [eP]; rfl
    rw [if_neg (nI_ge (by omega) (by omega)), e1k, hcell, bd_s]
    have run : ∃ r, g_lay_201 sL a0 k157 b1 b2 0 (nI M) 1 (nI (stf P k)) (nI k) (cv (1 + k)) (nI (pk P k)) (4 + nI k) σ1 = some r ∧ LayQ j r := by
      unfold g_lay_201
      obtain ⟨σ2, τ2, p1, p2, p3⟩ := put0 f1 (i := stf P k) (c := 59) (by omega) (by omega)
      have p1 : f8_put 0 (nI (stf P k)) 59 σ1 = some (1, σ2) := p1
      rw [le4, ix_in (by omega) (by omega), bd_s, gl, bd_s, le9, ix_in (by omega) (by omega), bd_s, le14, ix_in (by omega) (by omega), bd_s, if_neg n10, p1, bd_s, if_pos rfl, ix_in (by omega) (by omega), ix_in (by omega) (by omega), nI_clamp (by omega), nI_clamp (by omega), nI_clamp (by omega), le1, ← ew]
      have u4 : upd (upd (upd b1 (4 + k) (nI (pk P k))) (9 + k) (nI (pw P k))) (14 + k) (nI k) (4 + k) = nI (pk P k) := by rw [upN (by omega), upN (by omega), upS]
      have u9 : upd (upd (upd b1 (4 + k) (nI (pk P k))) (9 + k) (nI (pw P k))) (14 + k) (nI k) (9 + k) = nI (pw P k) := by rw [upN (by omega), upS]
      have u14 : upd (upd (upd b1 (4 + k) (nI (pk P k))) (9 + k) (nI (pw P k))) (14 + k) (nI k) (14 + k) = nI k := upS
      have uo : ∀ i, i ≠ 4 + k → i ≠ 9 + k → i ≠ 14 + k → upd (upd (upd b1 (4 + k) (nI (pk P k))) (9 + k) (nI (pw P k))) (14 + k) (nI k) i = b1 i := fun i h1 h2 h3 => by rw [upN h3, upN h2, upN h1]
      generalize upd (upd (upd b1 (4 + k) (nI (pk P k))) (9 + k) (nI (pw P k))) (14 + k) (nI k) = b3 at u4 u9 u14 uo
      rw [u4]
      have go : ∀ ch : Nat, ch < 128 → nI ch = kch (pk P k) → ∃ r, g_lay_283 sL a0 k157 b3 b2 0 (nI M) (nI (stf P k)) (nI k) (nI ch) (nI (stf P k) + 1) 0 σ2 = some r ∧ LayQ j r := by
        intro ch hch ech
        obtain ⟨σ3, τ3, q1, q2, q3⟩ := put0 p2 (i := stf P k + 1) (c := ch) (by omega) hch
        unfold g_lay_283 g_lay_295
        rw [nI_1, q1, bd_s, if_pos rfl]
        dsimp only
        refine wordsY k157 d eP w hM hM2 hkn h4 (by omega) u9 q2 f5 (fun a2' σ4 τ4 t1 t2 t3 t4 => ?_)
        have old : ∀ i, i < stf P k → τ4.1 23 i = τ1.1 23 i := fun i hi => by
          rw [t2 i (by omega), q3, if_neg (by omega), p3, if_neg (by omega)]
        have e6 := stf_6 P k
        refine ih _ ⟨k + 1, τ4, by omega, rfl, rfl, rfl, t1, fun i hi => by rw [old i (by omega)]; exact f2 i hi, fun i hi => by show b3 i = _; rw [uo i (by omega) (by omega) (by omega)]; exact f3' i hi, fun k' hk' => ?_, t4⟩ ?_
        · by_cases ck : k' = k
          · subst ck
            refine ⟨Nat.le_refl _, ⟨?_, ?_, t3⟩, u9, u14⟩
            · rw [t2 _ (by omega), q3, if_neg (by omega), p3, if_pos rfl]; rfl
            · rw [t2 _ (by omega), q3, if_pos rfl]; exact ech
          · obtain ⟨y1, ⟨y2, y3, y4⟩, y5, y6⟩ := f4 k' (by omega)
            refine ⟨by show _ ≤ stf P k + 2 + 5 * pw P k; omega, ⟨?_, ?_, fun q hq => ?_⟩, ?_, ?_⟩
            · rw [old _ (by omega)]; exact y2
            · rw [old _ (by omega)]; exact y3
            · obtain ⟨m0, m1, m2, m3, m4⟩ := y4 q hq
              exact ⟨by rw [old _ (by omega)]; exact m0, by rw [old _ (by omega)]; exact m1, by rw [old _ (by omega)]; exact m2, by rw [old _ (by omega)]; exact m3, by rw [old _ (by omega)]; exact m4⟩
            · show b3 _ = _; rw [uo _ (by omega) (by omega) (by omega)]; exact y5
            · show b3 _ = _; rw [uo _ (by omega) (by omega) (by omega)]; exact y6
        · show 10 - (nI (k + 1)).toNatClampNeg < 10 - (nI k).toNatClampNeg
          rw [nI_clamp (by omega), nI_clamp (by omega)]; omega
      have : pk P k = 0 ∨ pk P k = 1 ∨ pk P k = 2 := by omega
      rcases this with z | z | z
      · rw [if_pos (by rw [z]; rfl)]
        exact go 112 (by omega) (by rw [z]; rfl)
      · rw [if_neg (by rw [z]; decide), if_pos (by rw [z]; rfl)]
        exact go 116 (by omega) (by rw [z]; rfl)
      · rw [if_neg (by rw [z]; decide), if_neg (by rw [z]; decide)]
        exact go 111 (by omega) (by rw [z]; rfl)
    by_cases c7 : cv (1 + k) &&& 7 = 7
    · rw [if_pos c7]
      have e : pk P k = 2 := by rw [ek, if_pos c7]
      rw [e] at run
      exact run
    · rw [if_neg c7, (d.2.1 (cv (1 + k))).2]
      have e : pk P k = kf (cv (1 + k)) := by rw [ek, if_neg c7]
      rw [e] at run
      exact run
theorem sheet_y {k a s : Nat} (hk : k < 4) (ha : a < 3) (hs : s ≤ 100) (σ : HS) : ∃ σ', f8_sheet (nI k) (nI a) (nI s) σ = some (1, σ') ∧ (∀ y, σ'.1 2 y = if y = k then nI a else σ.1 2 y) ∧ ∀ y, σ'.1 3 y = if y = k then nI s else σ.1 3 y := by
  obtain ⟨σ', g1, g2, g3, g4, g5, g6⟩ := renew_spec hk (nI a) (nI s) σ
  unfold f8_sheet
  rw [isSheet_y hk, bd_s, if_neg n10]
  dsimp only
  rw [isLane_y ha, bd_s, if_neg n10, if_pos (show nI s ≤ (100 : Int32) from nI_le (b := 100) hs (by omega)), if_pos (nI_pos' (by omega))]
  dsimp only
  rw [g1, bd_s, told_0 (Or.inl (by decide)), bd_s]
  exact ⟨_, rfl, fun y => by rw [uI_other (by omega)]; exact g4 y, fun y => by rw [uI_other (by omega)]; exact g5 y⟩
theorem layL {sL : Nat} {a0 : Nat → Int32} {cv : Nat → Int32} {kf : Int32 → Nat} {lw : Int32 → Nat → Nat} {M : Nat} {σ τ : HS} {j : Nat} {P0 : PP} {C0 : CC} (d : Drw sL a0 cv kf lw) (hM : 1 ≤ M) (hM2 : M ≤ 60) (hj : j < 512) (hL : LSt j σ τ P0 C0) : ∃ r, g_lay sL (fun _ => 0) (fun _ => 0) a0 0 4 (nI M) σ = some r ∧ LayQ j r := by
  obtain ⟨w, h2, h4⟩ := layP_w d hM hM2
  have j99 := w.2.1
  have hcell : g_cell sL a0 0 = some (cv 0) := d.1 0 (by omega)
  have g3 : g_low (cv 0) (4 - 1) = some (nI (lw (cv 0) 3)) := (d.2.2 (cv 0) 3 (by omega) (by omega)).2
  have g99 : g_low (cv 0 >>> (3 &&& 31)) 99 = some (nI (lw (cv 0 >>> (3 &&& 31)) 99)) := (d.2.2 _ 99 (by omega) (by omega)).2
  have g10 : g_low (cv 0 >>> (10 &&& 31)) 10 = some (nI (lw (cv 0 >>> (10 &&& 31)) 10)) := (d.2.2 _ 10 (by omega) (by omega)).2
  have hl := (d.2.2 (cv 0 >>> (10 &&& 31)) 10 (by omega) (by omega)).1
  have en : pn (layP cv kf lw M) = 2 + lw (cv 0) 3 := rfl
  have ej : pj (layP cv kf lw M) = 1 + lw (cv 0 >>> (3 &&& 31)) 99 := rfl
  generalize eP : layP cv kf lw M = P at w h2 h4 en ej j99
  generalize lw (cv 0 >>> (10 &&& 31)) 10 = l at g10 hl
  obtain ⟨σ1, τ1, a1, a2, a3⟩ := put0 hL (i := 0) (c := 106) (by omega) (by omega)
  have a1 : f8_put 0 0 106 σ = some (1, σ1) := a1
  obtain ⟨σ2, τ2, b1, b2, b3⟩ := put0 a2 (i := 1) (c := 48 + pj P / 10) (by omega) (by omega)
  have b1 : f8_put 0 1 (nI (48 + pj P / 10)) σ1 = some (1, σ2) := b1
  obtain ⟨σ3, τ3, c1, c2, c3⟩ := put0 b2 (i := 2) (c := 48 + pj P % 10) (by omega) (by omega)
  have c1 : f8_put 0 2 (nI (48 + pj P % 10)) σ2 = some (1, σ3) := c1
  obtain ⟨σ4, τ4, d1, d2, d3⟩ := put0 c2 (i := 3) (c := 59) (by omega) (by omega)
  have d1 : f8_put 0 3 59 σ3 = some (1, σ4) := d1
  obtain ⟨σ5, τ5, e1, e2, e3⟩ := put0 d2 (i := 4) (c := 108) (by omega) (by omega)
  have e1 : f8_put 0 4 108 σ4 = some (1, σ5) := e1
  obtain ⟨σ6, τ6, f1, f2, f3⟩ := put0 e2 (i := 5) (c := 48 + l) (by omega) (by omega)
  have f1 : f8_put 0 5 (nI (48 + l)) σ5 = some (1, σ6) := f1
  unfold g_lay
  rw [hcell, bd_s, g3, bd_s, le2, ← en, bd_s, g99, bd_s, le1, ← ej, bd_s, g10, bd_s, bd_s, bd_s, a1, bd_s, if_pos rfl, ct0, ct1, ct2, ct3]
  have u0 : upd (upd (upd (upd (fun _ => (0 : Int32)) 0 (nI (pn P))) 1 (nI (pj P))) 2 (nI l)) 3 0 0 = nI (pn P) := by rw [upN (by omega), upN (by omega), upN (by omega), upS]
  have u1 : upd (upd (upd (upd (fun _ => (0 : Int32)) 0 (nI (pn P))) 1 (nI (pj P))) 2 (nI l)) 3 0 1 = nI (pj P) := by rw [upN (by omega), upN (by omega), upS]
  have u2 : upd (upd (upd (upd (fun _ => (0 : Int32)) 0 (nI (pn P))) 1 (nI (pj P))) 2 (nI l)) 3 0 2 = nI l := by rw [upN (by omega), upS]
  have u3 : upd (upd (upd (upd (fun _ => (0 : Int32)) 0 (nI (pn P))) 1 (nI (pj P))) 2 (nI l)) 3 0 3 = nI 0 := upS
  generalize upd (upd (upd (upd (fun _ => (0 : Int32)) 0 (nI (pn P))) 1 (nI (pj P))) 2 (nI l)) 3 0 = b at u0 u1 u2 u3
  dsimp only
  rw [u1, u2, dv10 (by omega), rm10 (by omega), le48, le48, le48, b1, bd_s, if_pos rfl]
  dsimp only
  rw [c1, bd_s, if_pos rfl]
  dsimp only
  rw [d1, bd_s, if_pos rfl]
  dsimp only
  rw [e1, bd_s, if_pos rfl]
  dsimp only
  rw [f1, bd_s, if_pos rfl]
  dsimp only
  unfold g_lay_148
  refine speakY d eP.symm w hM hM2 h2 h4 hl hj f2 u0 u1 u2 u3 ?_ ?_ ?_ ?_ ?_ ?_
  · rw [f3, if_neg (by omega), e3, if_neg (by omega), d3, if_neg (by omega), c3, if_neg (by omega), b3, if_neg (by omega), a3, if_pos rfl]; rfl
  · rw [f3, if_neg (by omega), e3, if_neg (by omega), d3, if_neg (by omega), c3, if_neg (by omega), b3, if_pos rfl]
  · rw [f3, if_neg (by omega), e3, if_neg (by omega), d3, if_neg (by omega), c3, if_pos rfl]
  · rw [f3, if_neg (by omega), e3, if_neg (by omega), d3, if_pos rfl]; rfl
  · rw [f3, if_neg (by omega), e3, if_pos rfl]; rfl
  · rw [f3, if_pos rfl]
/-- the law, as a function, answers 1 -/
theorem law_one (sL : Nat) (hsL : sL ≤ 260) (a0 : Nat → Int32) : g_law sL a0 sC0 0 = some 1 := by
  obtain ⟨cv, kf, lw, d⟩ := drw_ex hsL a0
  obtain ⟨σ1, a1, a2, a3⟩ := sheet_y (k := 0) (a := 0) (s := 100) (by omega) (by omega) (by omega) sC0
  obtain ⟨σ2, b1, b2, b3⟩ := sheet_y (k := 1) (a := 1) (s := 7) (by omega) (by omega) (by omega) σ1
  have a1 : f8_sheet 0 0 100 sC0 = some (1, σ1) := a1
  have b1 : f8_sheet 1 1 7 σ1 = some (1, σ2) := b1
  obtain ⟨r1, σ1', τ1, c1, -, c2⟩ := op_sheet 0 sC0 sM0 0 0 100 inv_start (by omega)
  have es1 : σ1' = σ1 := congrArg Prod.snd (Option.some.inj (c1.symm.trans a1))
  subst es1
  obtain ⟨r2, σ2', τ2, d1, -, P0, C0, d2⟩ := op_sheet 1 σ1' τ1 1 1 7 c2 (by omega)
  have es2 : σ2' = σ2 := congrArg Prod.snd (Option.some.inj (d1.symm.trans b1))
  subst es2
  obtain ⟨-, -, -, -, -, rs, -⟩ := id d2
  obtain ⟨s1, s2, -⟩ := shOf rs (k := 0) (a := 0) (s := 100) (by omega) (by omega) (by omega) (by rw [b2, if_neg (by omega), a2, if_pos rfl]) (by rw [b3, if_neg (by omega), a3, if_pos rfl])
  obtain ⟨t1, t2, -⟩ := shOf rs (k := 1) (a := 1) (s := 7) (by omega) (by omega) (by omega) (by rw [b2, if_pos rfl]) (by rw [b3, if_pos rfl])
  have hL : LSt 2 σ2' τ2 P0 C0 := ⟨d2, s1, s2, t1, t2⟩
  have run : ∀ M : Nat, 1 ≤ M → M ≤ 60 → g_law_66 sL a0 (fun _ => 0) (fun _ => 0) (nI M) 4 0 σ2' (0 + 1 + 1) = some 1 := by
    intro M hM hM2
    obtain ⟨⟨r, σ3, b, b'⟩, e1, τ3, P, C, e2, e3, e4, e5⟩ := layL d hM hM2 (by omega) hL
    have e5 : r = nI (pn P) := e5
    have e3 : LwA b b' P C := e3
    have e2 : InvB 3 σ3 τ3 P C := e2
    unfold g_law_66
    rw [e1, bd_s]
    dsimp only
    rw [ct0, if_pos (e5.trans e3.2.2.1.symm), e3.2.2.1]
    exact roundL hsL e3 e2 e4 (by omega) (by omega)
  have hcell : g_cell sL a0 11 = some (cv 11) := d.1 11 (by omega)
  unfold g_law
  rw [if_neg (by omega), if_neg (by omega), a1, bd_s, if_pos rfl]
  dsimp only
  rw [b1, bd_s, if_pos rfl]
  dsimp only
  rw [hcell, bd_s]
  by_cases c : cv 11 &&& 1 = 0
  · rw [if_pos c]; exact run 60 (by omega) (by omega)
  · rw [if_neg c]; exact run 30 (by omega) (by omega)
