/-! the class reads a text that is in order -/
theorem sg_y {σ : HS} {n p : Nat} {v : Nat → Int32} {c : Int32} (h : Cs σ 0 0 n v p) (hn : n ≤ 100) (hp : p < n) (hv : v p = c) : ∃ σ', f6_readSign c σ = some (1, σ') ∧ Fr19 σ σ' ∧ Cs σ' 0 0 n v (p + 1) := by
  unfold f6_readSign
  rcases next_c h (by omega) (by omega) c with ⟨-, -, e⟩ | ⟨e0, -⟩
  · rw [e, bd_s, if_neg n10]
    dsimp only
    rw [h.2.2.2.1, nI_1]
    exact ⟨_, rfl, fr19 σ 4 _, h.to (by omega)⟩
  · exact absurd ⟨hp, hv⟩ e0
theorem nx_y {σ : HS} {n p : Nat} {v : Nat → Int32} {c : Int32} (h : Cs σ 0 0 n v p) (hn : n ≤ 100) (hp : p < n) (hv : v p = c) : f6_isNext c σ = some (1, σ) := by
  rcases next_c h (by omega) (by omega) c with ⟨-, -, e⟩ | ⟨e0, -⟩
  · exact e
  · exact absurd ⟨hp, hv⟩ e0
theorem nx_n {σ : HS} {n p : Nat} {v : Nat → Int32} {c : Int32} (h : Cs σ 0 0 n v p) (hn : n ≤ 100) (hv : ¬ (p < n ∧ v p = c)) : f6_isNext c σ = some (0, σ) := by
  rcases next_c h (by omega) (by omega) c with ⟨e1, e2, -⟩ | ⟨-, e⟩
  · exact absurd ⟨e1, e2⟩ hv
  · exact e
theorem dg_y {σ : HS} {n p d : Nat} {v : Nat → Int32} (h : Cs σ 0 0 n v p) (hn : n ≤ 100) (hp : p < n) (hd : d < 10) (hv : v p = nI (48 + d)) : ∃ σ', f6_readDigit σ = some (nI d, σ') ∧ Fr19 σ σ' ∧ Cs σ' 0 0 n v (p + 1) := by
  rcases digit_cl h (by omega) (by omega) with ⟨d', h1, h2, h3, e⟩ | ⟨e0, -⟩
  · have : d' = d := by
      rw [hv] at h3
      have := (nIc (by omega) (by omega)).mp h3
      omega
    subst this
    exact ⟨_, e, fr19 σ 4 _, h.to (by omega)⟩
  · exact absurd ⟨hp, d, hd, hv⟩ e0
theorem nb_y {σ : HS} {n p M x : Nat} {v : Nat → Int32} (h : Cs σ 0 0 n v p) (hn : n ≤ 100) (hM : M ≤ 99) (h1 : 1 ≤ x) (hx : x ≤ M) (hp : p + 1 < n) (hv : v p = nI (48 + x / 10)) (hv2 : v (p + 1) = nI (48 + x % 10)) : ∃ σ', f6_readNumber (nI M) σ = some (nI x, σ') ∧ Fr19 σ σ' ∧ Cs σ' 0 0 n v (p + 2) := by
  obtain ⟨σ1, a1, a2, a3⟩ := dg_y h hn (by omega) (d := x / 10) (by omega) hv
  obtain ⟨σ2, b1, b2, b3⟩ := dg_y a3 hn hp (d := x % 10) (by omega) hv2
  unfold f6_readNumber
  rw [a1, bd_s, if_pos (nI_pos' (by omega)), show nI M / (10 : Int32) = nI (M / 10) from pk_div (d := 10) (by omega) (by omega) (by omega), if_pos (nI_le (by omega) (by omega))]
  dsimp only
  rw [b1, bd_s, if_pos (nI_pos' (by omega))]
  dsimp only
  rw [e10, show 10 * (x / 10) + x % 10 = x by omega, if_neg (show ¬ nI x < (1 : Int32) from nI_nlt (b := 1) h1 (by omega)), if_pos (nI_le hx (by omega))]
  exact ⟨_, rfl, a2.tr b2, b3⟩
theorem jar_y {σ : HS} {n J l : Nat} {v : Nat → Int32} (h : Cs σ 0 0 n v 0) (hn : n ≤ 100) (h6 : 6 ≤ n) (hJ : 1 ≤ J) (hJ2 : J ≤ 99) (hl : l < 10) (v0 : v 0 = 106) (v1 : v 1 = nI (48 + J / 10)) (v2 : v 2 = nI (48 + J % 10)) (v3 : v 3 = 59) (v4 : v 4 = 108) (v5 : v 5 = nI (48 + l)) : ∃ σ', f6_readJar σ = some (1, σ') ∧ FrR σ σ' ∧ Cs σ' 0 0 n v 6 ∧ σ'.1 12 0 = nI 0 ∧ σ'.1 12 1 = nI J ∧ σ'.1 12 2 = nI l := by
  obtain ⟨σ1, a1, a2, a3⟩ := sg_y h hn (by omega) v0
  obtain ⟨σ2, b1, b2, b3⟩ := nb_y a3 hn (M := 99) (by omega) hJ hJ2 (by omega) v1 v2
  have b1 : f6_readNumber 99 σ1 = some (nI J, σ2) := b1
  obtain ⟨σ3, c1, c2, c3⟩ := sg_y b3 hn (by omega) v3
  obtain ⟨σ4, d1, d2, d3⟩ := sg_y c3 hn (by omega) v4
  obtain ⟨σ5, e1, e2, e3⟩ := dg_y d3 hn (by omega) hl v5
  unfold f6_readJar f4_begin
  rw [a1, bd_s, if_neg n10]
  dsimp only
  rw [b1, bd_s, if_neg (nI_pos (by omega))]
  dsimp only
  rw [c1, bd_s, if_neg n10]
  dsimp only
  rw [d1, bd_s, if_neg n10]
  dsimp only
  rw [e1, bd_s, bd_s, if_neg (nI_pos (by omega))]
  have fr : Fr19 σ σ5 := (((a2.tr b2).tr c2).tr d2).tr e2
  refine ⟨_, rfl, ⟨fun b hb h9 => ?_, fr.2⟩, e3.fr ?_ ?_, ?_, ?_, ?_⟩
  · show (uI (uI (uI σ5 12 0 0) 12 1 (nI J)) 12 2 (nI l)).1 b = _
    rw [uI_other (by omega), uI_other (by omega), uI_other (by omega), fr.1 b (by omega)]
  · show (uI (uI (uI σ5 12 0 0) 12 1 (nI J)) 12 2 (nI l)).1 4 = _
    rw [uI_other (by omega), uI_other (by omega), uI_other (by omega)]
  · show (uI (uI (uI σ5 12 0 0) 12 1 (nI J)) 12 2 (nI l)).1 19 = _
    rw [uI_other (by omega), uI_other (by omega), uI_other (by omega)]
  · simp [uI_at]; rfl
  · simp [uI_at]
  · simp [uI_at]
/-- a word in the text -/
def WdT (v : Nat → Int32) (b x y z : Nat) : Prop := v b = 119 ∧ v (b + 1) = nI (48 + x / 10) ∧ v (b + 2) = nI (48 + x % 10) ∧ v (b + 3) = nI (48 + y) ∧ v (b + 4) = nI (48 + z)
theorem word_y {σ : HS} {n p c m x y z : Nat} {v : Nat → Int32} (h : Cs σ 0 0 n v p) (hn : n ≤ 100) (hp : p + 5 ≤ n) (ht : WdT v p x y z) (hx : 1 ≤ x) (hx2 : x ≤ 60) (hy : y < 10) (hz : z < 10) (hc : c < 5) (hm : m < 3) (h12 : σ.1 12 0 = nI (c + 1)) (h14 : σ.1 14 c = nI m) : ∃ σ', Xw σ = some (1, σ') ∧ FrR σ σ' ∧ Cs σ' 0 0 n v (p + 5) ∧ σ'.1 12 = σ.1 12 ∧ σ'.1 13 = σ.1 13 ∧ (∀ s, σ'.1 14 s = if s = c then nI (m + 1) else σ.1 14 s) ∧ (∀ s, σ'.1 15 s = if s = 3 * c + m then nI x else σ.1 15 s) ∧ (∀ s, σ'.1 16 s = if s = 3 * c + m then nI y else σ.1 16 s) ∧ ∀ s, σ'.1 17 s = if s = 3 * c + m then nI z else σ.1 17 s := by
  obtain ⟨t0, t1, t2, t3, t4⟩ := ht
  obtain ⟨σ1, a1, a2, a3⟩ := sg_y h hn (by omega) t0
  obtain ⟨σ2, b1, b2, b3⟩ := nb_y a3 hn (M := 60) (by omega) hx hx2 (by omega) t1 t2
  have b1 : f6_readNumber 60 σ1 = some (nI x, σ2) := b1
  obtain ⟨σ3, c1, c2, c3⟩ := dg_y b3 hn (by omega) hy t3
  obtain ⟨σ4, d1, d2, d3⟩ := dg_y c3 hn (by omega) hz t4
  have fall : Fr19 σ σ4 := ((a2.tr b2).tr c2).tr d2
  have add : f4_addWord 12 (nI x) (nI y) (nI z) σ4 = some (uI (uI (uI (uI σ4 15 (3 * c + m) (nI x)) 16 (3 * c + m) (nI y)) 17 (3 * c + m) (nI z)) 14 c (nI (m + 1))) := by
    unfold f4_addWord f4_wordsOf
    rw [fall.1 12 (by omega), h12, show nI (c + 1) - 1 = nI c from nI_pred c, at_in (by omega) (by omega), bd_s, bd_s]
    dsimp only
    rw [show σ4.1 (12 + 2) c = nI m by rw [fall.1 14 (by omega)]; exact h14, if_neg (nI_pos (by omega)), if_neg (show ¬ (3 : Int32) ≤ nI m from nI_ge (b := 3) (by omega) (by omega)), pow3, bd_s, set_in (by omega) (by omega), bd_s, set_in (by omega) (by omega), bd_s, set_in (by omega) (by omega), bd_s, nI_1, set_in (by omega) (by omega), bd_s]
  unfold Xw f6_readWord
  rw [a1, bd_s, if_neg n10]
  dsimp only
  rw [b1, bd_s, if_pos (nI_pos' (by omega))]
  dsimp only
  rw [c1, bd_s, if_pos (nI_pos' (by omega))]
  dsimp only
  rw [d1, bd_s, add, bd_s, if_neg (nI_pos (by omega)), bd_s, if_neg n10]
  refine ⟨_, rfl, fall.r.tr ⟨fun b hb h9 => by rw [uI_other (by omega), uI_other (by omega), uI_other (by omega), uI_other (by omega)], rfl⟩, d3.fr (by rw [uI_other (by omega), uI_other (by omega), uI_other (by omega), uI_other (by omega)]) (by rw [uI_other (by omega), uI_other (by omega), uI_other (by omega), uI_other (by omega)]), ?_, ?_, fun s => ?_, fun s => ?_, fun s => ?_, fun s => ?_⟩
  · rw [uI_other (by omega), uI_other (by omega), uI_other (by omega), uI_other (by omega), fall.1 12 (by omega)]
  · rw [uI_other (by omega), uI_other (by omega), uI_other (by omega), uI_other (by omega), fall.1 13 (by omega)]
  · simp [uI_at, fall.1 14 (by omega)]
  · simp [uI_at, fall.1 15 (by omega)]
  · simp [uI_at, fall.1 16 (by omega)]
  · simp [uI_at, fall.1 17 (by omega)]
/-- of speaker k, m words are read -/
def SpP (σ : HS) (P : PP) (k m : Nat) : Prop := σ.1 13 k = nI (pk P k) ∧ σ.1 14 k = nI m ∧ ∀ q, q < m → σ.1 15 (3 * k + q) = nI (pl P (3 * k + q)) ∧ σ.1 16 (3 * k + q) = nI (po P (3 * k + q)) ∧ σ.1 17 (3 * k + q) = nI (pt P (3 * k + q))
def kch (kd : Nat) : Int32 := if kd = 0 then 112 else if kd = 1 then 116 else 111
/-- a speaker in the text, from his sign on -/
def SpT (v : Nat → Int32) (P : PP) (b k : Nat) : Prop := v b = 59 ∧ v (b + 1) = kch (pk P k) ∧ ∀ q, q < pw P k → WdT v (b + 2 + 5 * q) (pl P (3 * k + q)) (po P (3 * k + q)) (pt P (3 * k + q))
theorem kind_y {σ : HS} {n p kd : Nat} {v : Nat → Int32} (h : Cs σ 0 0 n v p) (hn : n ≤ 100) (hp : p < n) (hk : kd ≤ 2) (hv : v p = kch kd) : f6_kindOfSign σ = some (nI kd, σ) := by
  unfold f6_kindOfSign
  have : kd = 0 ∨ kd = 1 ∨ kd = 2 := by omega
  rcases this with rfl | rfl | rfl
  · rw [nx_y h hn hp (show v p = 112 from hv), bd_s, if_neg n10]; rfl
  · have hv : v p = 116 := hv
    rw [nx_n h hn (c := 112) (fun z => by rw [hv] at z; exact absurd z.2 (by decide)), bd_s, if_pos rfl, nx_y h hn hp hv, bd_s, if_neg n10]; rfl
  · have hv : v p = 111 := hv
    rw [nx_n h hn (c := 112) (fun z => by rw [hv] at z; exact absurd z.2 (by decide)), bd_s, if_pos rfl, nx_n h hn (c := 116) (fun z => by rw [hv] at z; exact absurd z.2 (by decide)), bd_s, if_pos rfl, nx_y h hn hp hv, bd_s, if_neg n10]; rfl
theorem speaker_y {σ : HS} {n b k : Nat} {v : Nat → Int32} {P : PP} (w : WfP P) (h : Cs σ 0 0 n v (b + 1)) (hn : n ≤ 100) (hk : k < pn P) (hp : b + 2 + 5 * pw P k ≤ n) (ht : SpT v P b k) (hend : ¬ (b + 2 + 5 * pw P k < n ∧ v (b + 2 + 5 * pw P k) = 119)) (h12 : σ.1 12 0 = nI k) (hd : ∀ k2, k2 < k → SpD σ P k2) : ∃ r : Int32 × HS, f6_readSpeaker σ = some r ∧ r.1 = 1 ∧ FrR σ r.2 ∧ Cs r.2 0 0 n v (b + 2 + 5 * pw P k) ∧ r.2.1 12 0 = nI (k + 1) ∧ r.2.1 12 1 = σ.1 12 1 ∧ r.2.1 12 2 = σ.1 12 2 ∧ ∀ k2, k2 < k + 1 → SpD r.2 P k2 := by
  have h5 := w.1
  obtain ⟨k2, w1, w3, wq⟩ := w.2.2.2 k hk
  obtain ⟨-, t1, t2⟩ := ht
  unfold f6_readSpeaker
  rw [kind_y h hn (by omega) k2 t1, bd_s, if_pos (nI_pos' (by omega))]
  dsimp only
  rw [h.2.2.2.1, nI_1]
  have c0 : Cs (uI σ 19 4 (nI (b + 1 + 1))) 0 0 n v (b + 1 + 1) := h.to (by omega)
  have f0 : Fr19 σ (uI σ 19 4 (nI (b + 1 + 1))) := fr19 σ 4 _
  generalize uI σ 19 4 (nI (b + 1 + 1)) = σ1 at c0 f0
  have g12 : σ1.1 12 0 = nI k := by rw [f0.1 12 (by omega)]; exact h12
  have add : f4_addSpeaker 12 (nI (pk P k)) σ1 = some (uI (uI (uI σ1 13 k (nI (pk P k))) 14 k 0) 12 0 (nI (k + 1))) := by
    unfold f4_addSpeaker
    rw [g12, if_neg (show ¬ (5 : Int32) ≤ nI k from nI_ge (b := 5) (by omega) (by omega)), set_in (by omega) (by omega), bd_s]
    rw [uI_other (by omega), g12, set_in (by omega) (by omega), bd_s, uI_other (by omega), uI_other (by omega), g12, nI_1]
  rw [add, bd_s]
  have fr0 : FrR σ (uI (uI (uI σ1 13 k (nI (pk P k))) 14 k 0) 12 0 (nI (k + 1))) := f0.r.tr ⟨fun b hb h9 => by rw [uI_other (by omega), uI_other (by omega), uI_other (by omega)], rfl⟩
  have cs0 : Cs (uI (uI (uI σ1 13 k (nI (pk P k))) 14 k 0) 12 0 (nI (k + 1))) 0 0 n v (b + 2 + 5 * 0) := c0.fr (by rw [uI_other (by omega), uI_other (by omega), uI_other (by omega)]) (by rw [uI_other (by omega), uI_other (by omega), uI_other (by omega)])
  have sp0 : SpP (uI (uI (uI σ1 13 k (nI (pk P k))) 14 k 0) 12 0 (nI (k + 1))) P k 0 := ⟨by simp [uI_at], by simp [uI_at]; rfl, fun q hq => absurd hq (Nat.not_lt_zero q)⟩
  have e0 : (uI (uI (uI σ1 13 k (nI (pk P k))) 14 k 0) 12 0 (nI (k + 1))).1 12 0 = nI (k + 1) := by simp [uI_at]
  have e1 : (uI (uI (uI σ1 13 k (nI (pk P k))) 14 k 0) 12 0 (nI (k + 1))).1 12 1 = σ.1 12 1 := by simp [uI_at, f0.1 12 (by omega)]
  have e2 : (uI (uI (uI σ1 13 k (nI (pk P k))) 14 k 0) 12 0 (nI (k + 1))).1 12 2 = σ.1 12 2 := by simp [uI_at, f0.1 12 (by omega)]
  have d0 : ∀ k2, k2 < k → SpD (uI (uI (uI σ1 13 k (nI (pk P k))) 14 k 0) 12 0 (nI (k + 1))) P k2 := fun k2 hk2 => by
    obtain ⟨s1, s2, s3⟩ := hd k2 hk2
    refine ⟨?_, ?_, fun q hq => ?_⟩
    · simp [uI_at, f0.1 13 (by omega), show k2 ≠ k by omega]; exact s1
    · simp [uI_at, f0.1 14 (by omega), show k2 ≠ k by omega]; exact s2
    · simp [uI_at, f0.1 15 (by omega), f0.1 16 (by omega), f0.1 17 (by omega)]; exact s3 q hq
  generalize uI (uI (uI σ1 13 k (nI (pk P k))) 14 k 0) 12 0 (nI (k + 1)) = σ2 at fr0 cs0 sp0 e0 e1 e2 d0
  unfold f6_readSpeaker_39
  refine wl_fuel (body := fun k39 p => f6_readSpeaker_39_b k39 p.1 p.2) (fun s : Int32 × HS => ∃ m, m ≤ pw P k ∧ s.1 = nI m ∧ FrR σ s.2 ∧ Cs s.2 0 0 n v (b + 2 + 5 * m) ∧ SpP s.2 P k m ∧ s.2.1 12 0 = nI (k + 1) ∧ s.2.1 12 1 = σ.1 12 1 ∧ s.2.1 12 2 = σ.1 12 2 ∧ ∀ k2, k2 < k → SpD s.2 P k2) (fun s => 10 - s.1.toNatClampNeg) _ _ ⟨0, by omega, rfl, fr0, cs0, sp0, e0, e1, e2, d0⟩ (by show 10 - _ < _; omega) ?_
  rintro k39 ⟨x2, σ3⟩ ⟨m, hm, y1, y2, y3, y4, y5, y6, y7, y8⟩ ih
  have y1 : x2 = nI m := y1
  subst y1
  have y2 : FrR σ σ3 := y2
  have y3 : Cs σ3 0 0 n v (b + 2 + 5 * m) := y3
  have y4 : SpP σ3 P k m := y4
  have y5 : σ3.1 12 0 = nI (k + 1) := y5
  have y8 : ∀ k2, k2 < k → SpD σ3 P k2 := y8
  dsimp only
  unfold f6_readSpeaker_39_b
  by_cases c : m = pw P k
  · subst c
    have fin : ∃ r : Int32 × HS, some ((1 : Int32), σ3) = some r ∧ r.1 = 1 ∧ FrR σ r.2 ∧ Cs r.2 0 0 n v (b + 2 + 5 * pw P k) ∧ r.2.1 12 0 = nI (k + 1) ∧ r.2.1 12 1 = σ.1 12 1 ∧ r.2.1 12 2 = σ.1 12 2 ∧ ∀ k2, k2 < k + 1 → SpD r.2 P k2 := by
      refine ⟨_, rfl, rfl, y2, y3, y5, y6, y7, fun k2 hk2 => ?_⟩
      by_cases ck : k2 = k
      · rw [ck]; exact y4
      · exact y8 k2 (by omega)
    by_cases c3 : 3 ≤ pw P k
    · rw [if_pos (show (3 : Int32) ≤ nI (pw P k) from nI_le (a := 3) c3 (by omega))]
      exact fin
    · rw [if_neg (show ¬ (3 : Int32) ≤ nI (pw P k) from nI_ge (b := 3) (by omega) (by omega)), if_neg (show ¬ nI (pw P k) ≤ (0 : Int32) from nI_ge (a := 0) (by omega) (by omega)), nx_n y3 hn hend, bd_s, if_pos rfl]
      exact fin
  · obtain ⟨z0, z1, z2⟩ := y4
    obtain ⟨l1, l60, lo, lt⟩ := wq m (by omega)
    have hwt := t2 m (by omega)
    obtain ⟨σ4, u1, u2, u3, u4, u5, u6, u7, u8, u9⟩ := word_y y3 hn (by omega) hwt l1 l60 (by omega) (by omega) (by omega) (by omega) y5 z1
    have nx : ∃ r : Int32 × HS, k39 (nI m + 1, σ4) = some r ∧ r.1 = 1 ∧ FrR σ r.2 ∧ Cs r.2 0 0 n v (b + 2 + 5 * pw P k) ∧ r.2.1 12 0 = nI (k + 1) ∧ r.2.1 12 1 = σ.1 12 1 ∧ r.2.1 12 2 = σ.1 12 2 ∧ ∀ k2, k2 < k + 1 → SpD r.2 P k2 := by
      rw [nI_1]
      refine ih _ ⟨m + 1, by omega, rfl, y2.tr u2, u3, ⟨?_, ?_, fun q hq => ?_⟩, ?_, ?_, ?_, fun k2 hk2 => ?_⟩ ?_
      · show σ4.1 13 k = _; rw [u5]; exact z0
      · show σ4.1 14 k = _; rw [u6, if_pos rfl]
      · show σ4.1 15 _ = _ ∧ σ4.1 16 _ = _ ∧ σ4.1 17 _ = _
        rw [u7, u8, u9]
        by_cases cq : q = m
        · rw [cq, if_pos rfl, if_pos rfl, if_pos rfl]; exact ⟨rfl, rfl, rfl⟩
        · rw [if_neg (by omega), if_neg (by omega), if_neg (by omega)]; exact z2 q (by omega)
      · show σ4.1 12 0 = _; rw [u4]; exact y5
      · show σ4.1 12 1 = _; rw [u4]; exact y6
      · show σ4.1 12 2 = _; rw [u4]; exact y7
      · obtain ⟨s1, s2, s3⟩ := y8 k2 hk2
        have w3' := (w.2.2.2 k2 (by omega)).2.2.1
        refine ⟨?_, ?_, fun q hq => ?_⟩
        · show σ4.1 13 k2 = _; rw [u5]; exact s1
        · show σ4.1 14 k2 = _; rw [u6, if_neg (by omega)]; exact s2
        · show σ4.1 15 _ = _ ∧ σ4.1 16 _ = _ ∧ σ4.1 17 _ = _
          rw [u7, u8, u9, if_neg (by omega), if_neg (by omega), if_neg (by omega)]; exact s3 q hq
      · show 10 - (nI (m + 1)).toNatClampNeg < 10 - (nI m).toNatClampNeg
        rw [nI_clamp (by omega), nI_clamp (by omega)]; omega
    rw [if_neg (show ¬ (3 : Int32) ≤ nI m from nI_ge (b := 3) (by omega) (by omega))]
    by_cases c0 : m = 0
    · rw [if_pos (show nI m ≤ (0 : Int32) from nI_le (b := 0) (by omega) (by omega)), cont1 u1]
      exact nx
    · rw [if_neg (show ¬ nI m ≤ (0 : Int32) from nI_ge (a := 0) (by omega) (by omega)), nx_y y3 hn (by omega) hwt.1, bd_s, if_neg n10]
      dsimp only
      rw [cont1 u1]
      exact nx
/-- a council's text, whole -/
def TxT (v : Nat → Int32) (P : PP) (l len : Nat) (st : Nat → Nat) : Prop := v 0 = 106 ∧ v 1 = nI (48 + pj P / 10) ∧ v 2 = nI (48 + pj P % 10) ∧ v 3 = 59 ∧ v 4 = 108 ∧ v 5 = nI (48 + l) ∧ st 0 = 6 ∧ (∀ k, k < pn P → st (k + 1) = st k + 2 + 5 * pw P k ∧ SpT v P (st k) k) ∧ st (pn P) = len
theorem st_le {v : Nat → Int32} {P : PP} {l len : Nat} {st : Nat → Nat} (h : TxT v P l len st) : ∀ d k, k + d = pn P → st k ≤ len := by
  intro d
  induction d with
  | zero => intro k hk; have : k = pn P := by omega
            rw [this, h.2.2.2.2.2.2.2.2]; exact Nat.le_refl _
  | succ d ih =>
    intro k hk
    have := ih (k + 1) (by omega)
    have := (h.2.2.2.2.2.2.2.1 k (by omega)).1
    omega
theorem fault_y {σ : HS} {v : Nat → Int32} {P : PP} {l len : Nat} {st : Nat → Nat} (w : WfP P) (h2 : 2 ≤ pn P) (h4 : pn P ≤ 4) (hl : l < 10) (hT : TxT v P l len st) (hn : len ≤ 100) (hv : ∀ q, q < len → σ.1 4 q = v q) : ∃ r : Int32 × HS, f6_firstFault (nI (100 * 0 + 0)) (nI len) σ = some r ∧ r.1 = -1 ∧ FrR σ r.2 ∧ r.2.1 12 0 = nI (pn P) ∧ r.2.1 12 1 = nI (pj P) ∧ r.2.1 12 2 = nI l ∧ ∀ k, k < pn P → SpD r.2 P k := by
  have hst : ∀ k, k ≤ pn P → st k ≤ len := fun k hk => st_le hT (pn P - k) k (by omega)
  obtain ⟨v0, v1, v2, v3, v4, v5, s0, sk, sn⟩ := id hT
  have j1 : 1 ≤ pj P := by rcases w.2.2.1 with z | z <;> omega
  have h6 := hst 0 (by omega)
  unfold f6_firstFault
  have c0 : Cs (uI (uI (uI (uI σ 19 2 (nI (100 * 0 + 0))) 19 3 (nI len)) 19 4 0) 19 5 (-1)) 0 0 len v 0 := by
    refine ⟨by simp [uI_at], trivial, by simp [uI_at], by simp [uI_at]; rfl, by simp [uI_at], Nat.zero_le _, fun q hq => ?_⟩
    rw [uI_other (by omega), uI_other (by omega), uI_other (by omega), uI_other (by omega), show 100 * 0 + (0 + q) = q by omega]
    exact hv q hq
  have f0 : Fr19 σ (uI (uI (uI (uI σ 19 2 (nI (100 * 0 + 0))) 19 3 (nI len)) 19 4 0) 19 5 (-1)) := (((fr19 σ 2 _).tr (fr19 _ 3 _)).tr (fr19 _ 4 _)).tr (fr19 _ 5 _)
  generalize uI (uI (uI (uI σ 19 2 (nI (100 * 0 + 0))) 19 3 (nI len)) 19 4 0) 19 5 (-1) = σ1 at c0 f0
  obtain ⟨σ2, q1, q2, q3, q4, q5, q6⟩ := jar_y c0 hn (by omega) j1 w.2.1 hl v0 v1 v2 v3 v4 v5
  rw [q1, bd_s, if_neg n10]
  dsimp only
  unfold f6_firstFault_34
  refine wl_fuel (body := fun k34 p => f6_firstFault_34_b k34 p.1 p.2) (fun s : Int32 × HS => ∃ k, k ≤ pn P ∧ s.1 = nI k ∧ FrR σ s.2 ∧ Cs s.2 0 0 len v (st k) ∧ s.2.1 12 0 = nI k ∧ s.2.1 12 1 = nI (pj P) ∧ s.2.1 12 2 = nI l ∧ ∀ k2, k2 < k → SpD s.2 P k2) (fun s => 10 - s.1.toNatClampNeg) _ _ ⟨0, by omega, rfl, f0.r.tr q2, by rw [s0]; exact q3, q4, q5, q6, fun k hk => absurd hk (Nat.not_lt_zero k)⟩ (by show 10 - _ < _; omega) ?_
  rintro k34 ⟨x3, σ3⟩ ⟨k, hk, y1, y2, y3, y4, y5, y6, y7⟩ ih
  have y1 : x3 = nI k := y1
  subst y1
  have y2 : FrR σ σ3 := y2
  have y3 : Cs σ3 0 0 len v (st k) := y3
  have y4 : σ3.1 12 0 = nI k := y4
  have y5 : σ3.1 12 1 = nI (pj P) := y5
  have y6 : σ3.1 12 2 = nI l := y6
  have y7 : ∀ k2, k2 < k → SpD σ3 P k2 := y7
  dsimp only
  unfold f6_firstFault_34_b
  rw [if_neg (show ¬ (5 : Int32) ≤ nI k from nI_ge (b := 5) (by omega) (by omega)), y3.2.2.1, y3.2.2.2.1]
  by_cases c : k = pn P
  · subst c
    rw [if_neg (show ¬ nI (pn P) < (2 : Int32) from nI_nlt (b := 2) h2 (by omega)), sn, if_neg (nI_nlt (Nat.le_refl _) (by omega))]
    exact ⟨_, rfl, rfl, y2, y4, y5, y6, y7⟩
  · have hkn : k < pn P := by omega
    obtain ⟨sk1, sk2⟩ := sk k hkn
    have sle := hst (k + 1) (by omega)
    have run : ∃ r : Int32 × HS, f6_firstFault_57 k34 (nI k) σ3 = some r ∧ r.1 = -1 ∧ FrR σ r.2 ∧ r.2.1 12 0 = nI (pn P) ∧ r.2.1 12 1 = nI (pj P) ∧ r.2.1 12 2 = nI l ∧ ∀ k, k < pn P → SpD r.2 P k := by
      unfold f6_firstFault_57
      obtain ⟨σ4, a1, a2, a3⟩ := sg_y y3 hn (by omega) sk2.1
      have hend : ¬ (st k + 2 + 5 * pw P k < len ∧ v (st k + 2 + 5 * pw P k) = 119) := by
        rw [← sk1]
        rintro ⟨z1, z2⟩
        by_cases c2 : k + 1 = pn P
        · rw [c2, sn] at z1; omega
        · have := (sk (k + 1) (by omega)).2.1
          rw [this] at z2
          exact absurd z2 (by decide)
      obtain ⟨⟨r1, σ5⟩, b1, b2, b3, b4, b5, b6, b7, b8⟩ := speaker_y w a3 hn hkn (by omega) sk2 hend (by rw [a2.1 12 (by omega)]; exact y4) (fun k2 hk2 => by
        obtain ⟨s1, s2, s3⟩ := y7 k2 hk2
        exact ⟨by rw [a2.1 13 (by omega)]; exact s1, by rw [a2.1 14 (by omega)]; exact s2, fun q hq => by rw [a2.1 15 (by omega), a2.1 16 (by omega), a2.1 17 (by omega)]; exact s3 q hq⟩)
      have b2 : r1 = 1 := b2
      subst b2
      rw [a1, bd_s, if_neg n10]
      dsimp only
      rw [b1, bd_s, if_neg n10, nI_1]
      refine ih _ ⟨k + 1, by omega, rfl, (y2.tr a2.r).tr b3, by rw [sk1]; exact b4, b5, ?_, ?_, b8⟩ ?_
      · show σ5.1 12 1 = _
        have b6 : σ5.1 12 1 = σ4.1 12 1 := b6
        rw [b6, a2.1 12 (by omega)]; exact y5
      · show σ5.1 12 2 = _
        have b7 : σ5.1 12 2 = σ4.1 12 2 := b7
        rw [b7, a2.1 12 (by omega)]; exact y6
      · show 10 - (nI (k + 1)).toNatClampNeg < 10 - (nI k).toNatClampNeg
        rw [nI_clamp (by omega), nI_clamp (by omega)]; omega
    by_cases c2 : k < 2
    · rw [if_pos (show nI k < (2 : Int32) from nI_lt (b := 2) c2 (by omega))]
      exact run
    · rw [if_neg (show ¬ nI k < (2 : Int32) from nI_nlt (b := 2) (by omega) (by omega)), if_pos (nI_lt (by omega) (by omega))]
      exact run
theorem council_y {σ : HS} {v : Nat → Int32} {P : PP} {l len : Nat} {st : Nat → Nat} (w : WfP P) (h2 : 2 ≤ pn P) (h4 : pn P ≤ 4) (hl : l < 10) (hT : TxT v P l len st) (hn : len ≤ 100) (hv : ∀ q, q < len → σ.1 4 q = v q) (e1 : σ.1 2 0 = nI 0) (e2 : σ.1 3 0 = nI 100) : ∃ σ', f8_council 0 0 0 (nI len) σ = some (nI (pn P), σ') ∧ RepP σ' P ∧ σ'.1 20 2 = nI 0 ∧ σ'.1 20 3 = nI l ∧ (∀ p, p < 5 → σ'.1 21 p = nI p) ∧ σ'.1 2 = σ.1 2 ∧ σ'.1 3 = σ.1 3 := by
  obtain ⟨⟨r1, σ1⟩, a1, a2, a3, a4, a5, a6, a7⟩ := fault_y w h2 h4 hl hT hn hv
  have a2 : r1 = -1 := a2
  subst a2
  have a3 : FrR σ σ1 := a3
  obtain ⟨σ2, b1, b2, b3, b4⟩ := become_c (l := l) w a4 a5 a6 a7
  have p := part_y (k := 0) (a := 0) (i := 0) (n := len) (s := 100) (by omega) (by omega) e1 e2 (by omega) (by omega)
  have p : f7_partRefusal 0 0 0 (nI len) σ = some (0, σ) := p
  have pl : f7_placeOf 0 0 σ = some (nI (100 * 0 + 0), σ) := place_e 0 0 σ
  obtain ⟨σ3, f1, f2, f3, f4⟩ := first_c 20 (uI (uI σ2 20 2 0) 20 3 (nI l))
  have rp3 : RepP σ3 P := b2.congr (fun x q1 q2 => ⟨by rw [f2 x (by omega), uI_other (by omega), uI_other (by omega)], by rw [f3]; rfl⟩)
  unfold f8_council
  rw [p, bd_s, if_pos rfl]
  dsimp only
  rw [pl, bd_s]
  dsimp only
  rw [a1, bd_s, if_pos m1_neg]
  dsimp only
  rw [b1, bd_s]
  unfold f0_beginAnew
  rw [show (uI σ2 20 2 0).1 5 2 = nI l by rw [uI_other (by omega)]; exact b3, f1, bd_s, bd_s, forget_e, bd_s]
  have e5 : (uI (uI (uI σ3 0 11 0) 44 6 0) 40 3 0).1 5 0 = nI (pn P) := by
    rw [uI_other (by omega), uI_other (by omega), uI_other (by omega)]; exact rp3.1
  rw [e5, told_0 (Or.inl (by rw [nI_toInt (by omega)]; omega)), bd_s]
  refine ⟨_, rfl, rp3.congr (fun x q1 q2 => ⟨by rw [uI_other (by omega), uI_other (by omega), uI_other (by omega), uI_other (by omega)], rfl⟩), ?_, ?_, fun p hp => ?_, ?_, ?_⟩
  · show (uI (uI (uI (uI σ3 0 11 0) 44 6 0) 40 3 0) 0 13 0).1 20 2 = _
    rw [uI_other (by omega), uI_other (by omega), uI_other (by omega), uI_other (by omega), f2 20 (by omega)]
    simp [uI_at]; rfl
  · show (uI (uI (uI (uI σ3 0 11 0) 44 6 0) 40 3 0) 0 13 0).1 20 3 = _
    rw [uI_other (by omega), uI_other (by omega), uI_other (by omega), uI_other (by omega), f2 20 (by omega)]
    simp [uI_at]
  · show (uI (uI (uI (uI σ3 0 11 0) 44 6 0) 40 3 0) 0 13 0).1 21 p = _
    rw [uI_other (by omega), uI_other (by omega), uI_other (by omega), uI_other (by omega)]
    exact f4 p hp
  · show (uI (uI (uI (uI σ3 0 11 0) 44 6 0) 40 3 0) 0 13 0).1 2 = _
    rw [uI_other (by omega), uI_other (by omega), uI_other (by omega), uI_other (by omega), f2 2 (by omega), uI_other (by omega), uI_other (by omega), b4.1 2 (by omega), a3.1 2 (by omega) (by omega)]
  · show (uI (uI (uI (uI σ3 0 11 0) 44 6 0) 40 3 0) 0 13 0).1 3 = _
    rw [uI_other (by omega), uI_other (by omega), uI_other (by omega), uI_other (by omega), f2 3 (by omega), uI_other (by omega), uI_other (by omega), b4.1 3 (by omega), a3.1 3 (by omega) (by omega)]
