/-! of each speaker: his longest word, what he runs away, what he owes, what he is to give, his share -/
def LgC (P : PP) (k x m n c : Nat) : Prop := (c = 9 ∧ ∀ q, m ≤ q → q < n → x < pl P (3 * k + q)) ∨ (m ≤ c ∧ c < n ∧ pl P (3 * k + c) ≤ x ∧ ∀ q, m ≤ q → q < n → pl P (3 * k + q) ≤ x → pl P (3 * k + q) < pl P (3 * k + c) ∨ (pl P (3 * k + q) = pl P (3 * k + c) ∧ c ≤ q))
theorem LgC.uniq {P : PP} {k x n c c' : Nat} (hn : n ≤ 3) (h : LgC P k x 0 n c) (h' : LgC P k x 0 n c') : c = c' := by
  rcases h with ⟨rfl, h⟩ | ⟨-, h1, h2, h3⟩
  · rcases h' with ⟨rfl, -⟩ | ⟨-, h1, h2, -⟩
    · rfl
    · have := h c' (by omega) h1; omega
  · rcases h' with ⟨rfl, h'⟩ | ⟨-, g1, g2, g3⟩
    · have := h' c (by omega) h1; omega
    · have a := h3 c' (by omega) g1 g2
      have b := g3 c (by omega) h1 h2
      omega
theorem longest_u {P : PP} {k x : Nat} : ∀ n, n ≤ 3 → (∀ q, q < n → 1 ≤ pl P (3 * k + q)) → LgC P k x 0 n (longest P k x n).1 := by
  intro n
  induction n with
  | zero => intro _ _; exact Or.inl ⟨rfl, fun q _ hq => absurd hq (Nat.not_lt_zero q)⟩
  | succ n ih =>
    intro hn3 h1
    have h := ih (by omega) (fun q hq => h1 q (by omega))
    have hc := longest_c P k x n
    have hn := h1 n (by omega)
    unfold longest
    by_cases c : pl P (3 * k + n) ≤ x ∧ (longest P k x n).2 < pl P (3 * k + n)
    · rw [if_pos c]
      refine Or.inr ⟨by omega, by omega, c.1, fun q _ hq hx => ?_⟩
      show _ < pl P (3 * k + n) ∨ (_ = pl P (3 * k + n) ∧ n ≤ q)
      by_cases cq : q = n
      · rw [cq]; exact Or.inr ⟨rfl, Nat.le_refl _⟩
      · left
        rcases h with ⟨z1, z2⟩ | ⟨-, z1, z2, z3⟩
        · have := z2 q (by omega) (by omega); omega
        · have := z3 q (by omega) (by omega) hx
          rcases hc with ⟨y1, y2⟩ | ⟨y1, y2⟩ <;> omega
    · rw [if_neg c]
      rcases h with ⟨z1, z2⟩ | ⟨-, z1, z2, z3⟩
      · left
        refine ⟨z1, fun q _ hq => ?_⟩
        by_cases cq : q = n
        · subst cq
          refine Nat.lt_of_not_le (fun y => c ⟨y, ?_⟩)
          rcases hc with ⟨y1, y2⟩ | ⟨y1, y2⟩
          · omega
          · have := z2 _ (Nat.zero_le _) y1; omega
        · exact z2 q (by omega) (by omega)
      · right
        refine ⟨by omega, by omega, z2, fun q _ hq hx => ?_⟩
        by_cases cq : q = n
        · subst cq
          have := fun z => c ⟨hx, z⟩
          rcases hc with ⟨y1, y2⟩ | ⟨y1, y2⟩ <;> omega
        · exact z3 q (by omega) (by omega) hx
theorem longL {sL : Nat} {a0 : Nat → Int32} (k85 : (Nat → Int32) × Int32 × HS × Nat → Option Int32) (k562 : Int32 × HS × Nat → Option Int32) {a2 a3 : Nat → Int32} {x4 x5 x9 x10 : Int32} {a11 a12 a13 : Nat → Int32} {x18 : Int32} {σ : HS} {g : Nat} {P : PP} {C : CC} {k X : Nat} (hL : LwA a2 a3 P C) (w : WfP P) (hk : k < pn P) (hX : X ≤ 99)
    (hK : g_law_684 sL a0 k85 k562 a2 a3 x4 x5 x9 x10 a11 a12 a13 (nI k) x18 (cd (longest P k X (pw P k)).1) σ g (0, 0) = some 1) :
    g_law_618 sL a0 k85 k562 a2 a3 x4 x5 x9 x10 a11 a12 a13 (nI k) x18 (nI X) 0 σ g (-9, nI (pw P k) - 1) = some 1 := by
  have h4 := hL.2.1
  obtain ⟨-, w1, w3, wq⟩ := w.2.2.2 k hk
  have hq := (hL.2.2.2.2.2.2.1 k hk).2
  rw [dn_d (by omega)]
  unfold g_law_618
  refine wl_to (fun s : Int32 × Int32 => ∃ m c, m ≤ pw P k ∧ s.2 = dn m ∧ s.1 = cd c ∧ LgC P k X m (pw P k) c) (fun s => if s.2 < 0 then 0 else s.2.toNatClampNeg + 1) _ _ ⟨pw P k, 9, Nat.le_refl _, rfl, rfl, Or.inl ⟨rfl, fun q h1 h2 => by omega⟩⟩ (by
    show (if _ then 0 else _) < _
    have := dn_1 (pw P k - 1)
    rw [Nat.sub_add_cancel (by omega)] at this
    rw [this, if_neg (nI_pos (by omega)), nI_clamp (by omega)]; omega) ?_
  rintro k618 ⟨x20, x22⟩ ⟨m, c, hm, e1, e2, e3⟩ ih
  have e1 : x22 = dn m := e1
  have e2 : x20 = cd c := e2
  subst e1 e2
  dsimp only
  unfold g_law_618_b g_law_666 g_law_671 g_law_673
  cases m with
  | zero =>
    rw [dn_0, if_pos m1_neg]
    have := e3.uniq w3 (longest_u (pw P k) w3 (fun q hq => (wq q hq).1))
    rw [this]
    exact hK
  | succ m =>
    obtain ⟨hl1, hl60, -⟩ := wq m (by omega)
    have mu : (if dn m < 0 then 0 else (dn m).toNatClampNeg + 1) < if nI m < 0 then 0 else (nI m).toNatClampNeg + 1 := by
      rw [if_neg (nI_pos (by omega)), nI_clamp (by omega)]
      cases m with
      | zero => rw [dn_0, if_pos m1_neg]; omega
      | succ m => rw [dn_1, if_neg (nI_pos (by omega)), nI_clamp (by omega)]; omega
    have keep : LgC P k X m (pw P k) c → k618 (cd c, dn m) = some 1 := fun h => ih _ ⟨m, c, by omega, rfl, rfl, h⟩ mu
    have take : LgC P k X m (pw P k) m → k618 (nI m, dn m) = some 1 := fun h => ih _ ⟨m, m, by omega, rfl, (cd_z (by omega)).symm, h⟩ mu
    rw [dn_1, if_neg (nI_pos (by omega)), l93, ix_in (by omega) (by omega), nI_clamp (by omega), (hq m (by omega)).1, dn_s (by omega)]
    by_cases c1 : X < pl P (3 * k + m)
    · rw [if_pos (nI_lt c1 (by omega))]
      refine keep ?_
      rcases e3 with ⟨z1, z2⟩ | ⟨z0, z1, z2, z3⟩
      · left
        refine ⟨z1, fun q h1 h2 => ?_⟩
        by_cases cq : q = m
        · rw [cq]; exact c1
        · exact z2 q (by omega) h2
      · right
        refine ⟨by omega, z1, z2, fun q h1 h2 hx => ?_⟩
        by_cases cq : q = m
        · rw [cq] at hx; omega
        · exact z3 q (by omega) h2 hx
    · rw [if_neg (nI_nlt (by omega) (by omega))]
      have c39 : c = 9 ∨ c < 3 := by rcases e3 with ⟨z1, -⟩ | ⟨-, z1, -⟩ <;> omega
      by_cases c9 : c = 9
      · rw [if_pos ((cd_neg c39).mpr c9)]
        refine take (Or.inr ⟨by omega, by omega, by omega, fun q h1 h2 hx => ?_⟩)
        by_cases cq : q = m
        · rw [cq]; exact Or.inr ⟨rfl, Nat.le_refl _⟩
        · rcases e3 with ⟨z1, z2⟩ | ⟨z0, z1, z2, z3⟩
          · have := z2 q (by omega) h2; omega
          · omega
      · rw [if_neg (fun z => c9 ((cd_neg c39).mp z)), cd_z (by omega), l93, ix_in (by omega) (by omega), nI_clamp (by omega)]
        rcases e3 with ⟨z1, z2⟩ | ⟨z0, z1, z2, z3⟩
        · omega
        obtain ⟨-, hc60, -⟩ := wq c z1
        rw [(hq c z1).1]
        by_cases c2 : pl P (3 * k + m) < pl P (3 * k + c)
        · rw [if_pos (nI_lt c2 (by omega)), ← cd_z (c := c) (by omega)]
          refine keep (Or.inr ⟨by omega, z1, z2, fun q h1 h2 hx => ?_⟩)
          by_cases cq : q = m
          · rw [cq]; exact Or.inl c2
          · exact z3 q (by omega) h2 hx
        · rw [if_neg (nI_nlt (by omega) (by omega))]
          refine take (Or.inr ⟨by omega, by omega, by omega, fun q h1 h2 hx => ?_⟩)
          by_cases cq : q = m
          · rw [cq]; exact Or.inr ⟨rfl, Nat.le_refl _⟩
          · have := z3 q (by omega) h2 hx
            omega
/-- what runs away by him -/
theorem awayL {sL : Nat} {a0 : Nat → Int32} (k85 : (Nat → Int32) × Int32 × HS × Nat → Option Int32) (k562 : Int32 × HS × Nat → Option Int32) {a2 a3 : Nat → Int32} {x4 x5 x9 : Int32} {a11 a12 a13 : Nat → Int32} {σ : HS} {g : Nat} {P : PP} {C : CC} {k p c : Nat} (hL : LwA a2 a3 P C) (w : WfP P) (wc : WfC P C) (hS : LwS a11 a12 P (freeSaid P C) (turnsN P C)) (h13 : DayO a13 P C (freeSaid P C) (turnsN P C)) (hk : k < pn P) (hp : p < pn P) (ep : co C p = k) (hc : c = 9 ∨ c < pw P k) (hg : g + 2 < 80000)
    (hK : ∀ a22 a23, (∀ l, l < pn P → a22 l = nI (forcedW P C p 9 l)) → (∀ l, l < pn P → a23 l = nI (forcedW P C p c l)) → g_law_779 sL a0 k85 k562 a2 a3 x4 x5 x9 (nI (turnsN P C)) a11 a12 a13 (nI k) (nI (away P C (freeSaid P C) k (turnsN P C))) a22 a23 (g + 1 + 1) (0, σ) = some 1) :
    g_law_684 sL a0 k85 k562 a2 a3 x4 x5 x9 (nI (turnsN P C)) a11 a12 a13 (nI k) (nI p) (cd c) σ g (0, 0) = some 1 := by
  have h4 := hL.2.1
  obtain ⟨tb1, tb2⟩ := turnsB hL
  obtain ⟨pt1, pt2⟩ := place_turn (C := C) hp
  unfold g_law_684
  refine wl_to (fun s : Int32 × Int32 => ∃ t, t ≤ turnsN P C ∧ s = (nI (away P C (freeSaid P C) k t), nI t)) (fun s => 10 - s.2.toNatClampNeg) _ _ ⟨0, by omega, rfl⟩ (by show 10 - _ < _; omega) ?_
  rintro k684 _ ⟨t, ht, rfl⟩ ih
  dsimp only
  unfold g_law_684_b g_law_736 g_law_737
  by_cases ct : turnsN P C ≤ t
  · have : t = turnsN P C := by omega
    subst this
    obtain ⟨r, r1, r2, -⟩ := butL hL w wc hS (p := p) (c := 9) pt1 (Or.inl rfl)
    obtain ⟨r', r3, r4, -⟩ := butL hL w wc hS (p := p) (c := c) pt1 (by rw [pt2, ep]; exact hc)
    have r1 : g_but a2 a3 a11 a12 (nI p) (-9) = some r := r1
    rw [if_pos (nI_le ct (by omega)), r1, bd_s, if_neg (by omega), r3, bd_s, if_neg (by omega)]
    exact hK r r' r2 r4
  · have go : ∀ d : Nat, d = (if who P C t = k ∧ freeSaid P C t (freeX P C t) ≠ 9 then pl P (3 * k + freeSaid P C t (freeX P C t)) else 0) → k684 (nI (away P C (freeSaid P C) k t) + nI d, nI t + 1) = some 1 := by
      intro d hd
      rw [nI_1, nI_add]
      refine ih _ ⟨t + 1, by omega, ?_⟩ ?_
      · rw [hd]; rfl
      · show 10 - (nI (t + 1)).toNatClampNeg < 10 - (nI t).toNatClampNeg
        rw [nI_clamp (by omega), nI_clamp (by omega)]; omega
    have hwho := who_lt wc (t := t) (by omega)
    rw [if_neg (nI_ge (by omega) (by omega)), whoL hL (by omega), bd_s]
    by_cases cw : who P C t = k
    · have e13 : a13 (6 + t) = cd (freeSaid P C t (freeX P C t)) := (h13.2 t (by omega)).1
      have xle : freeX P C t ≤ pj P := (dok w wc (free_ok w wc) t (by omega)).1
      have fo := free_ok w wc t (freeX P C t) (by omega) xle
      rw [cw] at fo
      have w3 := (w.2.2.2 k hk).2.2.1
      rw [if_pos (by rw [cw]), le6, ix_in (by omega) (by omega), nI_clamp (by omega), e13]
      by_cases c9 : freeSaid P C t (freeX P C t) = 9
      · rw [if_pos ((cd_neg (by omega)).mpr c9)]
        exact go 0 (by rw [if_neg (fun z => z.2 c9)])
      · have hq := ((hL.2.2.2.2.2.2.1 k hk).2 (freeSaid P C t (freeX P C t)) (by omega)).1
        rw [if_neg (fun z => c9 ((cd_neg (by omega)).mp z)), ixc (by omega) (by omega), cd_z (by omega), l93, ix_in (by omega) (by omega), nI_clamp (by omega), hq]
        exact go _ (by rw [if_pos ⟨cw, c9⟩])
    · rw [if_neg (fun z => cw ((nIc (by omega) (by omega)).mp z))]
      exact go 0 (by rw [if_neg (fun z => cw z.1)])
