/-! dry -/
def Silences (P : PP) (C : CC) (p k1 q1 k n : Nat) : Prop := ∃ c, (c = 9 ∨ c < n) ∧ ¬ SaidDay P C (forceSaid P C p c) k1 q1 (turnsN P C)
theorem silC {σ : HS} {P : PP} {C : CC} (rp : RepP σ P) (rc : RepC σ 20 P C) (w : WfP P) (wc : WfC P C) (pa : PlanAt σ 20 P C) {k k1 q1 p : Nat} (hk : k < pn P) (hk1 : k1 < pn P) (hq1 : q1 < 3) (hp : p < pn P) (ep : co C p = k) : ∃ (r : Int32) (σ' : HS), f8_canSilence (nI k) (nI k1) (nI q1) σ = some (r, σ') ∧ FrC 20 σ σ' ∧ ((r = 1 ∧ Silences P C p k1 q1 k (pw P k)) ∨ (r = 0 ∧ ¬ Silences P C p k1 q1 k (pw P k))) := by
  have h5 := w.1
  have h6 := turns_le C w
  have h3 := (w.2.2.2 k hk).2.2.1
  obtain ⟨pt1, pt2⟩ := place_turn (C := C) hp
  unfold f8_canSilence f8_canSilence_38
  obtain ⟨σ1, q1', q2, q3⟩ := forceC (p := p) (c := 9) rp rc w wc pa (by omega) (fun _ => Or.inl rfl)
  rw [cd_9] at q1'
  obtain ⟨r, r1, r2⟩ := hasC (q2.rp (by omega) rp) (q2.rc rc) w wc (force_ok (p := p) (c := 9) w wc (fun _ => Or.inl rfl)) q3 hk1 hq1
  rw [placeOf_c rp rc w wc hp ep, bd_s, q1', bd_s, r1, bd_s]
  have main : ∀ f0 : Int32, ((f0 = 1 ∧ Silences P C p k1 q1 k 0) ∨ (f0 = 0 ∧ ¬ Silences P C p k1 q1 k 0)) → ∃ (r : Int32) (σ' : HS), f8_canSilence_43 (nI k) (nI k1) (nI q1) (nI p) (f0, 0, σ1) = some (r, σ') ∧ FrC 20 σ σ' ∧ ((r = 1 ∧ Silences P C p k1 q1 k (pw P k)) ∨ (r = 0 ∧ ¬ Silences P C p k1 q1 k (pw P k))) := by
    intro f0 h0
    unfold f8_canSilence_43
    obtain ⟨⟨s1, s2⟩, t1, t2⟩ := wl_fuel (body := fun k43 p1 => f8_canSilence_43_b k43 (nI k) (nI k1) (nI q1) (nI p) p1.1 p1.2.1 p1.2.2) (fun p1 : Int32 × Int32 × HS => ∃ n, n ≤ pw P k ∧ p1.2.1 = nI n ∧ FrC 20 σ p1.2.2 ∧ ((p1.1 = 1 ∧ Silences P C p k1 q1 k n) ∨ (p1.1 = 0 ∧ ¬ Silences P C p k1 q1 k n))) (fun p1 => 10 - p1.2.1.toNatClampNeg) (fun r : Int32 × HS => FrC 20 σ r.2 ∧ ((r.1 = 1 ∧ Silences P C p k1 q1 k (pw P k)) ∨ (r.1 = 0 ∧ ¬ Silences P C p k1 q1 k (pw P k)))) (f0, 0, σ1) ⟨0, by omega, rfl, q2, h0⟩ (by show 10 - _ < _; omega) (by
      rintro k2 ⟨f, x6, σ2⟩ ⟨n, hn, e, g1, g2⟩ ih
      have e : x6 = nI n := e
      subst e
      have g1 : FrC 20 σ σ2 := g1
      have g2 : (f = 1 ∧ Silences P C p k1 q1 k n) ∨ (f = 0 ∧ ¬ Silences P C p k1 q1 k n) := g2
      dsimp only
      unfold f8_canSilence_43_b f8_canSilence_95
      have rp2 := g1.rp (by omega) rp
      have rc2 := g1.rc rc
      rw [wordsOf_5 rp2 w hk, bd_s]
      by_cases c : pw P k ≤ n
      · have : n = pw P k := by omega
        subst this
        rw [if_pos (nI_le c (by omega)), if_pos (by rcases g2 with z | z; exact Or.inr z.1; exact Or.inl z.1)]
        exact ⟨_, rfl, g1, g2⟩
      · rw [if_neg (nI_ge (by omega) (by omega)), if_neg (show ¬ (3 : Int32) ≤ nI n from nI_ge (b := 3) (by omega) (by omega))]
        rcases g2 with ⟨rfl, hy⟩ | ⟨rfl, hn2⟩
        · rw [if_neg n10, if_pos (Or.inr rfl)]
          obtain ⟨c1, hc1, hs1⟩ := hy
          exact ⟨_, rfl, g1, Or.inl ⟨rfl, c1, by omega, hs1⟩⟩
        · have hcl : p < turnsN P C → n = 9 ∨ n < pw P (who P C p) := fun _ => by rw [pt2, ep]; omega
          obtain ⟨σ3, u1, u2, u3⟩ := forceC (p := p) (c := n) rp2 rc2 w wc (pa.fr g1) (by omega) hcl
          rw [cd_z (by omega)] at u1
          obtain ⟨r, v1, v2⟩ := hasC (u2.rp (by omega) rp2) (u2.rc rc2) w wc (force_ok w wc hcl) u3 hk1 hq1
          rw [if_pos rfl, u1, bd_s, v1, bd_s]
          have go : ∀ f2 : Int32, ((f2 = 1 ∧ Silences P C p k1 q1 k (n + 1)) ∨ (f2 = 0 ∧ ¬ Silences P C p k1 q1 k (n + 1))) → ∃ r, k2 (f2, nI n + 1, σ3) = some r ∧ FrC 20 σ r.2 ∧ ((r.1 = 1 ∧ Silences P C p k1 q1 k (pw P k)) ∨ (r.1 = 0 ∧ ¬ Silences P C p k1 q1 k (pw P k))) := by
            intro f2 h2
            rw [nI_1]
            refine ih _ ⟨n + 1, by omega, rfl, g1.tr u2, h2⟩ ?_
            show 10 - (nI (n + 1)).toNatClampNeg < 10 - (nI n).toNatClampNeg
            rw [nI_clamp (by omega), nI_clamp (by omega)]; omega
          rcases v2 with ⟨rfl, y⟩ | ⟨rfl, y⟩
          · rw [if_neg n10]
            refine go 0 (Or.inr ⟨rfl, ?_⟩)
            rintro ⟨c1, hc1, hs1⟩
            by_cases z : c1 = n
            · rw [z] at hs1; exact hs1 y
            · exact hn2 ⟨c1, by omega, hs1⟩
          · rw [if_pos rfl]
            exact go 1 (Or.inl ⟨rfl, n, Or.inr (by omega), y⟩))
    exact ⟨s1, s2, t1, t2⟩
  rcases r2 with ⟨rfl, y⟩ | ⟨rfl, y⟩
  · rw [if_neg n10]
    refine main 0 (Or.inr ⟨rfl, ?_⟩)
    rintro ⟨c1, hc1, hs1⟩
    rw [show c1 = 9 by omega] at hs1
    exact hs1 y
  · rw [if_pos rfl]
    exact main 1 (Or.inl ⟨rfl, 9, Or.inl rfl, y⟩)
def bitN (k : Nat) : Int32 := 1 <<< (nI k &&& 31)
def maskN (b : Nat → Bool) : Nat → Int32
  | 0 => 0
  | k + 1 => if b k = true then maskN b k ||| bitN k else maskN b k
theorem or_twice (a b : Int32) : (a ||| b) ||| b = a ||| b := by rw [Int32.or_assoc, Int32.or_self]
theorem or_0 (a : Int32) : a ||| 0 = a := Int32.or_zero
theorem op_dry (j : Nat) (σ τ : HS) (a1 a2 : Int32) (hI : Inv j σ τ) (hj : j < 512) : ∃ (r : Int32) (σ1 τ1 : HS), f8_dry a1 a2 σ = some (r, σ1) ∧ f9_dry a1 a2 τ = some (r, τ1) ∧ Inv (j + 1) σ1 τ1 := by
  obtain ⟨P, C, hB⟩ := hI
  obtain ⟨w, wc, rp, rc, rm, -⟩ := id hB
  have h5 := w.1
  have h6 := turns_le C w
  unfold f8_dry f9_dry
  rcases word_c P a1 a2 w with hx | ⟨k1, q1, hk1, hq1, rfl, rfl⟩
  · rw [hasW_n rp w hx, bd_s, if_pos rfl, nw_n rm w hx, bd_s, if_neg n10]
    exact ⟨_, _, _, rfl, rfl, P, C, hB.mono⟩
  · have hq3 : q1 < 3 := by have := (w.2.2.2 k1 hk1).2.2.1; omega
    obtain ⟨σ1, e1, e2, e3⟩ := ahead_c hB hj
    obtain ⟨τ1, f1, f2, f3⟩ := lay_m rm w wc
    rw [hasW_y rp w hk1 hq1, bd_s, if_neg n10, nw_y rm w hk1 hq1, bd_s, if_pos rfl, e1, bd_s, f1, bd_s]
    have hbx : ∃ b : Nat → Bool, ∀ k, b k = true ↔ (k ≠ k1 ∧ ∃ p, p < pn P ∧ co C p = k ∧ Silences P C p k1 q1 k (pw P k)) := ⟨fun k => @decide _ (Classical.propDecidable (k ≠ k1 ∧ ∃ p, p < pn P ∧ co C p = k ∧ Silences P C p k1 q1 k (pw P k))), fun k => by simp⟩
    obtain ⟨b, hb⟩ := hbx
    have cl : ∃ σ2, f8_dry_23 (nI k1) (nI q1) (0, 0, σ1) = some (maskN b (pn P), σ2) ∧ FrC 20 σ1 σ2 := by
      unfold f8_dry_23
      obtain ⟨⟨s1, s2⟩, t1, t2, t3⟩ := wl_fuel (body := fun k23 p1 => f8_dry_23_b k23 (nI k1) (nI q1) p1.1 p1.2.1 p1.2.2) (fun p1 : Int32 × Int32 × HS => ∃ k, k ≤ pn P ∧ p1.1 = maskN b k ∧ p1.2.1 = nI k ∧ FrC 20 σ1 p1.2.2) (fun p1 => 10 - p1.2.1.toNatClampNeg) (fun r : Int32 × HS => r.1 = maskN b (pn P) ∧ FrC 20 σ1 r.2) (0, 0, σ1) ⟨0, by omega, rfl, rfl, ⟨fun _ _ _ _ => rfl, fun _ _ => rfl⟩⟩ (by show 10 - _ < _; omega) (by
        rintro k2 ⟨x3, x4, σ2⟩ ⟨k, hk, e, e', g1⟩ ih
        have e : x3 = maskN b k := e
        have e' : x4 = nI k := e'
        subst e e'
        have g1 : FrC 20 σ1 σ2 := g1
        dsimp only
        unfold f8_dry_23_b f8_dry_65
        have rp2 := g1.rp (by omega) e2.2.2.1
        have rc2 := g1.rc e2.2.2.2.1
        rw [rp2.1]
        have go : ∀ (m : Int32) (σ3 : HS), m = maskN b (k + 1) → FrC 20 σ2 σ3 → k < pn P → ∃ r, k2 (m, nI k + 1, σ3) = some r ∧ r.1 = maskN b (pn P) ∧ FrC 20 σ1 r.2 := by
          rintro m σ3 rfl u2 hk2
          rw [nI_1]
          refine ih _ ⟨k + 1, by omega, rfl, rfl, g1.tr u2⟩ ?_
          show 10 - (nI (k + 1)).toNatClampNeg < 10 - (nI k).toNatClampNeg
          rw [nI_clamp (by omega), nI_clamp (by omega)]; omega
        by_cases c : pn P ≤ k
        · have : k = pn P := by omega
          subst this
          rw [if_pos (nI_le c (by omega))]
          exact ⟨_, rfl, rfl, g1⟩
        · rw [if_neg (nI_ge (by omega) (by omega)), if_neg (show ¬ (5 : Int32) ≤ nI k from nI_ge (b := 5) (by omega) (by omega))]
          by_cases c1 : k = k1
          · rw [if_pos (by rw [c1])]
            exact go _ σ2 (by rw [maskN, if_neg (fun z => ((hb k).mp z).1 c1)]) ⟨fun _ _ _ _ => rfl, fun _ _ => rfl⟩ (by omega)
          · rw [if_neg (fun z => c1 ((nIc (by omega) (by omega)).mp z))]
            obtain ⟨p, hp, ep⟩ := place_ex wc (show k < pn P by omega)
            obtain ⟨r, σ3, u1, u2, u3⟩ := silC rp2 rc2 w wc (e3.fr g1) (show k < pn P by omega) hk1 hq3 hp ep
            rw [u1, bd_s]
            rcases u3 with ⟨rfl, y⟩ | ⟨rfl, y⟩
            · rw [if_neg n10]
              exact go _ σ3 (by rw [maskN, if_pos ((hb k).mpr ⟨c1, p, hp, ep, y⟩)]; rfl) u2 (by omega)
            · rw [if_pos rfl]
              refine go _ σ3 ?_ u2 (by omega)
              rw [maskN, if_neg]
              intro z
              obtain ⟨_, p2, hp2, ep2, y2⟩ := (hb k).mp z
              rw [wc.2.2.2.2 p2 p hp2 hp (by omega)] at y2
              exact y y2)
      have t2 : s1 = maskN b (pn P) := t2
      subst t2
      exact ⟨s2, t1, t3⟩
    have ml : ∃ τ2, f9_dry_20 (nI k1) (nI q1) (0, 0, τ1) = some (maskN b (pn P), τ2) ∧ FrM τ1 τ2 := by
      unfold f9_dry_20
      obtain ⟨⟨s1, s2⟩, t1, t2, t3⟩ := wl_fuel (body := fun k20 p1 => f9_dry_20_b k20 (nI k1) (nI q1) p1.1 p1.2.1 p1.2.2) (fun p1 : Int32 × Int32 × HS => ∃ k, k ≤ pn P ∧ p1.1 = maskN b k ∧ p1.2.1 = nI k ∧ FrM τ1 p1.2.2) (fun p1 => 10 - p1.2.1.toNatClampNeg) (fun r : Int32 × HS => r.1 = maskN b (pn P) ∧ FrM τ1 r.2) (0, 0, τ1) ⟨0, by omega, rfl, rfl, FrM.rfl' _⟩ (by show 10 - _ < _; omega) (by
        rintro k20 ⟨x3, x4, τ2⟩ ⟨k, hk, e, e', g1⟩ ih
        have e : x3 = maskN b k := e
        have e' : x4 = nI k := e'
        subst e e'
        have g1 : FrM τ1 τ2 := g1
        dsimp only
        unfold f9_dry_20_b
        have rm2 := g1.rm (f2.rm rm)
        rw [rm2.1]
        have go : ∀ (m : Int32) (τ3 : HS), m = maskN b (k + 1) → FrM τ1 τ3 → k < pn P → ∃ r, k20 (m, nI k + 1, τ3) = some r ∧ r.1 = maskN b (pn P) ∧ FrM τ1 r.2 := by
          rintro m τ3 rfl u2 hk2
          rw [nI_1]
          refine ih _ ⟨k + 1, by omega, rfl, rfl, u2⟩ ?_
          show 10 - (nI (k + 1)).toNatClampNeg < 10 - (nI k).toNatClampNeg
          rw [nI_clamp (by omega), nI_clamp (by omega)]; omega
        by_cases c : pn P ≤ k
        · have : k = pn P := by omega
          subst this
          rw [if_pos (nI_le c (by omega))]
          exact ⟨_, rfl, rfl, g1⟩
        · rw [if_neg (nI_ge (by omega) (by omega))]
          have hkn : k < pn P := by omega
          have h3 := (w.2.2.2 k hkn).2.2.1
          obtain ⟨p, hp, ep⟩ := place_ex wc hkn
          obtain ⟨pt1, pt2⟩ := place_turn (C := C) hp
          unfold f9_dry_32
          let Sil : Nat → Prop := fun r => ∃ c, ((c = 9 ∧ 0 < r) ∨ c + 1 < r) ∧ ¬ SaidDay P C (forceSaid P C p c) k1 q1 (turnsN P C)
          refine wl_fuel (body := fun k32 p1 => f9_dry_32_b k20 k32 (nI k1) (nI q1) p1.1 (nI k) p1.2.1 p1.2.2) (fun p1 : Int32 × Int32 × HS => ∃ r, r ≤ pw P k + 1 ∧ p1.2.1 = (if r = 0 then -1 else nI (r - 1)) ∧ FrM τ1 p1.2.2 ∧ (k = k1 → r = 0) ∧ ((p1.1 = maskN b k ||| bitN k ∧ Sil r) ∨ (p1.1 = maskN b k ∧ ¬ Sil r))) (fun p1 => 10 - (if p1.2.1 = -1 then 0 else p1.2.1.toNatClampNeg + 1)) _ _ ⟨0, by omega, rfl, g1, fun _ => rfl, Or.inr ⟨rfl, fun ⟨c, h, _⟩ => by omega⟩⟩ (by show 10 - _ < _; omega) ?_
          rintro k32 ⟨m, x5, τ3⟩ ⟨r, hr, e, h1, hk1r, h2⟩ ih2
          have e : x5 = (if r = 0 then -1 else nI (r - 1)) := e
          subst e
          have h1 : FrM τ1 τ3 := h1
          have h2 : (m = maskN b k ||| bitN k ∧ Sil r) ∨ (m = maskN b k ∧ ¬ Sil r) := h2
          dsimp only
          unfold f9_dry_32_b f9_dry_98
          have rm3 := h1.rm (f2.rm rm)
          rw [ix_in (by omega) (by omega), nI_clamp (by omega), (rm3.2.2.2.2.1 k hkn).2.1]
          by_cases cr : r = pw P k + 1
          · subst cr
            have e0 : (if pw P k + 1 = 0 then (-1 : Int32) else nI (pw P k + 1 - 1)) = nI (pw P k) := by rw [if_neg (Nat.succ_ne_zero _), Nat.add_sub_cancel]
            rw [e0, if_pos (nI_le (Nat.le_refl (pw P k)) (by omega))]
            have hne : k ≠ k1 := fun z => by have := hk1r z; omega
            refine go m τ3 ?_ h1 hkn
            rcases h2 with ⟨z, c, hc, hs⟩ | ⟨z, hs⟩
            · rw [maskN, if_pos ((hb k).mpr ⟨hne, p, hp, ep, c, by omega, hs⟩), z]
            · rw [maskN, if_neg, z]
              intro y
              obtain ⟨_, p2, hp2, ep2, c, hc, y2⟩ := (hb k).mp y
              rw [wc.2.2.2.2 p2 p hp2 hp (by omega)] at y2
              exact hs ⟨c, by omega, y2⟩
          · have lt : ¬ nI (pw P k) ≤ (if r = 0 then -1 else nI (r - 1)) := by
              by_cases r0 : r = 0
              · rw [if_pos r0, Int32.le_iff_toInt_le, nI_toInt (by omega), tn1]; omega
              · rw [if_neg r0]; exact nI_ge (by omega) (by omega)
            rw [if_neg lt]
            by_cases c1 : k = k1
            · rw [if_pos (by rw [c1])]
              have r0 := hk1r c1
              subst r0
              rcases h2 with ⟨z, c, hc, hs⟩ | ⟨z, hs⟩
              · omega
              · exact go m τ3 (by rw [maskN, if_neg (fun y => ((hb k).mp y).1 c1), z]) h1 hkn
            · rw [if_neg (fun z => c1 ((nIc (by omega) (by omega)).mp z)), placeOf_m rm3 w wc hp ep, bd_s]
              have run : ∀ c : Nat, (c = if r = 0 then 9 else r - 1) → ∃ s, f9_dry_69 k20 k32 (nI k1) (nI q1) m (nI k) (if r = 0 then -1 else nI (r - 1)) (cd c) (nI p) τ3 = some s ∧ s.1 = maskN b (pn P) ∧ FrM τ1 s.2 := by
                intro c hc
                have hcl : p < turnsN P C → c = 9 ∨ c < pw P (who P C p) := fun _ => by
                  rw [pt2, ep, hc]; split <;> omega
                obtain ⟨τ4, u1, u2, u3⟩ := forceM (p := p) (c := c) rm3 w wc (LayAt.fr f3 h1) (by omega) hcl
                obtain ⟨s, v1, v2⟩ := isM (u2.rm rm3) w wc (force_ok w wc hcl) u3 hk1 hq3
                unfold f9_dry_69 f9_dry_90
                rw [u1, bd_s, v1, bd_s, show (if r = 0 then (-1 : Int32) else nI (r - 1)) + 1 = (if r + 1 = 0 then -1 else nI (r + 1 - 1)) by
                  rw [if_neg (Nat.succ_ne_zero r)]
                  by_cases r0 : r = 0
                  · rw [if_pos r0, r0]; rfl
                  · rw [if_neg r0, nI_1, show r - 1 + 1 = r + 1 - 1 by omega]]
                have stp : ∀ m2 : Int32, ((m2 = maskN b k ||| bitN k ∧ Sil (r + 1)) ∨ (m2 = maskN b k ∧ ¬ Sil (r + 1))) → ∃ s, k32 (m2, (if r + 1 = 0 then -1 else nI (r + 1 - 1)), τ4) = some s ∧ s.1 = maskN b (pn P) ∧ FrM τ1 s.2 := by
                  intro m2 hm2
                  refine ih2 _ ⟨r + 1, by omega, rfl, h1.tr u2, fun z => absurd z c1, hm2⟩ ?_
                  dsimp only
                  rw [if_neg (show ¬ r + 1 = 0 by omega), if_neg (nI_m1 (by omega)), nI_clamp (by omega)]
                  by_cases r0 : r = 0
                  · rw [if_pos r0]
                    rw [if_pos rfl]; omega
                  · rw [if_neg r0, if_neg (nI_m1 (by omega)), nI_clamp (by omega)]; omega
                rcases v2 with ⟨rfl, y⟩ | ⟨rfl, y⟩
                · rw [if_neg n10, or_0]
                  refine stp m ?_
                  rcases h2 with ⟨z, c2, hc2, hs2⟩ | ⟨z, hs2⟩
                  · exact Or.inl ⟨z, c2, by omega, hs2⟩
                  · refine Or.inr ⟨z, ?_⟩
                    rintro ⟨c2, hc2, hs3⟩
                    by_cases e2 : c2 = c
                    · rw [e2] at hs3; exact hs3 y
                    · refine hs2 ⟨c2, ?_, hs3⟩
                      by_cases r0 : r = 0
                      · rw [if_pos r0] at hc; omega
                      · rw [if_neg r0] at hc; omega
                · rw [if_pos rfl]
                  have bt : (1 : Int32) <<< (nI k &&& 31) = bitN k := rfl
                  rw [bt]
                  refine stp _ (Or.inl ⟨?_, c, ?_, y⟩)
                  · rcases h2 with ⟨z, _⟩ | ⟨z, _⟩
                    · rw [z, or_twice]
                    · rw [z]
                  · by_cases r0 : r = 0
                    · rw [if_pos r0] at hc; omega
                    · rw [if_neg r0] at hc; omega
              by_cases r0 : r = 0
              · have h := run 9 (by rw [if_pos r0])
                rw [if_pos r0, cd_9] at h
                rw [if_pos r0, if_neg (by decide)]
                exact h
              · have h := run (r - 1) (by rw [if_neg r0])
                rw [if_neg r0, cd_z (by omega)] at h
                rw [if_neg r0, if_pos (nI_pos' (by omega))]
                exact h)
      have t2 : s1 = maskN b (pn P) := t2
      subst t2
      exact ⟨s2, t1, t3⟩
    obtain ⟨σ2, x1, x2⟩ := cl
    obtain ⟨τ2, y1, y2⟩ := ml
    exact ⟨_, _, _, x1, y1, P, C, (e2.lay f2).fr (Or.inl rfl) x2 y2⟩
