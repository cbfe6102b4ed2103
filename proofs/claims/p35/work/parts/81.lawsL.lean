/-! by each water; the best of them -/
theorem sumN_W (V : Nat → Nat) : ∀ n, sumN V n = sumW V n := by
  intro n
  induction n with
  | zero => rfl
  | succ n ih => show sumN V n + V n = sumW V n + V n; rw [ih]
theorem lawW_now {P : PP} {C : CC} (w : WfP P) (wc : WfC P C) : lawW P C (cw C) = sumN (freeW P C) (pn P) := by
  have d := (dok w wc (free_ok w wc) (turnsN P C) (Nat.le_refl _)).2.2.2.2
  have h5 := w.1
  rw [sumN_W]
  exact sumW_z _ (pn P) d 5 h5
theorem bestL {sL : Nat} {a0 : Nat → Int32} (hsL : sL ≤ 260) (k85 : (Nat → Int32) × Int32 × HS × Nat → Option Int32) {a2 a3 a13 : Nat → Int32} {X : Nat} {σ τ : HS} {g j : Nat} {P : PP} {C : CC}
    (hX : X < 1000) (hL : LwA a2 a3 P C) (hB : InvB j σ τ P C) (hS : ShF τ) (h29 : τ.1 0 29 = 0) (h13 : ∀ k, k < pn P → a13 k = nI (freeW P C k)) (hj : j + 50 < 512) (hg : g + 520 < 80000)
    (hK : ∀ a2' τ' σ' g' j' C', InvB j' σ' τ' P C' → LwA a2' a3 P C' → ShF τ' → cl C' = cl C → j' ≤ j + 50 → g' ≤ g + 520 → k85 (a2', nI X + 1, σ', g') = some 1) :
    g_law_1143 sL a0 k85 a2 a3 (nI (pn P)) (nI X) (nI (cw C)) (nI (turnsN P C)) a13 g (0, -1, 0, σ) = some 1 := by
  have h2 := hL.1
  have h4 := hL.2.1
  obtain ⟨w, wc, -⟩ := id hB
  have bb := lawBest_b w wc (by omega : 0 < pn P)
  have cw3 := wc.1
  unfold g_law_1143
  refine wl_to (fun s : Int32 × Int32 × Int32 × HS => ∃ L, L ≤ 4 ∧ s.2.2.1 = nI L ∧ InvB (j + L) s.2.2.2 τ P C ∧ ((L = 0 ∧ s.1 = 0 ∧ s.2.1 = -1) ∨ ∃ L', L = L' + 1 ∧ s.1 = nI (lawBest P C L').1 ∧ s.2.1 = nI (lawBest P C L').2)) (fun s => 10 - s.2.2.1.toNatClampNeg) _ _ ⟨0, by omega, rfl, hB, Or.inl ⟨rfl, rfl, rfl⟩⟩ (by show 10 - _ < _; omega) ?_
  rintro k1143 ⟨x17, x18, x19, σ1⟩ ⟨L, hL4, e1, e2, e3⟩ ih
  have e1 : x19 = nI L := e1
  subst e1
  have e2 : InvB (j + L) σ1 τ P C := e2
  have e3 : (L = 0 ∧ x17 = 0 ∧ x18 = -1) ∨ ∃ L', L = L' + 1 ∧ x17 = nI (lawBest P C L').1 ∧ x18 = nI (lawBest P C L').2 := e3
  dsimp only
  unfold g_law_1143_b
  by_cases c : 4 ≤ L
  · have : L = 4 := by omega
    subst this
    rcases e3 with ⟨z, -⟩ | ⟨L', z, y1, -⟩
    · omega
    have : L' = 3 := by omega
    subst this
    obtain ⟨σ2, q1, q2, -⟩ := byLaw_v e2 (by omega) (by omega) cw3
    obtain ⟨σ3, t1, t2, -⟩ := byLaw_b q2 (by omega) (by omega)
    obtain ⟨-, -, -, rc, -⟩ := id t2
    obtain ⟨v, hv⟩ := cellL hsL a0 (14 + X) (by omega)
    have l1 := lowL v (n := 4) (by omega) (by omega)
    obtain ⟨kt, hkt, l1⟩ := l1
    have l1 : g_low v 4 = some (nI kt) := l1
    have l2 := lowL (v >>> (2 &&& 31)) (n := 10) (by omega) (by omega)
    obtain ⟨L, hL9, l2⟩ := l2
    have l2 : g_low (v >>> (2 &&& 31)) 10 = some (nI L) := l2
    rw [if_pos (show (4 : Int32) ≤ nI 4 by decide), q1, bd_s, allL (by omega) h13, bd_s, if_pos (by rw [lawW_now w wc])]
    dsimp only
    rw [t1, bd_s, if_pos y1.symm]
    dsimp only
    rw [byLaw_n, bd_s, if_pos rfl]
    dsimp only
    rw [many_3 rc, bd_s, if_pos rfl, le14, hv, bd_s, l1, bd_s, bd_s, l2, bd_s, if_neg (by omega), if_neg (by omega)]
    exact daysL hsL k85 hX hL hkt hL9 t2 hS h29 (by omega) (by omega) (fun a2' τ' σ' g' j' C' z1 z2 z3 z4 z5 z6 => hK a2' τ' σ' g' j' C' z1 z2 z3 z4 (by omega) (by omega))
  · obtain ⟨σ2, q1, q2, -⟩ := byLaw_v e2 (by omega) (by omega) (L := L) (by omega)
    rw [if_neg (show ¬ (4 : Int32) ≤ nI L from nI_ge (b := 4) (by omega) (by omega)), q1, bd_s]
    have lt := lawW_lt (L := L) w wc (by omega) (by omega)
    unfold g_law_1171 g_law_1187
    dsimp only
    have go : ∀ u v, (u = nI (lawBest P C L).1 ∧ v = nI (lawBest P C L).2) → k1143 (u, v, nI L + 1, σ2) = some 1 := by
      intro u v huv
      rw [nI_1]
      refine ih _ ⟨L + 1, by omega, rfl, q2, Or.inr ⟨L, rfl, huv⟩⟩ ?_
      show 10 - (nI (L + 1)).toNatClampNeg < 10 - (nI L).toNatClampNeg
      rw [nI_clamp (by omega), nI_clamp (by omega)]; omega
    rcases e3 with ⟨z, rfl, rfl⟩ | ⟨L', z, rfl, rfl⟩
    · subst z
      have nm : ¬ nI (lawW P C 0) ≤ -1 := by
        rw [Int32.le_iff_toInt_le, tn1, nI_toInt (by omega)]; omega
      rw [if_neg nm, if_neg nm]
      exact go _ _ ⟨rfl, rfl⟩
    · subst z
      obtain ⟨b1, b2⟩ := bb L' (by omega)
      have eb : lawBest P C (L' + 1) = if lawW P C (L' + 1) ≤ (lawBest P C L').2 then lawBest P C L' else (L' + 1, lawW P C (L' + 1)) := rfl
      by_cases cc : lawW P C (L' + 1) ≤ (lawBest P C L').2
      · rw [if_pos (nI_le cc (by omega)), if_pos (nI_le cc (by omega))]
        exact go _ _ ⟨by rw [eb, if_pos cc], by rw [eb, if_pos cc]⟩
      · rw [if_neg (nI_ge (by omega) (by omega)), if_neg (nI_ge (by omega) (by omega))]
        exact go _ _ ⟨by rw [eb, if_neg cc], by rw [eb, if_neg cc]⟩
