/-! the plan of a free day, read from the class -/
theorem readL {a2 a3 : Nat → Int32} {P : PP} {C : CC} {σ τ : HS} {j : Nat} (hL : LwA a2 a3 P C) (hB : InvB j σ τ P C) (hj : j < 512) : ∃ r : Int32 × HS × (Nat → Int32) × (Nat → Int32), g_read a2 (fun _ => 0) (fun _ => 0) σ = some r ∧ r.1 = 1 ∧ PB (j + 1) r.2.1 τ P C ∧ LwS r.2.2.1 r.2.2.2 P (freeSaid P C) (turnsN P C) := by
  have h2 := hL.1
  have h4 := hL.2.1
  obtain ⟨tb1, tb2⟩ := turnsB hL
  obtain ⟨w, wc, -⟩ := id hB
  have h99 := w.2.1
  unfold g_read g_read_3
  refine wl_fuel (body := fun k3 p => g_read_3_b a2 k3 p.1 p.2.1 p.2.2.1 p.2.2.2) (fun p : (Nat → Int32) × (Nat → Int32) × Int32 × HS => ∃ x, x ≤ pj P + 1 ∧ p.2.2.1 = nI x ∧ (PB (j + 1) p.2.2.2 τ P C ∨ (x = 0 ∧ InvB j p.2.2.2 τ P C)) ∧ ∀ x', x' < x → (if x' < 64 then p.1 x' else p.2.1 (x' - 64)) = nI (pak (fun t => freeSaid P C t x') (turnsN P C))) (fun p => 200 - p.2.2.1.toNatClampNeg) _ _ ⟨0, by omega, rfl, Or.inr ⟨rfl, hB⟩, fun x' hx => absurd hx (Nat.not_lt_zero x')⟩ (by show 200 - _ < _; omega) ?_
  rintro k3 ⟨a11, a12, x4, σ1⟩ ⟨x, hx, e1, e2, e3⟩ ih
  have e1 : x4 = nI x := e1
  subst e1
  have e2 : PB (j + 1) σ1 τ P C ∨ (x = 0 ∧ InvB j σ1 τ P C) := e2
  have e3 : ∀ x', x' < x → (if x' < 64 then a11 x' else a12 (x' - 64)) = nI (pak (fun t => freeSaid P C t x') (turnsN P C)) := e3
  dsimp only
  unfold g_read_3_b
  rw [ct1, hL.2.2.2.1]
  by_cases c : pj P < x
  · rw [if_pos (nI_lt c (by omega))]
    refine ⟨_, rfl, rfl, ?_, fun x' hx' => e3 x' (by omega)⟩
    rcases e2 with z | z
    · exact z
    · omega
  · have hxj : x ≤ pj P := by omega
    have hs : ∀ t, t < turnsN P C → freeSaid P C t x = 9 ∨ freeSaid P C t x < 3 := fun t ht => by
      have := free_ok w wc t x ht hxj
      have := (w.2.2.2 _ (who_lt wc ht)).2.2.1
      omega
    rw [if_neg (nI_nlt (by omega) (by omega))]
    unfold g_read_17
    refine wl_fuel (body := fun k17 p => g_read_17_b a2 k3 k17 a11 a12 (nI x) p.1 p.2.1 p.2.2) (fun p : Int32 × Int32 × HS => ∃ t, t ≤ turnsN P C ∧ p.2.1 = nI t ∧ p.1 = nI (pak (fun t => freeSaid P C t x) t) ∧ (PB (j + 1) p.2.2 τ P C ∨ (t = 0 ∧ InvB j p.2.2 τ P C))) (fun p => 10 - p.2.1.toNatClampNeg) _ _ ⟨0, by omega, rfl, rfl, by rcases e2 with z | z; exact Or.inl z; exact Or.inr ⟨rfl, z.2⟩⟩ (by show 10 - _ < _; omega) ?_
    rintro k17 ⟨x5, x6, σ2⟩ ⟨t, ht, f1, f2, f3⟩ ih2
    have f1 : x6 = nI t := f1
    have f2 : x5 = nI (pak (fun t => freeSaid P C t x) t) := f2
    subst f1 f2
    have f3 : PB (j + 1) σ2 τ P C ∨ (t = 0 ∧ InvB j σ2 τ P C) := f3
    dsimp only
    unfold g_read_17_b g_read_118
    rw [turnsL hL wc, bd_s]
    by_cases ct : turnsN P C ≤ t
    · have : t = turnsN P C := by omega
      subst this
      have pb : PB (j + 1) σ2 τ P C := by
        rcases f3 with z | z
        · exact z
        · omega
      have mu : 200 - (nI (x + 1)).toNatClampNeg < 200 - (nI x).toNatClampNeg := by
        rw [nI_clamp (by omega), nI_clamp (by omega)]; omega
      rw [if_pos (nI_le ct (by omega))]
      by_cases c64 : 64 ≤ x
      · rw [if_pos (show (64 : Int32) ≤ nI x from nI_le (a := 64) c64 (by omega)), show nI x - (64 : Int32) = nI (x - 64) from pk_sub (b := 64) c64, ix_in (by omega) (by omega), bd_s, nI_clamp (by omega), nI_1]
        refine ih _ ⟨x + 1, by omega, rfl, Or.inl pb, fun x' hx' => ?_⟩ mu
        show (if x' < 64 then a11 x' else upd a12 (x - 64) _ (x' - 64)) = _
        by_cases cx : x' = x
        · rw [cx, if_neg (by omega), upS]
        · have := e3 x' (by omega)
          by_cases c6 : x' < 64
          · rw [if_pos c6]; rw [if_pos c6] at this; exact this
          · rw [if_neg c6, upN (by omega)]; rw [if_neg c6] at this; exact this
      · rw [if_neg (show ¬ (64 : Int32) ≤ nI x from nI_ge (b := 64) (by omega) (by omega)), ix_in (by omega) (by omega), bd_s, nI_clamp (by omega), nI_1]
        refine ih _ ⟨x + 1, by omega, rfl, Or.inl pb, fun x' hx' => ?_⟩ mu
        show (if x' < 64 then upd a11 x _ x' else a12 (x' - 64)) = _
        by_cases cx : x' = x
        · rw [cx, if_pos (by omega), upS]
        · have := e3 x' (by omega)
          rw [if_pos (by omega), upN cx]; rw [if_pos (by omega)] at this; exact this
    · have htT : t < turnsN P C := by omega
      obtain ⟨σ3, q1, q2⟩ : ∃ σ3, f8_choice (nI t) (nI x) σ2 = some (cd (freeSaid P C t x), σ3) ∧ PB (j + 1) σ3 τ P C := by
        rcases f3 with z | ⟨-, z⟩
        · exact ⟨σ2, choice_p z htT hxj, z⟩
        · exact choice_d z hj htT hxj
      have fo := free_ok w wc t x htT hxj
      have hwho := who_lt wc htT
      have hpw := (hL.2.2.2.2.2.2.1 _ hwho).1
      have hw3 := (w.2.2.2 _ hwho).2.2.1
      have plt := pak_lt (s := fun t => freeSaid P C t x) t (fun t ht => hs t (by omega))
      have dlt := dig_lt (hs t htT)
      have e4 : (4 : Nat) ^ t = 2 ^ (2 * t) := by rw [Nat.pow_mul]
      have p4 := pow4 t (by omega)
      rw [if_neg (nI_ge (by omega) (by omega)), q1, bd_s]
      dsimp only
      have go : ∀ z : Nat, z = dig (freeSaid P C t x) → ∃ r, k17 (nI (pak (fun t => freeSaid P C t x) t) ||| (nI z <<< ((2 * nI t) &&& 31)), nI t + 1, σ3) = some r ∧ r.1 = 1 ∧ PB (j + 1) r.2.1 τ P C ∧ LwS r.2.2.1 r.2.2.2 P (freeSaid P C) (turnsN P C) := by
        rintro _ rfl
        have b4 : dig (freeSaid P C t x) * 2 ^ (2 * t) ≤ 3 * 4096 := Nat.mul_le_mul (by omega) (by rw [← e4]; exact p4.2)
        rw [lm2, shl1 (by omega) (by omega), or32 (by rw [← e4]; exact plt) (by rw [← e4] at b4 ⊢; omega), ← e4, nI_1]
        refine ih2 _ ⟨t + 1, by omega, rfl, rfl, Or.inl q2⟩ ?_
        show 10 - (nI (t + 1)).toNatClampNeg < 10 - (nI t).toNatClampNeg
        rw [nI_clamp (by omega), nI_clamp (by omega)]; omega
      unfold g_read_66 g_read_79
      by_cases c9 : freeSaid P C t x = 9
      · rw [c9, cd_9, if_pos rfl, if_neg (show ¬ (0 : Int32) ≤ -9 by decide)]
        exact go 3 (by rw [c9]; rfl)
      · rw [if_neg (cd_m9 (by omega)), if_neg (fun z => c9 ((cd_neg (by omega)).mp z)), cd_z (by omega), whoL hL htT, bd_s, le9, ix_in (by omega) (by omega), nI_clamp (by omega), hpw, if_pos (nI_lt (by omega) (by omega)), if_pos (nI_pos' (by omega))]
        exact go _ (by unfold dig; rw [if_neg c9])
