theorem op_council (j : Nat) (σ τ : HS) (a1 a2 a3 a4 : Int32) (hI : Inv j σ τ) (hj : j < 512) : ∃ (r : Int32) (σ1 τ1 : HS), f8_council a1 a2 a3 a4 σ = some (r, σ1) ∧ f9_council a1 a2 a3 a4 τ = some (r, τ1) ∧ Inv (j + 1) σ1 τ1 := by
  obtain ⟨P, C, hB⟩ := hI
  obtain ⟨w, wc, rp, rc, rm, rs, -⟩ := id hB
  unfold f8_council f9_council
  rcases part_c rs a1 a2 a3 a4 with ⟨code, ft, p1, p2, p3, p4, p5⟩ | ⟨k, a, i, n, s, rfl, rfl, rfl, rfl, hk, ha, his, hs, p4, p5, p6⟩
  · rw [p4, bd_s, if_neg p1, p3, bd_s, p5, bd_s, if_neg (by rw [Int32.le_iff_toInt_le]; show ¬ (0 : Int) ≤ code.toInt; omega)]
    exact ⟨_, _, _, rfl, rfl, P, C, (hB.flt ft).mono⟩
  · rw [p4, bd_s, if_pos rfl, place_e, bd_s, p5, bd_s, if_pos le00, e100]
    rcases read_j (v := fun q => σ.1 4 (100 * k + (i + q))) hk (i := i) (n := n) (by omega) (fun q _ => rfl) (fun q hq => by rw [show 100 * k + i + q = 100 * k + (i + q) by omega]; exact (p6 _ (by omega)).symm) with ⟨c, J, l, σ1, τ1, e1, e2, c2, c5, J1, J2, l9, z1, z2, fr, fq, z3, z4, z5, z6, z7⟩ | ⟨f, σ1, τ1, e1, e2, fr, fq, f200, z1⟩
    · rw [e1, bd_s, if_pos m1lt0, e2, bd_s, if_neg n10]
      -- the new people
      have hN : ∀ x : Nat, x < 1000000 → (nI x).toNatClampNeg = x := fun x hx => nI_clamp (by omega)
      have sp : ∀ k2, k2 < c → ∃ kd m : Nat, kd ≤ 2 ∧ 1 ≤ m ∧ m ≤ 3 ∧ σ1.1 13 k2 = nI kd ∧ τ1.1 7 k2 = nI kd ∧ σ1.1 14 k2 = nI m ∧ τ1.1 8 k2 = nI m ∧ ∀ q, q < m → WDe σ1 τ1 (3 * k2 + q) := fun k2 hk2 => by
        obtain ⟨m, m1, m3, ⟨kd, d1, d2, d3⟩, s1, s2, s3⟩ := z7 k2 hk2
        exact ⟨kd, m, d1, m1, m3, d2, d3, s1, s2, s3⟩
      let P' : PP := (c, J, fun x => (σ1.1 13 x).toNatClampNeg, fun x => (σ1.1 14 x).toNatClampNeg, fun x => (σ1.1 15 x).toNatClampNeg, fun x => (σ1.1 16 x).toNatClampNeg, fun x => (σ1.1 17 x).toNatClampNeg)
      have w' : WfP P' := by
        refine ⟨c5, J2, Or.inr ⟨c2, J1⟩, fun k2 hk2 => ?_⟩
        obtain ⟨kd, m, d1, m1, m3, d2, d3, s1, s2, s3⟩ := sp k2 hk2
        show (σ1.1 13 k2).toNatClampNeg ≤ 2 ∧ 1 ≤ (σ1.1 14 k2).toNatClampNeg ∧ (σ1.1 14 k2).toNatClampNeg ≤ 3 ∧ ∀ q, q < (σ1.1 14 k2).toNatClampNeg → 1 ≤ (σ1.1 15 (3 * k2 + q)).toNatClampNeg ∧ (σ1.1 15 (3 * k2 + q)).toNatClampNeg ≤ 60 ∧ (σ1.1 16 (3 * k2 + q)).toNatClampNeg ≤ 9 ∧ (σ1.1 17 (3 * k2 + q)).toNatClampNeg ≤ 9
        rw [d2, s1, hN kd (by omega), hN m (by omega)]
        refine ⟨d1, m1, m3, fun q hq => ?_⟩
        obtain ⟨x, y, z, q1, q2, q3, q4, q5, q6, q7, q8, q9, q10⟩ := s3 q hq
        rw [q1, q2, q3, hN x (by omega), hN y (by omega), hN z (by omega)]
        exact ⟨q7, q8, q9, q10⟩
      have hd : ∀ k2, k2 < pn P' → SpD σ1 P' k2 := fun k2 hk2 => by
        obtain ⟨kd, m, d1, m1, m3, d2, d3, s1, s2, s3⟩ := sp k2 hk2
        have em : pw P' k2 = m := by show (σ1.1 14 k2).toNatClampNeg = m; rw [s1, hN m (by omega)]
        refine ⟨?_, by rw [em]; exact s1, fun q hq => ?_⟩
        · show _ = nI (σ1.1 13 k2).toNatClampNeg
          rw [d2, hN kd (by omega)]
        · rw [em] at hq
          obtain ⟨x, y, z, q1, q2, q3, q4, q5, q6, q7, q8, q9, q10⟩ := s3 q hq
          refine ⟨?_, ?_, ?_⟩
          · show _ = nI (σ1.1 15 (3 * k2 + q)).toNatClampNeg
            rw [q1, hN x (by omega)]
          · show _ = nI (σ1.1 16 (3 * k2 + q)).toNatClampNeg
            rw [q2, hN y (by omega)]
          · show _ = nI (σ1.1 17 (3 * k2 + q)).toNatClampNeg
            rw [q3, hN z (by omega)]
      obtain ⟨σ2, b1, b2, b3, b4⟩ := become_c (l := l) w' z1 z3 z4 hd
      rw [b1, bd_s]
      unfold f0_beginAnew
      rw [show (uI σ2 20 2 0).1 5 2 = nI l by rw [uI_other (by omega)]; exact b3]
      obtain ⟨σ3, f1, f2, f3, f4⟩ := first_c 20 (uI (uI σ2 20 2 0) 20 3 (nI l))
      rw [f1, bd_s, bd_s, forget_e, bd_s]
      have rp3 : RepP σ3 P' := b2.congr (fun x q1 q2 => ⟨by rw [f2 x (by omega), uI_other (by omega), uI_other (by omega)], by rw [f3]; rfl⟩)
      generalize hσ4 : uI (uI (uI σ3 0 11 0) 44 6 0) 40 3 0 = σ4
      have rp4 : RepP σ4 P' := by
        subst hσ4
        exact rp3.congr (fun x q1 q2 => ⟨by rw [uI_other (by omega), uI_other (by omega), uI_other (by omega)], rfl⟩)
      rw [rp4.1, told_0 (Or.inl (by show -11 < (nI c).toInt; rw [nI_toInt (by omega)]; omega)), bd_s]
      dsimp only
      rw [z2]
      generalize hτ2 : uI (uI (uI (uI (uI τ1 0 1 (nI c)) 0 2 ((uI τ1 0 1 (nI c)).1 0 12)) 0 3 ((uI (uI τ1 0 1 (nI c)) 0 2 ((uI τ1 0 1 (nI c)).1 0 12)).1 0 13)) 0 4 0) 0 29 0 = τ2
      have t2 : ∀ b, b ≠ 0 → τ2.1 b = τ1.1 b := by
        subst hτ2
        intro b hb
        rw [uI_other hb, uI_other hb, uI_other hb, uI_other hb, uI_other hb]
      have t1 : τ2.1 0 1 = nI c := by subst hτ2; simp [uI_at]
      have t22 : τ2.1 0 2 = nI J := by subst hτ2; simp [uI_at]; exact z5
      have t3 : τ2.1 0 3 = nI l := by subst hτ2; simp [uI_at]; exact z6
      have t4 : τ2.1 0 4 = 0 := by subst hτ2; simp [uI_at]
      have t29 : τ2.1 0 29 = 0 := by subst hτ2; simp [uI_at]
      have t36 : τ2.1 0 36 = τ1.1 0 36 := by subst hτ2; simp [uI_at]
      obtain ⟨τ3, g1, g2, g3, g4, g5⟩ := copyM c5 t1
      rw [g1]
      have s4 : ∀ b, (b = 2 ∨ b = 3 ∨ b = 4 ∨ b = 22 ∨ b = 26 ∨ b = 32 ∨ b = 36) → σ4.1 b = σ1.1 b := by
        subst hσ4
        intro b hb
        rw [uI_other (by omega), uI_other (by omega), uI_other (by omega), f2 b (by omega), uI_other (by omega), uI_other (by omega), b4.1 b (by omega)]
      have s0 : ∀ y, y ≠ 11 → σ4.1 0 y = σ1.1 0 y := by
        subst hσ4
        intro y hy
        rw [uI_other (by omega), uI_other (by omega), uI_at, if_neg (by omega), f2 0 (by omega), uI_other (by omega), uI_other (by omega), b4.1 0 (by omega)]
      have hB1 := hB.rd fr fq
      have tr1 := hB1.2.2.2.2.2.2.2.2.2.2.2.1
      refine ⟨_, _, _, rfl, rfl, P', (0, l, fun p => p), InvB.mono (hB1.renew w' ⟨by show 0 ≤ 3; omega, l9, fun _ => rfl, fun p hp => hp, fun p r _ _ e => e⟩ ?_ ⟨?_, ?_, ?_⟩ ⟨?_, ?_, ?_, ?_, ?_, ?_⟩ ?_ ⟨?_, ?_, ?_⟩ ⟨?_, ?_, ?_, ?_⟩ ?_ ?_)⟩
      · exact rp4.congr (fun x q1 q2 => ⟨uI_other (by omega) _ _, rfl⟩)
      · subst hσ4
        simp [uI_at, f2 20 (by omega)]; rfl
      · subst hσ4
        simp [uI_at, f2 20 (by omega)]
      · intro p hp
        have hp : p < c := hp
        subst hσ4
        rw [uI_other (by omega), uI_other (by omega), uI_other (by omega), uI_other (by omega)]
        exact f4 p (by omega)
      · rw [g3]; exact t1
      · rw [g3]; exact t22
      · rw [g3]; exact t3
      · rw [g3]; exact t4
      · intro k2 hk2
        obtain ⟨kd, m, d1, m1, m3, d2, d3, s1, s2, s3⟩ := sp k2 hk2
        have hk2 : k2 < c := hk2
        have em : pw P' k2 = m := by show (σ1.1 14 k2).toNatClampNeg = m; rw [s1, hN m (by omega)]
        refine ⟨?_, ?_, fun q hq => ?_⟩
        · rw [(g4 k2 hk2).1, t2 7 (by omega), d3]
          show _ = nI (σ1.1 13 k2).toNatClampNeg
          rw [d2, hN kd (by omega)]
        · rw [(g4 k2 hk2).2.1, t2 8 (by omega), s2, em]
        · rw [em] at hq
          obtain ⟨x, y, z, q1, q2, q3, q4, q5, q6, q7, q8, q9, q10⟩ := s3 q hq
          have g5' := g5 (3 * k2 + q) (by omega)
          rw [g5'.1, g5'.2.1, g5'.2.2, t2 9 (by omega), t2 10 (by omega), t2 11 (by omega), q4, q5, q6]
          refine ⟨?_, ?_, ?_⟩
          · show _ = nI (σ1.1 15 (3 * k2 + q)).toNatClampNeg
            rw [q1, hN x (by omega)]
          · show _ = nI (σ1.1 16 (3 * k2 + q)).toNatClampNeg
            rw [q2, hN y (by omega)]
          · show _ = nI (σ1.1 17 (3 * k2 + q)).toNatClampNeg
            rw [q3, hN z (by omega)]
      · intro p hp
        exact (g4 p hp).2.2
      · intro b hb
        rw [uI_other (by omega)]; exact s4 b hb
      · rw [g2 21 (by omega) (by omega), t2 21 (by omega)]
      · rw [g2 22 (by omega) (by omega), t2 22 (by omega)]
      · rw [g2 23 (by omega) (by omega), t2 23 (by omega)]
      · subst hσ4; simp [uI_at]
      · subst hσ4; simp [uI_at]
      · subst hσ4; simp [uI_at]
      · rw [g3]; exact t29
      · rw [uI_at, if_neg (by omega), s0 12 (by omega), g3, if_neg (by omega), t36]; exact tr1
      · rw [uI_at, if_pos ⟨rfl, rfl⟩, g3, if_pos rfl]
    · have tl : ((-100 : Int32) - nI f).toInt < -14 := by
        rw [sub32 _ _ (by rw [nI_toInt (by omega), tn100]; omega) (by rw [nI_toInt (by omega), tn100]; omega), nI_toInt (by omega), tn100]; omega
      rw [e1, bd_s, if_neg (nI_pos (by omega)), told_0 (Or.inr tl), bd_s, e2, bd_s, if_pos rfl]
      unfold f9_refused
      dsimp only
      rw [z1, bd_s]
      exact ⟨_, _, _, rfl, rfl, P, C, ((hB.rd fr fq).flt 0).mono⟩
