theorem chg_le (P : PP) (C : CC) (od : Nat → Nat) : ∀ m, chg P C od m ≤ m := by
  intro m
  induction m with
  | zero => exact Nat.le_refl _
  | succ m ih => unfold chg; split <;> omega
/-- noted over the first i orders -/
def Nt (σ : HS) (P : PP) (C : CC) (i : Nat) : Prop := ∀ k q, k < pn P → q < pw P k → (σ.1 45 (3 * k + q) = 6 ∧ ∀ i' R', i' < i → (PL (pn P))[i']? = some R' → ¬ saidBy P C (dgt (pn P) R') k q) ∨ ∃ i0 R r : Nat, i0 < i ∧ (PL (pn P))[i0]? = some R ∧ saidBy P C (dgt (pn P) R) k q ∧ (∀ i' R', i' < i → (PL (pn P))[i']? = some R' → saidBy P C (dgt (pn P) R') k q → chg P C (dgt (pn P) R) (pn P) < chg P C (dgt (pn P) R') (pn P) ∨ (chg P C (dgt (pn P) R) (pn P) = chg P C (dgt (pn P) R') (pn P) ∧ R ≤ R')) ∧ σ.1 45 (3 * k + q) = nI (chg P C (dgt (pn P) R) (pn P)) ∧ σ.1 46 (3 * k + q) = nI r ∧ r < 32768 ∧ ∀ p, p < pn P → r / 8 ^ p % 8 = dgt (pn P) R p
theorem Nt.done {σ : HS} {P : PP} {C : CC} (h2 : 2 ≤ pn P) (h5 : pn P ≤ 5) (h : Nt σ P C (PL (pn P)).length) : MotAt σ P C := by
  intro k q hk hq
  have ix : ∀ R', R' < pn P ^ pn P → permB (pn P) R' = true → ∃ i', i' < (PL (pn P)).length ∧ (PL (pn P))[i']? = some R' := fun R' h1 h3 => by
    obtain ⟨i', hi', e⟩ := List.getElem_of_mem ((pl_mem h2 h5 R').mpr ⟨h1, h3⟩)
    exact ⟨i', hi', by rw [List.getElem?_eq_getElem hi', e]⟩
  rcases h k q hk hq with ⟨a1, a2⟩ | ⟨i0, R, r, a1, a2, a3, a4, a5⟩
  · refine Or.inl ⟨a1, fun R' h1 h3 => ?_⟩
    obtain ⟨i', hi', e⟩ := ix R' h1 h3
    exact a2 i' R' hi' e
  · obtain ⟨m1, m2⟩ := (pl_mem h2 h5 R).mp (List.mem_of_getElem? a2)
    refine Or.inr ⟨R, r, m1, m2, a3, fun R' h1 h3 hs => ?_, a5⟩
    obtain ⟨i', hi', e⟩ := ix R' h1 h3
    exact a4 i' R' hi' e hs
def Fs (σ σ' : HS) : Prop := (∀ b, (b < 30 ∨ 40 ≤ b) → b ≠ 45 → b ≠ 46 → σ'.1 b = σ.1 b) ∧ ∀ b, (b < 30 ∨ 40 ≤ b) → σ'.2 b = σ.2 b
theorem Fs.tr {a b c : HS} (h : Fs a b) (h2 : Fs b c) : Fs a c := ⟨fun x h3 h4 h5 => (h2.1 x h3 h4 h5).trans (h.1 x h3 h4 h5), fun x hx => (h2.2 x hx).trans (h.2 x hx)⟩
theorem seek_c {j : Nat} {σ τ : HS} {P : PP} {C : CC} (hB : InvB j σ τ P C) (hj : j < 512) (hn : 0 < pn P) : ∃ σ', f3_seek σ = some σ' ∧ InvB (j + 1) σ' τ P C ∧ MotAt σ' P C := by
  obtain ⟨w, wc, rp, rc, rm, rs, rl, a8, a9, b1, b2, b3, b4⟩ := id hB
  have h5 := w.1
  have h2 : 2 ≤ pn P := by rcases w.2.2.1 with z | z <;> omega
  have hT : ∀ od, 0 < turnsN P (cw C, cl C, od) := fun od => turns_pos hn
  obtain ⟨-, lc, l120, l0, lfst⟩ := pl_n h2 h5
  unfold f3_seek
  rcases a9 with c | ⟨c, ma⟩
  · rw [if_pos c]
    unfold f3_seek_10
    refine wl_fuel (body := fun k10 p => f3_seek_10_b k10 p.1 p.2) (fun p : Int32 × HS => ∃ x, x ≤ 15 ∧ p.1 = nI x ∧ (∀ b, b ≠ 45 → p.2.1 b = σ.1 b) ∧ p.2.2 = σ.2 ∧ ∀ y, y < x → p.2.1 45 y = 6) (fun p => 20 - p.1.toNatClampNeg) (fun r : HS => InvB (j + 1) r τ P C ∧ MotAt r P C) (0, σ) ⟨0, by omega, rfl, fun _ _ => rfl, rfl, fun y h => absurd h (Nat.not_lt_zero y)⟩ (by show 20 - _ < _; omega) ?_
    rintro k10 ⟨x1, σ1⟩ ⟨x, hx, e, g1, g2, g3⟩ ih
    have e : x1 = nI x := e
    subst e
    have g1 : ∀ b, b ≠ 45 → σ1.1 b = σ.1 b := g1
    have g2 : σ1.2 = σ.2 := g2
    have g3 : ∀ y, y < x → σ1.1 45 y = 6 := g3
    dsimp only
    unfold f3_seek_10_b
    by_cases cx : 15 ≤ x
    · rw [if_pos (show (15 : Int32) ≤ nI x from nI_le cx (by omega))]
      have rc1 : RepC σ1 20 P C := rc.congr (g1 20 (by omega)) (g1 21 (by omega))
      obtain ⟨σ2, q1, q2, q3, q4⟩ := follow_c rc1 w
      obtain ⟨σ3, r1, r2, r3, r4⟩ := first_c 30 σ2
      rw [q1, bd_s, r1, bd_s]
      have f3 : ∀ b, b ≠ 30 → b ≠ 31 → b ≠ 45 → σ3.1 b = σ.1 b := fun b y1 y2 y3 => by rw [r2 b y2, q3 b y1 y2, g1 b y3]
      have f32 : σ3.2 = σ.2 := by rw [r3, q4, g2]
      obtain ⟨R0, hR0⟩ : ∃ R0, (PL (pn P))[0]? = some R0 ∧ ∀ p, p < pn P → dgt (pn P) R0 p = p := ⟨_, (lfst 0 hn).1, fun p hp => (lfst p hp).2⟩
      unfold f3_seek_54
      refine wl_fuel (body := fun k54 p => f3_seek_54_b k54 p.1 p.2.1 p.2.2) (fun p : Int32 × Int32 × HS => ∃ i, i ≤ (PL (pn P)).length ∧ p.2.1 = nI i ∧ Fs σ p.2.2 ∧ MkAt p.2.2 30 (200 * j + i) ∧ Nt p.2.2 P C i ∧ ((i = (PL (pn P)).length ∧ p.1 = 0) ∨ (p.1 = 1 ∧ ∃ R, (PL (pn P))[i]? = some R ∧ Ord p.2.2 (pn P) (dgt (pn P) R) ∧ (∀ y, pn P ≤ y → y < 5 → p.2.2.1 31 y = nI y) ∧ p.2.2.1 30 2 = nI (cw C) ∧ p.2.2.1 30 3 = nI (cl C)))) (fun p => 200 - p.2.1.toNatClampNeg) _ (1, 0, σ3) ⟨0, by omega, rfl, ⟨fun b y1 y2 y3 => f3 b (by omega) (by omega) y2, fun b _ => by rw [f32]⟩, b2.congr (by rw [f3 32 (by omega) (by omega) (by omega)]) (f3 36 (by omega) (by omega) (by omega)), fun k q hk hq => ?_, Or.inr ⟨rfl, R0, hR0.1, fun p hp => ?_, fun y y1 y2 => r4 y y2, ?_, ?_⟩⟩ (by show 200 - _ < _; omega) ?_
      · have hq3 := (w.2.2.2 k hk).2.2.1
        refine Or.inl ⟨?_, fun i' R' h => absurd h (Nat.not_lt_zero i')⟩
        show σ3.1 45 _ = 6
        rw [r2 45 (by omega), q3 45 (by omega) (by omega)]; exact g3 _ (by omega)
      · show σ3.1 31 p = _
        rw [hR0.2 p hp]; exact r4 p (by omega)
      · show σ3.1 30 2 = _
        rw [r2 30 (by omega)]; exact q2.1
      · show σ3.1 30 3 = _
        rw [r2 30 (by omega)]; exact q2.2.1
      · rintro k54 ⟨x1, x2, σ4⟩ ⟨i, hi, e, f1, f2, nt, hh⟩ ih2
        have e : x2 = nI i := e
        subst e
        have f1 : Fs σ σ4 := f1
        have f2 : MkAt σ4 30 (200 * j + i) := f2
        have nt : Nt σ4 P C i := nt
        have hh : (i = (PL (pn P)).length ∧ x1 = 0) ∨ (x1 = 1 ∧ ∃ R, (PL (pn P))[i]? = some R ∧ Ord σ4 (pn P) (dgt (pn P) R) ∧ (∀ y, pn P ≤ y → y < 5 → σ4.1 31 y = nI y) ∧ σ4.1 30 2 = nI (cw C) ∧ σ4.1 30 3 = nI (cl C)) := hh
        dsimp only
        unfold f3_seek_54_b f3_seek_111
        rcases hh with ⟨ei, rfl⟩ | ⟨rfl, R, hR, o1, o2, o3, o4⟩
        · have res : ∃ r, some (uI σ4 44 6 1) = some r ∧ InvB (j + 1) r τ P C ∧ MotAt r P C := by
            have ma := Nt.done h2 h5 (ei ▸ nt)
            have ma2 : MotAt (uI σ4 44 6 1) P C := by
              unfold MotAt at ma ⊢
              rw [uI_other (by omega), uI_other (by omega)]; exact ma
            refine ⟨_, rfl, hB.mk' (fun a ha => by rw [uI_other (by omega)]; exact f1.1 a (by omega) (by omega) (by omega)) (f1.2 11 (by omega)) ⟨by rw [uI_other (by omega), f1.1 0 (by omega) (by omega) (by omega)], by rw [uI_other (by omega), f1.1 0 (by omega) (by omega) (by omega)]⟩ (a8.congr (by rw [uI_other (by omega), f1.1 0 (by omega) (by omega) (by omega)]) (by rw [uI_other (by omega), f1.1 23 (by omega) (by omega) (by omega)]) (f1.2 24 (by omega))) (Or.inr ⟨by rw [uI_at, if_pos ⟨rfl, rfl⟩], ma2⟩) ((b1.congr (by rw [uI_other (by omega), f1.1 22 (by omega) (by omega) (by omega)]) (by rw [uI_other (by omega), f1.1 26 (by omega) (by omega) (by omega)])).mono (by omega)) ((f2.congr (by rw [uI_other (by omega)]) (uI_other (by omega) _ _)).mono (by omega)) (fun _ _ => rfl) (fun _ _ _ => rfl), ma2⟩
          by_cases c120 : (120 : Int32) ≤ nI i
          · rw [if_pos c120]; exact res
          · rw [if_neg c120, if_pos rfl]; exact res
        · have hil : i < (PL (pn P)).length := (List.getElem?_eq_some_iff.mp hR).1
          obtain ⟨m1, m2⟩ := (pl_mem h2 h5 R).mp (List.mem_of_getElem? hR)
          have dl : ∀ p, p < pn P → dgt (pn P) R p < pn P := fun p _ => dgt_lt hn
          have wci : WfC P (cw C, cl C, dgt (pn P) R) := ⟨wc.1, wc.2.1, fun z => by omega, dl, fun p r hp hr e => perm_inj m2 hp hr e⟩
          have rp4 : RepP σ4 P := rp.congr (fun y z1 z2 => ⟨f1.1 y (by omega) (by omega) (by omega), f1.2 y (by omega)⟩)
          have rc4 : RepC σ4 30 P (cw C, cl C, dgt (pn P) R) := ⟨o3, o4, o1⟩
          obtain ⟨σ5, s1, s2, s3, s4⟩ := made_c (m := 0) rp4 rc4 w wci (Or.inl rfl) f2 (by omega) (hT _)
          have s1 : (bd (f5_openWhatIsReached σ4) fun r1 => bd (f5_settleAll 30 0 r1) fun r2 => some r2) = some σ5 := s1
          have rp5 := s2.rp rp4
          have rc5 := s2.rc rc4
          obtain ⟨σ6, t1, t2, t3⟩ := free30 rp5 rc5 w wci s4
          have rp6 := t2.rp (by omega) rp5
          have rc6 := t2.rc rc5
          have fs6 : Fs σ4 σ6 := ⟨fun b y1 y2 y3 => by rw [t2.1 b (by omega) (by omega) (by omega), (s2 b (by omega)).1], fun b y1 => by rw [t2.2 b (by omega), (s2 b (by omega)).2]⟩
          have e45 : σ6.1 45 = σ4.1 45 := by rw [t2.1 45 (by omega) (by omega) (by omega), (s2 45 (by omega)).1]
          have e46 : σ6.1 46 = σ4.1 46 := by rw [t2.1 46 (by omega) (by omega) (by omega), (s2 46 (by omega)).1]
          have e31 : σ6.1 31 = σ4.1 31 := by rw [t2.1 31 (by omega) (by omega) (by omega), (s2 31 (by omega)).1]
          have rc26 : RepC σ6 20 P C := rc.congr (by rw [fs6.1 20 (by omega) (by omega) (by omega), f1.1 20 (by omega) (by omega) (by omega)]) (by rw [fs6.1 21 (by omega) (by omega) (by omega), f1.1 21 (by omega) (by omega) (by omega)])
          have ord6 : Ord σ6 (pn P) (dgt (pn P) R) := fun p hp => by rw [e31]; exact o1 p hp
          have cc := chg_c w rp6 rc26 ord6 dl wc
          have cle := chg_le P C (dgt (pn P) R) (pn P)
          have ord5 : Ord σ6 5 (fun y => if y < pn P then dgt (pn P) R y else y) := fun y hy => by
            rw [e31]
            by_cases cy : y < pn P
            · dsimp only; rw [if_pos cy]; exact o1 y cy
            · dsimp only; rw [if_neg cy]; exact o2 y (by omega) hy
          have b8 : ∀ y, y < 5 → (if y < pn P then dgt (pn P) R y else y) < 8 := fun y hy => by
            split
            · next z => have := dl y z; omega
            · omega
          have pk := pack_c ord5 b8
          obtain ⟨pb1, pb2⟩ := pack_b _ b8 5 (by omega)
          obtain ⟨σ7, v1, v2, v3, v4⟩ := note_c (r := pack (fun y => if y < pn P then dgt (pn P) R y else y) 5) (x := chg P C (dgt (pn P) R) (pn P)) (o := fun s => (σ4.1 45 s).toNatClampNeg) w wci rp6 rc6 (saidM_SaidOk 0 w wci) t3 (by omega) (fun k q hk hq => by
            rw [e45]
            rcases nt k q hk hq with ⟨z, _⟩ | ⟨_, R', _, _, _, _, _, z, _⟩
            · rw [z]; exact ⟨rfl, by decide⟩
            · have := chg_le P C (dgt (pn P) R') (pn P)
              rw [z, nI_clamp (by omega)]; exact ⟨rfl, by omega⟩)
          have h57 : σ7.1 5 0 = nI (pn P) := by rw [v2 5 (by omega) (by omega)]; exact rp6.1
          have ord7 : Ord σ7 (pn P) (dgt (pn P) R) := fun p hp => by rw [v2 31 (by omega) (by omega)]; exact ord6 p hp
          unfold f5_makeForFreeDay
          rw [if_neg (show ¬ (120 : Int32) ≤ nI i from nI_ge (b := 120) (by omega) (by omega)), if_neg n10, s1, bd_s, t1, bd_s, cc, bd_s, pk, bd_s, v1, bd_s, nI_1]
          have fs7 : Fs σ σ7 := (f1.tr fs6).tr ⟨fun b y1 y2 y3 => v2 b y2 y3, fun b _ => by rw [v3]⟩
          have mk7 : MkAt σ7 30 (200 * j + (i + 1)) := (t2.mk30 s3).congr (by rw [v2 32 (by omega) (by omega)]) (v2 36 (by omega) (by omega))
          have nt7 : Nt σ7 P C (i + 1) := by
            intro k q hk hq
            have sd : SaidDay P (cw C, cl C, dgt (pn P) R) (saidM 0 P (cw C, cl C, dgt (pn P) R)) k q (turnsN P (cw C, cl C, dgt (pn P) R)) ↔ saidBy P C (dgt (pn P) R) k q := Iff.rfl
            obtain ⟨w1, w2⟩ := v4 k q hk hq
            rw [sd] at w1 w2
            rw [e45, e46] at w2
            have ups : ∀ (Q : Nat → Nat → Prop), (∀ i' R', i' < i → (PL (pn P))[i']? = some R' → Q i' R') → Q i R → ∀ i' R', i' < i + 1 → (PL (pn P))[i']? = some R' → Q i' R' := fun Q z1 z2 i' R' z3 z4 => by
              by_cases ce : i' = i
              · rw [ce, hR] at z4
                have := Option.some.inj z4
                rw [ce, ← this]; exact z2
              · exact z1 i' R' (by omega) z4
            by_cases cs : saidBy P C (dgt (pn P) R) k q ∧ chg P C (dgt (pn P) R) (pn P) < (σ4.1 45 (3 * k + q)).toNatClampNeg
            · obtain ⟨u1, u2⟩ := w1 cs
              refine Or.inr ⟨i, R, _, by omega, hR, cs.1, ups _ (fun i' R' z1 z2 z3 => ?_) (fun _ => Or.inr ⟨rfl, Nat.le_refl _⟩), u1, u2, by have : (8 : Nat) ^ 5 = 32768 := rfl; omega, fun p hp => ?_⟩
              · rcases nt k q hk hq with ⟨_, y⟩ | ⟨i0, R0', _, y1, y2, y3, y4, y5, _⟩
                · exact absurd z3 (y i' R' z1 z2)
                · have c1 := cs.2
                  have := chg_le P C (dgt (pn P) R0') (pn P)
                  rw [y5, nI_clamp (by omega)] at c1
                  have := y4 i' R' z1 z2 z3
                  left; omega
              · have := pb2 p (by omega)
                rw [this, if_pos hp]
            · obtain ⟨u1, u2⟩ := w2 cs
              rcases nt k q hk hq with ⟨y1, y⟩ | ⟨i0, R0', r0, y1, y2, y3, y4, y5, y6, y7⟩
              · have ns : ¬ saidBy P C (dgt (pn P) R) k q := fun z => cs ⟨z, by rw [y1]; show _ < 6; omega⟩
                exact Or.inl ⟨by rw [u1]; exact y1, ups _ y ns⟩
              · have := chg_le P C (dgt (pn P) R0') (pn P)
                refine Or.inr ⟨i0, R0', r0, by omega, y2, y3, ups _ y4 (fun z => ?_), by rw [u1]; exact y5, by rw [u2]; exact y6, y7⟩
                have nl : ¬ chg P C (dgt (pn P) R) (pn P) < (σ4.1 45 (3 * k + q)).toNatClampNeg := fun z2 => cs ⟨z, z2⟩
                rw [y5, nI_clamp (by omega)] at nl
                have := pl_lt h2 h5 i0 i R0' R y2 hR y1
                rcases Nat.lt_or_ge (chg P C (dgt (pn P) R0') (pn P)) (chg P C (dgt (pn P) R) (pn P)) with z3 | z3
                · exact Or.inl z3
                · exact Or.inr ⟨by omega, by omega⟩
          have mu : 200 - (nI (i + 1)).toNatClampNeg < 200 - (nI i).toNatClampNeg := by
            rw [nI_clamp (by omega), nI_clamp (by omega)]; omega
          obtain ⟨ck1, ck2⟩ := chain_ix (pn P) (PL (pn P)) lc i R hR
          rcases next_o ord7 h57 h5 (by omega) dl with ⟨n1, n2⟩ | ⟨n1, σ8, n2, n3, n4⟩
          · rw [n2, bd_s]
            refine ih2 _ ⟨i + 1, by omega, rfl, fs7, mk7, nt7, Or.inl ⟨?_, rfl⟩⟩ mu
            rcases hnx : (PL (pn P))[i + 1]? with _ | b
            · have := List.getElem?_eq_none_iff.mp hnx
              omega
            · have := ck1 b hnx
              unfold okB at this
              rw [n1] at this
              simp at this
          · rw [n2, bd_s]
            rcases hnx : (PL (pn P))[i + 1]? with _ | b
            · exact absurd (ck2 hnx) n1
            · have okb := ck1 b hnx
              unfold okB at okb
              rw [Bool.and_eq_true, List.all_eq_true] at okb
              have hb := (List.getElem?_eq_some_iff.mp hnx).1
              refine ih2 _ ⟨i + 1, by omega, rfl, fs7.tr ⟨fun y y1 y2 y3 => n3.1 y (by omega), fun y _ => by rw [n3.2.1]⟩, mk7.congr (by rw [n3.1 32 (by omega)]) (n3.1 36 (by omega)), ?_, Or.inr ⟨rfl, b, hnx, fun p hp => ?_, fun y y1 y2 => ?_, ?_, ?_⟩⟩ mu
              · unfold Nt at nt7 ⊢
                dsimp only
                rw [n3.1 45 (by omega), n3.1 46 (by omega)]; exact nt7
              · have := okb.2 p (List.mem_range.mpr hp)
                have : nxt (pn P) (dgt (pn P) R) p = dgt (pn P) b p := by simpa using this
                show σ8.1 31 p = _
                rw [n4 p hp, this]
              · show σ8.1 31 y = _
                rw [n3.2.2 y y1, v2 31 (by omega) (by omega), e31]; exact o2 y y1 y2
              · show σ8.1 30 2 = _
                rw [n3.1 30 (by omega), v2 30 (by omega) (by omega)]; exact rc6.1
              · show σ8.1 30 3 = _
                rw [n3.1 30 (by omega), v2 30 (by omega) (by omega)]; exact rc6.2.1
    · rw [if_neg (show ¬ (15 : Int32) ≤ nI x from nI_ge (b := 15) (by omega) (by omega)), set_in (by omega) (by omega), bd_s, nI_1]
      refine ih _ ⟨x + 1, by omega, rfl, fun b hb => by show (uI σ1 45 _ _).1 b = _; rw [uI_other hb]; exact g1 b hb, g2, fun y hy => ?_⟩ ?_
      · show (uI σ1 45 x 6).1 45 y = _
        rw [uI_at]
        by_cases c1 : y = x
        · rw [if_pos ⟨rfl, c1⟩]
        · rw [if_neg (fun z => c1 z.2)]; exact g3 y (by omega)
      · show 20 - (nI (x + 1)).toNatClampNeg < 20 - (nI x).toNatClampNeg
        rw [nI_clamp (by omega), nI_clamp (by omega)]; omega
  · rw [if_neg (by rw [c]; exact n10)]
    exact ⟨σ, rfl, hB.mono, ma⟩
