/-! packed worths -/
theorem uL_at (σ : HS) (k j a b : Nat) (x : Int64) : (uL σ k j x).2 a b = if a = k ∧ b = j then x else σ.2 a b := by
  by_cases h : a = k
  · subst h
    rw [uL_same]; unfold vp_updL
    by_cases h2 : b = j
    · rw [if_pos h2, if_pos ⟨rfl, h2⟩]
    · rw [if_neg h2, if_neg (fun z => h2 z.2)]
  · rw [uL_other h, if_neg (fun z => h z.1)]
theorem pkw5 (V : Nat → Nat) : pkw V 5 = V 0 + V 1 * 256 + V 2 * 65536 + V 3 * 16777216 + V 4 * 4294967296 := by
  show 0 + V 0 * 256 ^ 0 + V 1 * 256 ^ 1 + V 2 * 256 ^ 2 + V 3 * 256 ^ 3 + V 4 * 256 ^ 4 = _
  omega
theorem pkw_add (V W : Nat → Nat) : pkw (fun j => V j + W j) 5 = pkw V 5 + pkw W 5 := by
  rw [pkw5, pkw5, pkw5]; omega
theorem pkw_ext {V W : Nat → Nat} (h : ∀ j, j < 5 → V j = W j) : pkw V 5 = pkw W 5 := by
  rw [pkw5, pkw5, h 0 (by omega), h 1 (by omega), h 2 (by omega), h 3 (by omega), h 4 (by omega)]
theorem shr64 (a s : Int64) (k : Nat) (hs : (s.toBitVec.smod 64).toNat = k) : (a >>> s).toInt = a.toInt >>> k := by
  show (a.toBitVec.sshiftRight (s.toBitVec.smod 64).toNat).toInt = _
  rw [hs, BitVec.toInt_sshiftRight]
  rfl
theorem shr64N {n : Nat} (h : n < 2 ^ 63) (s : Int64) (k : Nat) (hs : (s.toBitVec.smod 64).toNat = k) : lN n >>> s = lN (n / 2 ^ k) := by
  apply Int64.toInt_inj.mp
  have h2 : n / 2 ^ k ≤ n := Nat.div_le_self _ _
  rw [shr64 _ _ k hs, pk_lT h, pk_lT (by omega), Int.shiftRight_eq_div_pow]
  rfl
theorem low8 (n : Nat) : nI n &&& 255 = nI (n % 256) := by
  rw [pk_and (nI n) 8 (m := 255) (by decide)]
  show nI ((BitVec.ofNat 32 n).toNat % 256) = _
  rw [BitVec.toNat_ofNat]
  congr 1; omega
theorem worthIn_c {V : Nat → Nat} (hV : ∀ j, j < 5 → V j < 256) {k : Nat} (hk : k < 5) (σ : HS) : f8_worthIn (lN (pkw V 5)) (nI k) σ = some (nI (V k), σ) := by
  have h0 := hV 0 (by omega)
  have h1 := hV 1 (by omega)
  have h2 := hV 2 (by omega)
  have h3 := hV 3 (by omega)
  have h4 := hV 4 (by omega)
  have e := pkw5 V
  unfold f8_worthIn
  rw [if_neg (nI_pos (by omega)), if_neg (show ¬ (5 : Int32) ≤ nI k from nI_ge (b := 5) hk (by omega))]
  have key : ∀ s : Nat, ((((nI k * 8) : Int32).toInt64 &&& 63).toBitVec.smod 64).toNat = s → pkw V 5 / 2 ^ s % 256 = V k → some ((((lN (pkw V 5) >>> (((nI k * 8) : Int32).toInt64 &&& 63) : Int64).toInt32) &&& 255), σ) = some (nI (V k), σ) := by
    intro s hs hv
    rw [shr64N (by omega) _ s hs, lN_i, low8, hv]
  match k, hk, key with
  | 0, _, key => exact key 0 (by decide) (by omega)
  | 1, _, key => exact key 8 (by decide) (by omega)
  | 2, _, key => exact key 16 (by decide) (by omega)
  | 3, _, key => exact key 24 (by decide) (by omega)
  | 4, _, key => exact key 32 (by decide) (by omega)
def sumW (V : Nat → Nat) : Nat → Nat
  | 0 => 0
  | n + 1 => sumW V n + V n
theorem sumW_z (V : Nat → Nat) (n : Nat) (h : ∀ j, n ≤ j → V j = 0) : ∀ m, n ≤ m → sumW V m = sumW V n := by
  intro m
  induction m with
  | zero => intro hm; have : n = 0 := by omega
            rw [this]
  | succ m ih =>
    intro hm
    by_cases c : n = m + 1
    · rw [c]
    · show sumW V m + V m = _
      rw [ih (by omega), h m (by omega)]; rfl
theorem toAll_c {V : Nat → Nat} (hV : ∀ j, j < 5 → V j < 256) (σ : HS) : f8_worthToAll (lN (pkw V 5)) σ = some (nI (sumW V 5), σ) := by
  unfold f8_worthToAll f8_worthToAll_4
  refine wl_eq (fun q : Int32 × Int32 × HS => ∃ i, i ≤ 5 ∧ q = (nI (sumW V i), nI i, σ)) (fun q => 10 - q.2.1.toNatClampNeg) _ _ ⟨0, by omega, rfl⟩ (by show 10 - _ < _; omega) ?_
  rintro k2 _ ⟨i, hi, rfl⟩ ih
  show f8_worthToAll_4_b k2 _ (nI (sumW V i)) (nI i) σ = _
  unfold f8_worthToAll_4_b
  by_cases c : 5 ≤ i
  · have : i = 5 := by omega
    subst this
    rw [if_pos (show (5 : Int32) ≤ nI 5 by decide)]
  · rw [if_neg (show ¬ (5 : Int32) ≤ nI i from nI_ge (b := 5) (by omega) (by omega)), worthIn_c hV (by omega), bd_s, nI_add, nI_1]
    refine ih _ ⟨i + 1, by omega, rfl⟩ ?_
    show 10 - (nI (i + 1)).toNatClampNeg < 10 - (nI i).toNatClampNeg
    rw [nI_clamp (by omega), nI_clamp (by omega)]; omega
/-! law and places -/
theorem cd_9 : cd 9 = -9 := rfl
theorem cd_n {c : Nat} (h : c ≠ 9) : cd c = nI c := if_neg h
theorem cd_z {c : Nat} (h : c < 9) : cd c = nI c := if_neg (by omega)
theorem cd_m9 {c : Nat} (h : c < 9) : ¬ cd c = -9 := by
  rw [cd_z h]
  intro e
  have := congrArg Int32.toInt e
  rw [nI_toInt (by omega), tn9] at this
  omega
theorem InvB.renew {j : Nat} {σ τ σ' τ' : HS} {P P' : PP} {C C' : CC} (h : InvB j σ τ P C) (w' : WfP P') (wc' : WfC P' C') (rp : RepP σ' P') (rc : RepC σ' 20 P' C') (rm : RepM τ' P' C') (e : ∀ a, a = 2 ∨ a = 3 ∨ a = 4 ∨ a = 22 ∨ a = 26 ∨ a = 32 ∨ a = 36 → σ'.1 a = σ.1 a) (t : τ'.1 21 = τ.1 21 ∧ τ'.1 22 = τ.1 22 ∧ τ'.1 23 = τ.1 23) (z : σ'.1 0 11 = 0 ∧ σ'.1 44 6 = 0 ∧ σ'.1 40 3 = 0 ∧ τ'.1 0 29 = 0) (tr : σ'.1 0 12 = τ'.1 0 36) (fl : σ'.1 0 13 = τ'.1 0 0) : InvB j σ' τ' P' C' := by
  obtain ⟨a1, a2, a3, a4, a5, a6, a7, a8, a9, b1, b2, b3, b4⟩ := h
  exact ⟨w', wc', rp, rc, rm, a6.congr ⟨e 2 (by omega), e 3 (by omega), e 4 (by omega)⟩ t, ⟨0, fun _ _ => 0, fun _ => 0, by omega, z.2.2.1, z.2.2.2, fun i h => absurd h (Nat.not_lt_zero i)⟩, Or.inl z.1, Or.inl z.2.1, b1.congr (by rw [e 22 (by omega)]) (e 26 (by omega)), b2.congr (by rw [e 32 (by omega)]) (e 36 (by omega)), tr, fl⟩
theorem forget_e (σ : HS) : f8_forgetWhatWas σ = some (uI (uI (uI σ 0 11 0) 44 6 0) 40 3 0) := rfl
theorem op_law (j : Nat) (σ τ : HS) (a1 : Int32) (hI : Inv j σ τ) (hj : j < 512) : ∃ (r : Int32) (σ1 τ1 : HS), f8_law a1 σ = some (r, σ1) ∧ f9_law a1 τ = some (r, τ1) ∧ Inv (j + 1) σ1 τ1 := by
  obtain ⟨P, C, hB⟩ := hI
  obtain ⟨w, wc, rp, rc, rm, rs, rl, a8, a9, b1, b2, b3, b4⟩ := id hB
  have h5 := w.1
  unfold f8_law f9_law
  rcases arg_c a1 4 (by omega) with hx | ⟨k, hk, rfl⟩
  · rw [in_n (by rw [w64]; show _ < (0 : Int) ∨ (3 : Int) < _; omega), bd_s, if_pos rfl]
    refine ⟨_, _, _, ?_, rfl, P, C, hB.mono⟩
    by_cases c : a1 < 0
    · rw [if_pos c]
    · rw [if_neg c, if_neg]
      rw [Int32.lt_iff_toInt_lt] at c ⊢
      have : (0 : Int32).toInt = 0 := rfl
      have : (4 : Int32).toInt = 4 := rfl
      omega
  · rw [in_y (by rw [w64, nI_toInt (by omega)]; show (0 : Int) ≤ _; omega) (by rw [w64, nI_toInt (by omega)]; show _ ≤ (3 : Int); omega), bd_s, if_neg n10, if_neg (nI_pos (by omega)), if_pos (show nI k < (4 : Int32) from nI_lt (b := 4) hk (by omega)), rp.1, rm.1]
    by_cases c : nI (pn P) = 0
    · rw [if_pos c, if_pos c]
      exact ⟨_, _, _, rfl, rfl, P, C, hB.mono⟩
    · rw [if_neg c, if_neg c, forget_e, bd_s, rc.1, rm.2.2.2.1]
      refine ⟨_, _, _, rfl, rfl, P, (k, cl C, co C), InvB.mono (hB.renew w ⟨by show k ≤ 3; omega, wc.2.1, fun z => absurd (by rw [z]; rfl) c, wc.2.2.2.1, wc.2.2.2.2⟩ ?_ ⟨?_, ?_, ?_⟩ ⟨?_, ?_, ?_, ?_, ?_, ?_⟩ ?_ ⟨?_, ?_, ?_⟩ ⟨?_, ?_, ?_, ?_⟩ ?_ ?_)⟩
      · exact rp.congr (fun a z1 z2 => ⟨by rw [uI_other (by omega), uI_other (by omega), uI_other (by omega), uI_other (by omega)], rfl⟩)
      · simp [uI_at]
      · simp [uI_at]; exact rc.2.1
      · intro p hp; simp [uI_at]; exact rc.2.2 p hp
      · simp [uI_at]; exact rm.1
      · simp [uI_at]; exact rm.2.1
      · simp [uI_at]; exact rm.2.2.1
      · simp [uI_at]
      · intro k2 hk2
        simp [uI_at]; exact rm.2.2.2.2.1 k2 hk2
      · intro p hp; simp [uI_at]; exact rm.2.2.2.2.2 p hp
      · intro a ha
        rw [uI_other (by omega), uI_other (by omega), uI_other (by omega), uI_other (by omega)]
      · rw [uI_other (by omega), uI_other (by omega)]
      · rw [uI_other (by omega), uI_other (by omega)]
      · rw [uI_other (by omega), uI_other (by omega)]
      · simp [uI_at]
      · simp [uI_at]
      · simp [uI_at]
      · simp [uI_at]
      · simp [uI_at]; exact b3
      · simp [uI_at]; exact b4
theorem op_swap (j : Nat) (σ τ : HS) (a1 a2 : Int32) (hI : Inv j σ τ) (hj : j < 512) : ∃ (r : Int32) (σ1 τ1 : HS), f8_swap a1 a2 σ = some (r, σ1) ∧ f9_swap a1 a2 τ = some (r, τ1) ∧ Inv (j + 1) σ1 τ1 := by
  obtain ⟨P, C, hB⟩ := hI
  obtain ⟨w, wc, rp, rc, rm, rs, rl, a8, a9, b1, b2, b3, b4⟩ := id hB
  have h5 := w.1
  unfold f8_swap f9_swap
  rcases arg_c a1 (pn P) (by omega) with hx | ⟨k1, hk1, rfl⟩
  · rw [has_n rp.1 h5 hx, bd_s, if_pos rfl, nsp_n rm.1 h5 hx, bd_s, if_neg n10]
    exact ⟨_, _, _, rfl, rfl, P, C, hB.mono⟩
  · rw [has_y rp.1 h5 hk1, bd_s, if_neg n10, nsp_y rm.1 h5 hk1, bd_s, if_pos rfl]
    rcases arg_c a2 (pn P) (by omega) with hx | ⟨k2, hk2, rfl⟩
    · rw [has_n rp.1 h5 hx, bd_s, if_pos rfl, nsp_n rm.1 h5 hx, bd_s, if_neg n10]
      exact ⟨_, _, _, rfl, rfl, P, C, hB.mono⟩
    · rw [has_y rp.1 h5 hk2, bd_s, if_neg n10, nsp_y rm.1 h5 hk2, bd_s, if_pos rfl]
      obtain ⟨p, hp, ep⟩ := place_ex wc hk1
      obtain ⟨q, hq, eq⟩ := place_ex wc hk2
      rw [placeOf_c rp rc w wc hp ep, bd_s, placeOf_c rp rc w wc hq eq, bd_s, placeOf_m rm w wc hp ep, bd_s, placeOf_m rm w wc hq eq, bd_s]
      unfold f0_exchange
      rw [whoAt_g rc w hp, bd_s, whoAt_g rc w hq, bd_s, set_in (by omega) (by omega), bd_s, set_in (by omega) (by omega), bd_s, bd_s, forget_e, bd_s, ix_in (by omega) (by omega), ix_in (by omega) (by omega), nI_clamp (by omega), nI_clamp (by omega), ep, eq]
      refine ⟨_, _, _, rfl, rfl, P, (cw C, cl C, fun r => if r = q then k1 else if r = p then k2 else co C r), InvB.mono (hB.renew w ⟨wc.1, wc.2.1, wc.2.2.1, fun r hr => ?_, fun r r2 hr hr2 er => ?_⟩ ?_ ⟨?_, ?_, ?_⟩ ⟨?_, ?_, ?_, ?_, ?_, ?_⟩ ?_ ⟨?_, ?_, ?_⟩ ⟨?_, ?_, ?_, ?_⟩ ?_ ?_)⟩
      · have := wc.2.2.2.1 r hr
        show (if r = q then k1 else if r = p then k2 else co C r) < _
        split
        · omega
        · split <;> omega
      · have er : (if r = q then k1 else if r = p then k2 else co C r) = (if r2 = q then k1 else if r2 = p then k2 else co C r2) := er
        have i1 := wc.2.2.2.2 r r2 hr hr2
        have i2 := wc.2.2.2.2 r p hr hp
        have i3 := wc.2.2.2.2 r q hr hq
        have i4 := wc.2.2.2.2 r2 p hr2 hp
        have i5 := wc.2.2.2.2 r2 q hr2 hq
        have i6 := wc.2.2.2.2 p q hp hq
        rw [ep] at i2 i4 i6
        rw [eq] at i3 i5 i6
        split at er <;> split at er <;> (try split at er) <;> (try split at er) <;> omega
      · exact rp.congr (fun a z1 z2 => ⟨by rw [uI_other (by omega), uI_other (by omega), uI_other (by omega), uI_other (by omega), uI_other (by omega)], rfl⟩)
      · simp [uI_at]; exact rc.1
      · simp [uI_at]; exact rc.2.1
      · intro r hr
        have := rc.2.2 r hr
        show _ = nI (if r = q then k1 else if r = p then k2 else co C r)
        by_cases z1 : r = q
        · simp [uI_at, z1]
        · by_cases z2 : r = p
          · have : ¬ p = q := fun z => z1 (z2.trans z)
            simp [uI_at, z2, this]
          · simp [uI_at, z1, z2]; exact this
      · simp [uI_at]; exact rm.1
      · simp [uI_at]; exact rm.2.1
      · simp [uI_at]; exact rm.2.2.1
      · simp [uI_at]; exact rm.2.2.2.1
      · intro k2 hk2
        simp [uI_at]; exact rm.2.2.2.2.1 k2 hk2
      · intro r hr
        have := rm.2.2.2.2.2 r hr
        show _ = nI (if r = q then k1 else if r = p then k2 else co C r)
        by_cases z1 : r = q
        · simp [uI_at, z1]
        · by_cases z2 : r = p
          · have : ¬ p = q := fun z => z1 (z2.trans z)
            simp [uI_at, z2, this]
          · simp [uI_at, z1, z2]; exact this
      · intro a ha
        rw [uI_other (by omega), uI_other (by omega), uI_other (by omega), uI_other (by omega), uI_other (by omega)]
      · rw [uI_other (by omega), uI_other (by omega), uI_other (by omega)]
      · rw [uI_other (by omega), uI_other (by omega), uI_other (by omega)]
      · rw [uI_other (by omega), uI_other (by omega), uI_other (by omega)]
      · simp [uI_at]
      · simp [uI_at]
      · simp [uI_at]
      · simp [uI_at]
      · simp [uI_at]; exact b3
      · simp [uI_at]; exact b4
