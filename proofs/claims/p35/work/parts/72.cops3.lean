/-! cells put, days told, speakers that change places, laws -/
/-- a cell cut to its lane -/
def cutV (a : Nat) (v : Int32) : Int32 := if a = 0 then v.toInt8.toInt32 else v.toInt16.toInt32
theorem put_g {j : Nat} {σ τ : HS} {P : PP} {C : CC} (hB : InvB j σ τ P C) {k a s i : Nat} (hk : k < 4) (ha : a ≤ 1) (hs : s ≤ 100) (e1 : τ.1 21 k = nI s) (e2 : τ.1 22 k = nI a) (hi : i < s) (v : Int32) : ∃ σ1, f8_put (nI k) (nI i) v σ = some (1, σ1) ∧ InvB j σ1 (uI (uI τ 23 (100 * k + i) (cutV a v)) 0 0 0) P C := by
  obtain ⟨w, wc, rp, rc, rm, rs, rl, a8, a9, b1, b2, b3, b4⟩ := id hB
  rcases rs k hk with ⟨s1, s2, s3⟩ | ⟨a', s', s1, s2, s3, s4, s5, s6, s7⟩
  · rw [e1] at s3; exact absurd s3 (nI_m1 (by omega))
  · have es : s' = s := (nIc (by omega) (by omega)).mp (s5.symm.trans e1)
    have ea : a' = a := (nIc (by omega) (by omega)).mp (s6.symm.trans e2)
    subst es ea
    unfold f8_put f8_put_47
    rw [isSheet_y hk, bd_s, if_neg n10, isEmpty_n hk s3 s1, bd_s, if_pos rfl, sizeOf_e hk, bd_s, s4, if_neg (nI_pos (by omega)), if_pos (nI_lt hi (by omega))]
    unfold f7_store f7_cutTo
    rw [place_e, bd_s, laneOf_e hk, bd_s, show (nI (100 * k + i), σ).2.1 2 k = nI a' from s3]
    have fin : ∀ v : Int32, v = cutV a' v → True := fun _ _ => trivial
    have go : ∀ v' : Int32, v' = cutV a' v → ∃ σ1, (bd (bd (some (v', σ)) fun r2 => bd (f8_set 4 400 (nI (100 * k + i)) r2.1 r2.2) fun r3 => some r3) fun r8 => bd (f8_told 1 r8) fun r9 => some (r9.1, r9.2)) = some (1, σ1) ∧ InvB j σ1 (uI (uI τ 23 (100 * k + i) (cutV a' v)) 0 0 0) P C := by
      rintro v' rfl
      rw [bd_s, set_in (by omega) (by omega), bd_s, bd_s, told_0 (Or.inl (by decide)), bd_s]
      refine ⟨_, rfl, hB.sh (fun b c1 c2 c3 c4 => by rw [uI_other c1, uI_other c4]) rfl ?_ (fun b c1 c2 c3 c4 c5 => by rw [uI_other c1, uI_other c4]) ⟨?_, ?_, ?_, ?_, ?_⟩ ?_ ?_ (rs.set hk (fun y hy => ?_) (fun k2 y h1 h2 h3 => ?_) (Or.inr ⟨a', s', s1, s2, ?_, ?_, ?_, ?_, fun x hx => ?_⟩))⟩
      · simp [uI_at]
      · simp [uI_at]
      · simp [uI_at]
      · simp [uI_at]
      · simp [uI_at]
      · simp [uI_at]
      · simp [uI_at]; exact b3
      · simp [uI_at]
      · simp [uI_at]
      · have : ¬ 100 * k2 + y = 100 * k + i := by omega
        simp [uI_at, this]
      · simp [uI_at]; exact s3
      · simp [uI_at]; exact s4
      · simp [uI_at]; exact s5
      · simp [uI_at]; exact s6
      · by_cases c : x = i
        · subst c; simp [uI_at]
        · simp [uI_at, c]; exact s7 x hx
    by_cases c0 : a' = 0
    · rw [if_pos (by rw [c0]; rfl)]
      exact go _ (by unfold cutV; rw [if_pos c0])
    · have : a' = 1 := by omega
      rw [if_neg (nI_ne0 (by omega) (by omega)), if_pos (by rw [this]; rfl)]
      exact go _ (by unfold cutV; rw [if_neg c0])
theorem cutV0 {v : Nat} (h : v < 128) : cutV 0 (nI v) = nI v := by
  have key : ∀ v : Fin 128, (nI v.1).toInt8.toInt32 = nI v.1 := by decide +kernel
  exact key ⟨v, h⟩
theorem cutV1 {c : Nat} (h : c = 9 ∨ c < 3) : cutV 1 (cd c) = cd c := by
  have : c = 9 ∨ c = 0 ∨ c = 1 ∨ c = 2 := by omega
  rcases this with rfl | rfl | rfl | rfl <;> decide +kernel
/-- the second sheet is a row of seven shorts -/
def ShF (τ : HS) : Prop := τ.1 21 1 = nI 7 ∧ τ.1 22 1 = nI 1
theorem shF_s {σ τ : HS} (rs : RepSh σ τ) (h : ShF τ) : σ.1 2 1 = nI 1 ∧ σ.1 3 1 = nI 7 ∧ ∀ i, i < 7 → σ.1 4 (100 * 1 + i) = τ.1 23 (100 * 1 + i) := by
  obtain ⟨e1, e2⟩ := h
  rcases rs 1 (by omega) with ⟨s1, s2, s3⟩ | ⟨a', s', s1, s2, s3, s4, s5, s6, s7⟩
  · rw [e1] at s3; exact absurd s3 (nI_m1 (by omega))
  · have es : s' = 7 := (nIc (by omega) (by omega)).mp (s5.symm.trans e1)
    have ea : a' = 1 := (nIc (by omega) (by omega)).mp (s6.symm.trans e2)
    subst es ea
    exact ⟨s3, s4, s7⟩
theorem part_y {σ : HS} {k a i n s : Nat} (hk : k < 4) (ha : a ≤ 2) (e : σ.1 2 k = nI a) (e2 : σ.1 3 k = nI s) (hs : s ≤ 100) (h : i + n ≤ s) : f7_partRefusal (nI k) (nI a) (nI i) (nI n) σ = some (0, σ) := by
  unfold f7_partRefusal f7_rowRefusal
  rw [isSheet_y hk, bd_s, if_neg n10, isLane_y (by omega), bd_s, if_neg n10, isEmpty_n hk e ha, bd_s, if_pos rfl, laneOf_e hk, bd_s, e, if_pos rfl, bd_s, if_pos rfl, if_pos (nI_pos' (by omega)), hasPart_y hk e2 hs h, bd_s, if_neg n10]
theorem day_y {j : Nat} {σ τ : HS} {P : PP} {C : CC} (hB : InvB j σ τ P C) (hn : 0 < pn P) (hS : ShF τ) {d : Nat} (hd : d < 6) (h29 : τ.1 0 29 = nI d) {s : Nat → Nat} (hs : ∀ t, t < turnsN P C → τ.1 23 (100 + t) = cd (s t) ∧ (s t = 9 ∨ s t < pw P (who P C t))) {e : Nat} (he : e ≤ 99) : ∃ σ1 τ1, f8_day 1 1 0 (nI e) σ = some (nI d, σ1) ∧ InvB j σ1 τ1 P C ∧ (∀ b, b ≠ 0 → b ≠ 19 → b ≠ 20 → τ1.1 b = τ.1 b) ∧ τ1.1 0 29 = nI (d + 1) ∧ (∀ y, τ1.1 20 y = if y = d then nI e else τ.1 20 y) ∧ (∀ y, τ1.1 19 y = if 6 * d ≤ y ∧ y < 6 * d + turnsN P C then τ.1 23 (100 + (y - 6 * d)) else τ.1 19 y) ∧ σ1.1 0 11 = σ.1 0 11 := by
  obtain ⟨w, wc, rp, rc, rm, rs, rl, a8, a9, b1, b2, b3, b4⟩ := id hB
  have h5 := w.1
  have h6 := turns_le C w
  obtain ⟨z1, z2, z3⟩ := shF_s rs hS
  obtain ⟨d', lg, en, l1, l2, l3, l4⟩ := rl
  have : d' = d := (nIc (by omega) (by omega)).mp (l3.symm.trans h29)
  subst this
  have hv : ∀ t, t < turnsN P C → σ.1 4 (100 * 1 + (0 + t)) = cd (s t) := fun t ht => by
    rw [show 0 + t = t by omega, z3 t (by omega)]; exact (hs t ht).1
  unfold f8_day f8_day_81
  have pr := part_y (i := 0) (n := turnsN P C) (show 1 < 4 by omega) (show 1 ≤ 2 by omega) z1 z2 (by omega) (by omega)
  have wcc := words_c rp rc w wc (show 1 < 4 by omega) (i := 0) (n := turnsN P C) (by omega) (Nat.le_refl _)
  have wok : ∀ t, t < turnsN P C → WOk P C (fun t => σ.1 4 (100 * 1 + (0 + t))) t := fun t ht => by
    show σ.1 4 (100 * 1 + (0 + t)) = -9 ∨ _
    rw [hv t ht]
    rcases (hs t ht).2 with z | z
    · left; rw [z]; rfl
    · right
      have := (w.2.2.2 _ (who_lt wc ht)).2.2.1
      exact ⟨s t, z, by show σ.1 4 (100 * 1 + (0 + t)) = _; rw [hv t ht]; exact cd_z (by omega)⟩
  have wcy : f8_areWords (nI 1) (nI 0) (nI (turnsN P C)) σ = some (1, σ) := by
    rcases wcc with ⟨_, e⟩ | ⟨no, _⟩
    · exact e
    · exact absurd wok no
  have pr : f7_partRefusal 1 1 0 (nI (turnsN P C)) σ = some (0, σ) := pr
  have wcy : f8_areWords 1 0 (nI (turnsN P C)) σ = some (1, σ) := wcy
  rw [turns_g rp rc w wc, bd_s]
  dsimp only
  rw [pr, bd_s, if_pos rfl, rp.1, if_neg (nI_ne0 hn (by omega)), wcy, bd_s, if_neg n10, if_neg (nI_pos (by omega)), if_pos (show nI e ≤ (99 : Int32) from nI_le (b := 99) (by omega) (by omega)), l2, if_pos (show nI d' < (6 : Int32) from nI_lt (b := 6) hd (by omega))]
  obtain ⟨σ1, u1, u2, u3, u4, u5, u6, u7⟩ := logC (σ := σ) (e := e) (show 1 < 4 by omega) (i := 0) (n := turnsN P C) (by omega) h6 hd l2
  obtain ⟨τ1, v1, v2, v3, v4, v5⟩ := logM (τ := τ) (e := e) rm w wc (show 1 < 4 by omega) (i := 0) (by omega) hd l3
  have u1 : f8_day_110 1 0 (nI e) (nI (turnsN P C)) (0, σ) = some (nI d', σ1) := u1
  refine ⟨σ1, τ1, u1, ⟨w, wc, rp.congr (fun a z1 z2 => ⟨u2 a (by omega) (by omega) (by omega) (by omega), by rw [u3]⟩), rc.congr (u2 _ (by omega) (by omega) (by omega) (by omega)) (u2 _ (by omega) (by omega) (by omega) (by omega)), rm.congr ⟨by rw [v3]; rfl, by rw [v3]; rfl, by rw [v3]; rfl, by rw [v3]; rfl⟩ (fun a z1 z2 => v2 a (by omega) (by omega) (by omega)), rs.congr ⟨u2 _ (by omega) (by omega) (by omega) (by omega), u2 _ (by omega) (by omega) (by omega) (by omega), u2 _ (by omega) (by omega) (by omega) (by omega)⟩ ⟨v2 _ (by omega) (by omega) (by omega), v2 _ (by omega) (by omega) (by omega), v2 _ (by omega) (by omega) (by omega)⟩, ⟨d' + 1, fun i t => if i = d' then s t else lg i t, fun i => if i = d' then e else en i, by omega, u5, ?_, fun i2 hi2 => ?_⟩, a8.congr (by rw [u4]; rfl) (u2 _ (by omega) (by omega) (by omega) (by omega)) (by rw [u3]), a9.congr (by rw [u2 _ (by omega) (by omega) (by omega) (by omega)]) (u2 _ (by omega) (by omega) (by omega) (by omega)) (u2 _ (by omega) (by omega) (by omega) (by omega)), b1.congr (by rw [u2 _ (by omega) (by omega) (by omega) (by omega)]) (u2 _ (by omega) (by omega) (by omega) (by omega)), b2.congr (by rw [u2 _ (by omega) (by omega) (by omega) (by omega)]) (u2 _ (by omega) (by omega) (by omega) (by omega)), ?_, ?_⟩, fun b y1 y2 y3 => v2 b y1 y2 y3, ?_, v4, fun y => ?_, by rw [u4]; rfl⟩
  · rw [v3]; rfl
  · dsimp only
    rw [u6, v4]
    by_cases c : i2 = d'
    · subst c
      simp only [↓reduceIte]
      refine ⟨by omega, trivial, trivial, fun t ht => ?_⟩
      have h := hs t ht
      rw [u7, v5, if_pos (by omega), if_pos (by omega), show 6 * i2 + t - 6 * i2 = t by omega, hv t ht]
      exact ⟨rfl, by rw [show 100 * 1 + (0 + t) = 100 + t by omega]; exact h.1, h.2⟩
    · simp only [if_neg c]
      obtain ⟨q1, q2, q3, q4⟩ := l4 i2 (by omega)
      refine ⟨q1, q2, q3, fun t ht => ?_⟩
      rw [u7, v5, if_neg (by omega), if_neg (by omega)]
      exact q4 t ht
  · rw [u4, v3]; exact b3
  · rw [u4, v3]; rfl
  · rw [v3]; rfl
  · rw [v5, show 100 * 1 + (0 + (y - 6 * d')) = 100 + (y - 6 * d') by omega]
/-- three days that can't be told -/
theorem day_n {j : Nat} {σ τ : HS} {P : PP} {C : CC} (hB : InvB j σ τ P C) (hn2 : 2 ≤ pn P) (hS : ShF τ) {s : Nat → Nat} (hs : ∀ t, t < turnsN P C → τ.1 23 (100 + t) = cd (s t) ∧ (s t = 9 ∨ s t < pw P (who P C t))) : f8_day 1 1 0 100 σ = some (-2, uI σ 0 13 0) ∧ f8_day 1 0 0 0 σ = some (-12, uI σ 0 13 2) ∧ f8_day 1 1 6 0 σ = some (-13, uI σ 0 13 3) := by
  obtain ⟨w, wc, rp, rc, rm, rs, rl, -⟩ := id hB
  have h5 := w.1
  have h6 := turns_le C w
  have hT : 2 ≤ turnsN P C := by unfold turnsN; split <;> omega
  obtain ⟨z1, z2, z3⟩ := shF_s rs hS
  have hv : ∀ t, t < turnsN P C → σ.1 4 (100 * 1 + (0 + t)) = cd (s t) := fun t ht => by
    rw [show 0 + t = t by omega, z3 t (by omega)]; exact (hs t ht).1
  have pr := part_y (i := 0) (n := turnsN P C) (show 1 < 4 by omega) (show 1 ≤ 2 by omega) z1 z2 (by omega) (by omega)
  have wcc := words_c rp rc w wc (show 1 < 4 by omega) (i := 0) (n := turnsN P C) (by omega) (Nat.le_refl _)
  have wok : ∀ t, t < turnsN P C → WOk P C (fun t => σ.1 4 (100 * 1 + (0 + t))) t := fun t ht => by
    show σ.1 4 (100 * 1 + (0 + t)) = -9 ∨ _
    rw [hv t ht]
    rcases (hs t ht).2 with z | z
    · left; rw [z]; rfl
    · right
      have := (w.2.2.2 _ (who_lt wc ht)).2.2.1
      exact ⟨s t, z, by show σ.1 4 (100 * 1 + (0 + t)) = _; rw [hv t ht]; exact cd_z (by omega)⟩
  have wcy : f8_areWords (nI 1) (nI 0) (nI (turnsN P C)) σ = some (1, σ) := by
    rcases wcc with ⟨_, e⟩ | ⟨no, _⟩
    · exact e
    · exact absurd wok no
  have pr : f7_partRefusal 1 1 0 (nI (turnsN P C)) σ = some (0, σ) := pr
  have wcy : f8_areWords 1 0 (nI (turnsN P C)) σ = some (1, σ) := wcy
  have is1 := isSheet_y (k := 1) (σ := σ) (by omega)
  have is1 : f7_isSheet 1 σ = some (1, σ) := is1
  have ie1 := isEmpty_n (k := 1) (a := 1) (σ := σ) (by omega) z1 (by omega)
  have ie1 : f7_isEmpty 1 σ = some (0, σ) := ie1
  have lo1 := laneOf_e (k := 1) (σ := σ) (by omega)
  have lo1 : f7_laneOf 1 σ = some (σ.1 2 1, σ) := lo1
  have il0 := isLane_y (k := 0) (σ := σ) (by omega)
  have il0 : f7_isLane 0 σ = some (1, σ) := il0
  have il1 := isLane_y (k := 1) (σ := σ) (by omega)
  have il1 : f7_isLane 1 σ = some (1, σ) := il1
  refine ⟨?_, ?_, ?_⟩
  · unfold f8_day f8_day_81
    rw [turns_g rp rc w wc, bd_s]
    dsimp only
    rw [pr, bd_s, if_pos rfl, rp.1, if_neg (nI_ne0 (by omega) (by omega)), wcy, bd_s, if_neg n10, if_neg (by decide), if_neg (by decide), told_m2, bd_s]
  · have rr : f7_rowRefusal 1 0 σ = some (-12, σ) := by
      unfold f7_rowRefusal
      rw [is1, bd_s, if_neg n10]
      dsimp only
      rw [il0, bd_s, if_neg n10]
      dsimp only
      rw [ie1, bd_s, if_pos rfl]
      dsimp only
      rw [lo1, bd_s]
      dsimp only
      rw [z1, if_neg (show ¬ nI 1 = (0 : Int32) by decide)]
    have n12 : ¬ (-12 : Int32) = 0 := by decide
    unfold f8_day f7_partRefusal
    rw [turns_g rp rc w wc, bd_s]
    dsimp only
    rw [rr, bd_s, if_neg n12, bd_s, if_neg n12, told_2, bd_s]
  · have rr : f7_rowRefusal 1 1 σ = some (0, σ) := by
      unfold f7_rowRefusal
      rw [is1, bd_s, if_neg n10]
      dsimp only
      rw [il1, bd_s, if_neg n10]
      dsimp only
      rw [ie1, bd_s, if_pos rfl]
      dsimp only
      rw [lo1, bd_s]
      dsimp only
      rw [z1, if_pos (show nI 1 = (1 : Int32) from rfl)]
    have n13 : ¬ (-13 : Int32) = 0 := by decide
    have hp := hasPart_n (k := 1) (s := 7) (i := 6) (n := nI (turnsN P C)) (σ := σ) (by omega) z2 (by omega) (by rw [nI_toInt (by omega)]; omega) (Or.inr (by rw [nI_toInt (by omega)]; show (7 : Int) < 6 + _; omega))
    have hp : f7_hasPart 1 6 (nI (turnsN P C)) σ = some (0, σ) := hp
    unfold f8_day f7_partRefusal
    rw [turns_g rp rc w wc, bd_s]
    dsimp only
    rw [rr, bd_s, if_pos rfl, if_pos (nI_pos' (by omega)), hp, bd_s, if_pos rfl, bd_s, if_neg n13, told_3, bd_s]
/-- a law told; the laws that are not a council's are not asked -/
theorem law_y {j : Nat} {σ τ : HS} {P : PP} {C : CC} (hB : InvB j σ τ P C) (hn : 0 < pn P) {k : Nat} (hk : k < 4) : ∃ σ1 τ1, f8_law (nI k) σ = some (nI (cw C), σ1) ∧ InvB j σ1 τ1 P (k, cl C, co C) ∧ (∀ b, b ≠ 0 → τ1.1 b = τ.1 b) ∧ τ1.1 0 29 = 0 := by
  obtain ⟨w, wc, rp, rc, rm, rs, rl, a8, a9, b1, b2, b3, b4⟩ := id hB
  have h5 := w.1
  unfold f8_law
  rw [if_neg (nI_pos (by omega)), if_pos (show nI k < (4 : Int32) from nI_lt (b := 4) hk (by omega)), rp.1, if_neg (nI_ne0 hn (by omega)), forget_e, bd_s, rc.1]
  refine ⟨_, uI (uI τ 0 4 (nI k)) 0 29 0, rfl, hB.renew w ⟨by show k ≤ 3; omega, wc.2.1, fun z => by omega, wc.2.2.2.1, wc.2.2.2.2⟩ ?_ ⟨?_, ?_, ?_⟩ ⟨?_, ?_, ?_, ?_, ?_, ?_⟩ ?_ ⟨?_, ?_, ?_⟩ ⟨?_, ?_, ?_, ?_⟩ ?_ ?_, fun b hb => by rw [uI_other hb, uI_other hb], by simp [uI_at]⟩
  · exact rp.congr (fun a z1 z2 => ⟨by rw [uI_other (by omega), uI_other (by omega), uI_other (by omega), uI_other (by omega)], rfl⟩)
  · simp [uI_at]
  · simp [uI_at]; exact rc.2.1
  · intro p hp; simp [uI_at]; exact rc.2.2 p hp
  · simp [uI_at]; exact rm.1
  · simp [uI_at]; exact rm.2.1
  · simp [uI_at]; exact rm.2.2.1
  · simp [uI_at]
  · intro k2 hk2
    simp [uI_at]; exact rm.2.2.2.2.1 k2 hk2
  · intro p hp; simp [uI_at]; exact rm.2.2.2.2.2 p hp
  · intro a ha
    rw [uI_other (by omega), uI_other (by omega), uI_other (by omega), uI_other (by omega)]
  · rw [uI_other (by omega), uI_other (by omega)]
  · rw [uI_other (by omega), uI_other (by omega)]
  · rw [uI_other (by omega), uI_other (by omega)]
  · simp [uI_at]
  · simp [uI_at]
  · simp [uI_at]
  · simp [uI_at]
  · simp [uI_at]; exact b3
  · simp [uI_at]; exact b4
/-- an order in which two speakers have changed places -/
def xch (k1 k2 : Nat) (o : Nat → Nat) : Nat → Nat := fun r => if o r = k1 then k2 else if o r = k2 then k1 else o r
theorem swap_y {j : Nat} {σ τ : HS} {P : PP} {C : CC} (hB : InvB j σ τ P C) {k1 k2 : Nat} (hk1 : k1 < pn P) (hk2 : k2 < pn P) {o' : Nat → Nat} (ho : ∀ r, r < pn P → o' r = xch k1 k2 (co C) r) : ∃ σ1 τ1, f8_swap (nI k1) (nI k2) σ = some (1, σ1) ∧ InvB j σ1 τ1 P (cw C, cl C, o') ∧ (∀ b, b ≠ 0 → b ≠ 6 → τ1.1 b = τ.1 b) ∧ τ1.1 0 29 = 0 := by
  obtain ⟨w, wc, rp, rc, rm, rs, rl, a8, a9, b1, b2, b3, b4⟩ := id hB
  have h5 := w.1
  obtain ⟨p, hp, ep⟩ := place_ex wc hk1
  obtain ⟨q, hq, eq⟩ := place_ex wc hk2
  have so : ∀ r, r < pn P → xch k1 k2 (co C) r = if r = q then k1 else if r = p then k2 else co C r := by
    intro r hr
    have i2 := wc.2.2.2.2 r p hr hp
    have i3 := wc.2.2.2.2 r q hr hq
    have i6 := wc.2.2.2.2 p q hp hq
    unfold xch
    by_cases c1 : r = q
    · subst c1
      rw [if_pos rfl, eq]
      by_cases c2 : k2 = k1
      · rw [if_pos c2, c2]
      · rw [if_neg c2, if_pos rfl]
    · rw [if_neg c1]
      by_cases c2 : r = p
      · subst c2
        rw [if_pos rfl, if_pos ep]
      · rw [if_neg c2, if_neg (fun z => c2 (i2 (z.trans ep.symm))), if_neg (fun z => c1 (i3 (z.trans eq.symm)))]
  unfold f8_swap
  rw [has_y rp.1 h5 hk1, bd_s, if_neg n10]
  dsimp only
  rw [has_y rp.1 h5 hk2, bd_s, if_neg n10]
  dsimp only
  rw [placeOf_c rp rc w wc hp ep, bd_s]
  dsimp only
  rw [placeOf_c rp rc w wc hq eq, bd_s]
  unfold f0_exchange
  rw [whoAt_g rc w hp, bd_s, whoAt_g rc w hq, bd_s, set_in (by omega) (by omega), bd_s, set_in (by omega) (by omega), bd_s, bd_s, forget_e, bd_s, ep, eq]
  refine ⟨_, uI (uI (uI τ 6 p (nI k2)) 6 q (nI k1)) 0 29 0, rfl, hB.renew w ⟨wc.1, wc.2.1, wc.2.2.1, fun r hr => ?_, fun r r2 hr hr2 er => ?_⟩ ?_ ⟨?_, ?_, ?_⟩ ⟨?_, ?_, ?_, ?_, ?_, ?_⟩ ?_ ⟨?_, ?_, ?_⟩ ⟨?_, ?_, ?_, ?_⟩ ?_ ?_, fun b y1 y2 => by rw [uI_other y1, uI_other y2, uI_other y2], by simp [uI_at]⟩
  · have := wc.2.2.2.1 r hr
    show o' r < _
    rw [ho r hr, so r hr]
    split
    · omega
    · split <;> omega
  · have er : o' r = o' r2 := er
    rw [ho r hr, ho r2 hr2, so r hr, so r2 hr2] at er
    have i1 := wc.2.2.2.2 r r2 hr hr2
    have i2 := wc.2.2.2.2 r p hr hp
    have i3 := wc.2.2.2.2 r q hr hq
    have i4 := wc.2.2.2.2 r2 p hr2 hp
    have i5 := wc.2.2.2.2 r2 q hr2 hq
    have i6 := wc.2.2.2.2 p q hp hq
    rw [ep] at i2 i4 i6
    rw [eq] at i3 i5 i6
    split at er <;> split at er <;> (try split at er) <;> (try split at er) <;> omega
  · exact rp.congr (fun a z1 z2 => ⟨by rw [uI_other (by omega), uI_other (by omega), uI_other (by omega), uI_other (by omega), uI_other (by omega)], rfl⟩)
  · simp [uI_at]; exact rc.1
  · simp [uI_at]; exact rc.2.1
  · intro r hr
    have := rc.2.2 r hr
    show _ = nI (o' r)
    rw [ho r hr, so r hr]
    by_cases z1 : r = q
    · simp [uI_at, z1]
    · by_cases z2 : r = p
      · have : ¬ p = q := fun z => z1 (z2.trans z)
        simp [uI_at, z2, this]
      · simp [uI_at, z1, z2]; exact this
  · simp [uI_at]; exact rm.1
  · simp [uI_at]; exact rm.2.1
  · simp [uI_at]; exact rm.2.2.1
  · simp [uI_at]; exact rm.2.2.2.1
  · intro k2 hk2
    simp [uI_at]; exact rm.2.2.2.2.1 k2 hk2
  · intro r hr
    have := rm.2.2.2.2.2 r hr
    show _ = nI (o' r)
    rw [ho r hr, so r hr]
    by_cases z1 : r = q
    · simp [uI_at, z1]
    · by_cases z2 : r = p
      · have : ¬ p = q := fun z => z1 (z2.trans z)
        simp [uI_at, z2, this]
      · simp [uI_at, z1, z2]; exact this
  · intro a ha
    rw [uI_other (by omega), uI_other (by omega), uI_other (by omega), uI_other (by omega), uI_other (by omega)]
  · rw [uI_other (by omega), uI_other (by omega), uI_other (by omega)]
  · rw [uI_other (by omega), uI_other (by omega), uI_other (by omega)]
  · rw [uI_other (by omega), uI_other (by omega), uI_other (by omega)]
  · simp [uI_at]
  · simp [uI_at]
  · simp [uI_at]
  · simp [uI_at]
  · simp [uI_at]; exact b3
  · simp [uI_at]; exact b4
