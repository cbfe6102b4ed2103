/-! all orders of n, as rows; each the next of the one before -/
def PL : Nat → List Nat
  | 2 => [1, 2]
  | 3 => [5, 7, 11, 15, 19, 21]
  | 4 => [27, 30, 39, 45, 54, 57, 75, 78, 99, 108, 114, 120, 135, 141, 147, 156, 177, 180, 198, 201, 210, 216, 225, 228]
  | 5 => [194, 198, 214, 222, 238, 242, 294, 298, 334, 346, 358, 366, 414, 422, 434, 446, 482, 486, 538, 542, 558, 566, 582, 586, 694, 698, 714, 722, 738, 742, 894, 898, 954, 970, 978, 990, 1014, 1022, 1054, 1070, 1102, 1110, 1138, 1142, 1178, 1190, 1202, 1210, 1294, 1298, 1334, 1346, 1358, 1366, 1394, 1398, 1454, 1470, 1478, 1490, 1634, 1646, 1654, 1670, 1726, 1730, 1758, 1766, 1778, 1790, 1826, 1830, 1914, 1922, 1934, 1946, 1982, 1986, 2014, 2022, 2054, 2070, 2102, 2110, 2134, 2146, 2154, 2170, 2226, 2230, 2382, 2386, 2402, 2410, 2426, 2430, 2538, 2542, 2558, 2566, 2582, 2586, 2638, 2642, 2678, 2690, 2702, 2710, 2758, 2766, 2778, 2790, 2826, 2830, 2882, 2886, 2902, 2910, 2926, 2930]
  | _ => []
def okB (n a b : Nat) : Bool := (up (dgt n a) (n - 1) != 0) && (List.range n).all fun p => nxt n (dgt n a) p == dgt n b p
def chainB (n : Nat) : List Nat → Bool
  | [] => true
  | [a] => up (dgt n a) (n - 1) == 0
  | a :: b :: l => okB n a b && chainB n (b :: l)
theorem pl2 : (List.range (2 ^ 2)).filter (permB 2) = PL 2 := by decide +kernel
theorem pl3 : (List.range (3 ^ 3)).filter (permB 3) = PL 3 := by decide +kernel
theorem pl4 : (List.range (4 ^ 4)).filter (permB 4) = PL 4 := by decide +kernel
theorem pl5 : (List.range (5 ^ 5)).filter (permB 5) = PL 5 := by decide +kernel
theorem ch2 : chainB 2 (PL 2) = true := by decide +kernel
theorem ch3 : chainB 3 (PL 3) = true := by decide +kernel
theorem ch4 : chainB 4 (PL 4) = true := by decide +kernel
theorem ch5 : chainB 5 (PL 5) = true := by decide +kernel
theorem pl_n {n : Nat} (h2 : 2 ≤ n) (h5 : n ≤ 5) : (List.range (n ^ n)).filter (permB n) = PL n ∧ chainB n (PL n) = true ∧ (PL n).length ≤ 120 ∧ 0 < (PL n).length ∧ ∀ p, p < n → (PL n)[0]? = some (PL n).head! ∧ dgt n (PL n).head! p = p := by
  have : n = 2 ∨ n = 3 ∨ n = 4 ∨ n = 5 := by omega
  rcases this with rfl | rfl | rfl | rfl
  · exact ⟨pl2, ch2, by decide, by decide, by decide⟩
  · exact ⟨pl3, ch3, by decide, by decide, by decide⟩
  · exact ⟨pl4, ch4, by decide +kernel, by decide +kernel, by decide +kernel⟩
  · exact ⟨pl5, ch5, by decide +kernel, by decide +kernel, by decide +kernel⟩
theorem chain_ix (n : Nat) : ∀ (l : List Nat), chainB n l = true → ∀ i a, l[i]? = some a → (∀ b, l[i + 1]? = some b → okB n a b = true) ∧ (l[i + 1]? = none → up (dgt n a) (n - 1) = 0) := by
  intro l
  induction l with
  | nil => intro _ i a h; cases i <;> cases h
  | cons x l ih =>
    intro hc i a h
    cases l with
    | nil =>
      cases i with
      | zero =>
        have : x = a := by simpa using h
        subst this
        exact ⟨fun b hb => by simp at hb, fun _ => by simpa [chainB] using hc⟩
      | succ i => simp at h
    | cons y l =>
      have hc : okB n x y = true ∧ chainB n (y :: l) = true := by simpa [chainB] using hc
      cases i with
      | zero =>
        have : x = a := by simpa using h
        subst this
        exact ⟨fun b hb => by have : y = b := by simpa using hb
                              rw [← this]; exact hc.1, fun hb => by simp at hb⟩
      | succ i => exact ih hc.2 i a (by simpa using h)
theorem pl_mem {n : Nat} (h2 : 2 ≤ n) (h5 : n ≤ 5) (R : Nat) : R ∈ PL n ↔ R < n ^ n ∧ permB n R = true := by
  rw [← (pl_n h2 h5).1, List.mem_filter, List.mem_range]
theorem pl_lt {n : Nat} (h2 : 2 ≤ n) (h5 : n ≤ 5) : ∀ (i k a b : Nat), (PL n)[i]? = some a → (PL n)[k]? = some b → i < k → a < b := by
  have h : List.Pairwise (fun a b : Nat => a < b) (PL n) := by
    rw [← (pl_n h2 h5).1]
    exact List.Pairwise.filter _ List.pairwise_lt_range
  intro i k a b ha hb hik
  obtain ⟨i1, e1⟩ := List.getElem?_eq_some_iff.mp ha
  obtain ⟨k1, e2⟩ := List.getElem?_eq_some_iff.mp hb
  have := List.pairwise_iff_getElem.mp h i k i1 k1 hik
  rw [e1, e2] at this
  exact this
theorem perm_inj {n R : Nat} (h : permB n R = true) {p r : Nat} (hp : p < n) (hr : r < n) (e : dgt n R p = dgt n R r) : p = r := by
  unfold permB at h
  rw [List.all_eq_true] at h
  have := h p (List.mem_range.mpr hp)
  rw [List.all_eq_true] at this
  have := this r (List.mem_range.mpr hr)
  simp at this
  rcases this with z | z
  · exact z
  · exact absurd e z
theorem dgt_lt {n R p : Nat} (h : 0 < n) : dgt n R p < n := Nat.mod_lt _ h
