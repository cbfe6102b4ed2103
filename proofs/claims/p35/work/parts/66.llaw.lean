noncomputable def g_law_2329 (sL : Nat) (a0 : Nat → Int32) (σ : HS) (g : Nat) : Option (Int32) :=
  some 0
noncomputable def g_law_2284 (sL : Nat) (a0 : Nat → Int32) (k85 : (Nat → Int32) × Int32 × HS × Nat → Option (Int32)) (k2255 : Int32 → Option (Int32)) (a2 : Nat → Int32) (a3 : Nat → Int32) (x4 : Int32) (x5 : Int32) (a28 : Nat → Int32) (x31 : Int32) (a32 : Nat → Int32) (x33 : Int32) (z0 : Int32) (z1 : Int32) (σ : HS) (g : Nat) : Option (Int32) :=
  if (z1 : Int32) = z0 then
    k2255 (x33 + 1)
  else
    some 0
noncomputable def g_law_2255_b (sL : Nat) (a0 : Nat → Int32) (k85 : (Nat → Int32) × Int32 × HS × Nat → Option (Int32)) (k2255 : Int32 → Option (Int32)) (a2 : Nat → Int32) (a3 : Nat → Int32) (x4 : Int32) (x5 : Int32) (a28 : Nat → Int32) (x31 : Int32) (a32 : Nat → Int32) (x33 : Int32) (σ : HS) (g : Nat) : Option (Int32) :=
  if (x4 : Int32) ≤ x33 then
    k85 (a2, (x5 + 1), σ, g)
  else
    if (x33 : Int32) < 0 ∨ 5 ≤ (x33 : Int32).toNatClampNeg then none else
    if (x31 : Int32) = 99 then
      g_law_2284 sL a0 k85 k2255 a2 a3 x4 x5 a28 x31 a32 x33 (-9) (a28 (x33 : Int32).toNatClampNeg) σ g
    else
      if (x33 : Int32) < 0 ∨ 5 ≤ (x33 : Int32).toNatClampNeg then none else
      g_law_2284 sL a0 k85 k2255 a2 a3 x4 x5 a28 x31 a32 x33 (a32 (x33 : Int32).toNatClampNeg) (a28 (x33 : Int32).toNatClampNeg) σ g
noncomputable def g_law_2255 (sL : Nat) (a0 : Nat → Int32) (k85 : (Nat → Int32) × Int32 × HS × Nat → Option (Int32)) (a2 : Nat → Int32) (a3 : Nat → Int32) (x4 : Int32) (x5 : Int32) (a28 : Nat → Int32) (x31 : Int32) (a32 : Nat → Int32) (σ : HS) (g : Nat) (p : Int32) : Option (Int32) :=
  wloop (fun k2255 p => g_law_2255_b sL a0 k85 k2255 a2 a3 x4 x5 a28 x31 a32 p σ g) fuelN p
noncomputable def g_law_2239 (sL : Nat) (a0 : Nat → Int32) (k85 : (Nat → Int32) × Int32 × HS × Nat → Option (Int32)) (a2 : Nat → Int32) (a3 : Nat → Int32) (x4 : Int32) (x5 : Int32) (a28 : Nat → Int32) (x31 : Int32) (a32 : Nat → Int32) (z0 : Int32) (z1 : Int32) (σ : HS) (g : Nat) : Option (Int32) :=
  if (z1 : Int32) = z0 then
    bd (f8_many 5 σ) fun r2 =>
    if (r2.1 : Int32) = 0 then
      g_law_2255 sL a0 k85 a2 a3 x4 x5 a28 x31 a32 (r2.2) g 0
    else
      some 0
  else
    some 0
noncomputable def g_law_2217 (sL : Nat) (a0 : Nat → Int32) (k85 : (Nat → Int32) × Int32 × HS × Nat → Option (Int32)) (k1918 : (Nat → Int32) × Int32 × (Nat → Int32) × Int32 × HS × Nat → Option (Int32)) (a2 : Nat → Int32) (a3 : Nat → Int32) (x4 : Int32) (x5 : Int32) (x10 : Int32) (x25 : Int32) (x26 : Int32) (x27 : Int32) (a28 : Nat → Int32) (x29 : Int32) (a30 : Nat → Int32) (x31 : Int32) (a32 : Nat → Int32) (x33 : Int32) (σ : HS) (g : Nat) : Option (Int32) :=
  k1918 (a2, x31, a32, (x33 + (-1)), σ, g)
noncomputable def g_law_2189 (sL : Nat) (a0 : Nat → Int32) (k85 : (Nat → Int32) × Int32 × HS × Nat → Option (Int32)) (k1918 : (Nat → Int32) × Int32 × (Nat → Int32) × Int32 × HS × Nat → Option (Int32)) (k2150 : Int32 × Int32 × HS → Option (Int32)) (a2 : Nat → Int32) (a3 : Nat → Int32) (x4 : Int32) (x5 : Int32) (x10 : Int32) (x25 : Int32) (x26 : Int32) (x27 : Int32) (a28 : Nat → Int32) (x29 : Int32) (a30 : Nat → Int32) (x31 : Int32) (a32 : Nat → Int32) (x33 : Int32) (x37 : Int32) (a38 : Nat → Int32) (x40 : Int32) (z0 : Int32) (σ : HS) (g : Nat) : Option (Int32) :=
  k2150 (z0, (x40 + 1), σ)
noncomputable def g_law_2184 (sL : Nat) (a0 : Nat → Int32) (k85 : (Nat → Int32) × Int32 × HS × Nat → Option (Int32)) (k1918 : (Nat → Int32) × Int32 × (Nat → Int32) × Int32 × HS × Nat → Option (Int32)) (k2150 : Int32 × Int32 × HS → Option (Int32)) (a2 : Nat → Int32) (a3 : Nat → Int32) (x4 : Int32) (x5 : Int32) (x10 : Int32) (x25 : Int32) (x26 : Int32) (x27 : Int32) (a28 : Nat → Int32) (x29 : Int32) (a30 : Nat → Int32) (x31 : Int32) (a32 : Nat → Int32) (x33 : Int32) (x37 : Int32) (a38 : Nat → Int32) (x40 : Int32) (σ : HS) (g : Nat) : Option (Int32) :=
  g_law_2189 sL a0 k85 k1918 k2150 a2 a3 x4 x5 x10 x25 x26 x27 a28 x29 a30 x31 a32 x33 x37 a38 x40 1 σ g
noncomputable def g_law_2188 (sL : Nat) (a0 : Nat → Int32) (k85 : (Nat → Int32) × Int32 × HS × Nat → Option (Int32)) (k1918 : (Nat → Int32) × Int32 × (Nat → Int32) × Int32 × HS × Nat → Option (Int32)) (k2150 : Int32 × Int32 × HS → Option (Int32)) (a2 : Nat → Int32) (a3 : Nat → Int32) (x4 : Int32) (x5 : Int32) (x10 : Int32) (x25 : Int32) (x26 : Int32) (x27 : Int32) (a28 : Nat → Int32) (x29 : Int32) (a30 : Nat → Int32) (x31 : Int32) (a32 : Nat → Int32) (x33 : Int32) (x37 : Int32) (a38 : Nat → Int32) (x40 : Int32) (σ : HS) (g : Nat) : Option (Int32) :=
  g_law_2189 sL a0 k85 k1918 k2150 a2 a3 x4 x5 x10 x25 x26 x27 a28 x29 a30 x31 a32 x33 x37 a38 x40 0 σ g
noncomputable def g_law_2150_b (sL : Nat) (a0 : Nat → Int32) (k85 : (Nat → Int32) × Int32 × HS × Nat → Option (Int32)) (k1918 : (Nat → Int32) × Int32 × (Nat → Int32) × Int32 × HS × Nat → Option (Int32)) (k2150 : Int32 × Int32 × HS → Option (Int32)) (a2 : Nat → Int32) (a3 : Nat → Int32) (x4 : Int32) (x5 : Int32) (x10 : Int32) (x25 : Int32) (x26 : Int32) (x27 : Int32) (a28 : Nat → Int32) (x29 : Int32) (a30 : Nat → Int32) (x31 : Int32) (a32 : Nat → Int32) (x33 : Int32) (x37 : Int32) (a38 : Nat → Int32) (x39 : Int32) (x40 : Int32) (σ : HS) (g : Nat) : Option (Int32) :=
  if (x10 : Int32) ≤ x40 then
    if (x39 : Int32) = 0 then
      g_law_2217 sL a0 k85 k1918 a2 a3 x4 x5 x10 x25 x26 x27 a28 x29 a30 x31 a32 x33 σ g
    else
      if (x31 : Int32) < x37 then
        g_law_2217 sL a0 k85 k1918 a2 a3 x4 x5 x10 x25 x26 x27 a28 x29 a30 x31 a32 x33 σ g
      else
        g_law_2217 sL a0 k85 k1918 a2 a3 x4 x5 x10 x25 x26 x27 a28 x29 a30 x37 a38 x33 σ g
  else
    if (x39 : Int32) = 0 then
      bd (g_who a2 x40) fun r5 =>
      if (r5 : Int32) = x25 then
        bd (f8_says x40 σ) fun r7 =>
        if (r7.1 : Int32) = x26 then
          g_law_2184 sL a0 k85 k1918 k2150 a2 a3 x4 x5 x10 x25 x26 x27 a28 x29 a30 x31 a32 x33 x37 a38 x40 (r7.2) g
        else
          g_law_2188 sL a0 k85 k1918 k2150 a2 a3 x4 x5 x10 x25 x26 x27 a28 x29 a30 x31 a32 x33 x37 a38 x40 (r7.2) g
      else
        g_law_2188 sL a0 k85 k1918 k2150 a2 a3 x4 x5 x10 x25 x26 x27 a28 x29 a30 x31 a32 x33 x37 a38 x40 σ g
    else
      g_law_2184 sL a0 k85 k1918 k2150 a2 a3 x4 x5 x10 x25 x26 x27 a28 x29 a30 x31 a32 x33 x37 a38 x40 σ g
noncomputable def g_law_2150 (sL : Nat) (a0 : Nat → Int32) (k85 : (Nat → Int32) × Int32 × HS × Nat → Option (Int32)) (k1918 : (Nat → Int32) × Int32 × (Nat → Int32) × Int32 × HS × Nat → Option (Int32)) (a2 : Nat → Int32) (a3 : Nat → Int32) (x4 : Int32) (x5 : Int32) (x10 : Int32) (x25 : Int32) (x26 : Int32) (x27 : Int32) (a28 : Nat → Int32) (x29 : Int32) (a30 : Nat → Int32) (x31 : Int32) (a32 : Nat → Int32) (x33 : Int32) (x37 : Int32) (a38 : Nat → Int32) (g : Nat) (p : Int32 × Int32 × HS) : Option (Int32) :=
  wloop (fun k2150 p => g_law_2150_b sL a0 k85 k1918 k2150 a2 a3 x4 x5 x10 x25 x26 x27 a28 x29 a30 x31 a32 x33 x37 a38 p.1 p.2.1 p.2.2 g) fuelN p
noncomputable def g_law_2012 (sL : Nat) (a0 : Nat → Int32) (k85 : (Nat → Int32) × Int32 × HS × Nat → Option (Int32)) (k1918 : (Nat → Int32) × Int32 × (Nat → Int32) × Int32 × HS × Nat → Option (Int32)) (k1945 : (Nat → Int32) × Int32 × Int32 × Int32 × Int32 × (Nat → Int32) × Int32 × HS → Option (Int32)) (k1979 : Int32 × Int32 → Option (Int32)) (a2 : Nat → Int32) (a3 : Nat → Int32) (x4 : Int32) (x5 : Int32) (x10 : Int32) (x25 : Int32) (x26 : Int32) (x27 : Int32) (a28 : Nat → Int32) (x29 : Int32) (a30 : Nat → Int32) (x31 : Int32) (a32 : Nat → Int32) (x33 : Int32) (x34 : Int32) (x35 : Int32) (x36 : Int32) (x37 : Int32) (a38 : Nat → Int32) (x39 : Int32) (x41 : Int32) (z0 : Int32) (z1 : Int32) (σ : HS) (g : Nat) : Option (Int32) :=
  k1979 ((z1 - z0), (x41 + 1))
noncomputable def g_law_1995 (sL : Nat) (a0 : Nat → Int32) (k85 : (Nat → Int32) × Int32 × HS × Nat → Option (Int32)) (k1918 : (Nat → Int32) × Int32 × (Nat → Int32) × Int32 × HS × Nat → Option (Int32)) (k1945 : (Nat → Int32) × Int32 × Int32 × Int32 × Int32 × (Nat → Int32) × Int32 × HS → Option (Int32)) (k1979 : Int32 × Int32 → Option (Int32)) (a2 : Nat → Int32) (a3 : Nat → Int32) (x4 : Int32) (x5 : Int32) (x10 : Int32) (x25 : Int32) (x26 : Int32) (x27 : Int32) (a28 : Nat → Int32) (x29 : Int32) (a30 : Nat → Int32) (x31 : Int32) (a32 : Nat → Int32) (x33 : Int32) (x34 : Int32) (x35 : Int32) (x36 : Int32) (x37 : Int32) (a38 : Nat → Int32) (x39 : Int32) (x40 : Int32) (x41 : Int32) (σ : HS) (g : Nat) : Option (Int32) :=
  if (((x36 >>> (x41 &&& 31)) &&& 1) : Int32) = 0 then
    g_law_2012 sL a0 k85 k1918 k1945 k1979 a2 a3 x4 x5 x10 x25 x26 x27 a28 x29 a30 x31 a32 x33 x34 x35 x36 x37 a38 x39 x41 1 x40 σ g
  else
    g_law_2012 sL a0 k85 k1918 k1945 k1979 a2 a3 x4 x5 x10 x25 x26 x27 a28 x29 a30 x31 a32 x33 x34 x35 x36 x37 a38 x39 x41 0 x40 σ g
noncomputable def g_law_2131 (sL : Nat) (a0 : Nat → Int32) (k85 : (Nat → Int32) × Int32 × HS × Nat → Option (Int32)) (k1918 : (Nat → Int32) × Int32 × (Nat → Int32) × Int32 × HS × Nat → Option (Int32)) (k1945 : (Nat → Int32) × Int32 × Int32 × Int32 × Int32 × (Nat → Int32) × Int32 × HS → Option (Int32)) (k2083 : (Nat → Int32) × Int32 → Option (Int32)) (a2 : Nat → Int32) (a3 : Nat → Int32) (x4 : Int32) (x5 : Int32) (x10 : Int32) (x25 : Int32) (x26 : Int32) (x27 : Int32) (a28 : Nat → Int32) (x29 : Int32) (a30 : Nat → Int32) (x31 : Int32) (a32 : Nat → Int32) (x33 : Int32) (x34 : Int32) (x35 : Int32) (x36 : Int32) (x37 : Int32) (a38 : Nat → Int32) (x39 : Int32) (x41 : Int32) (x42 : Int32) (x43 : Int32) (z0 : Int32) (z1 : Int32) (σ : HS) (g : Nat) : Option (Int32) :=
  if (z1 : Int32) < 0 ∨ 44 ≤ (z1 : Int32).toNatClampNeg then none else
  bd (some (upd a2 (z1 : Int32).toNatClampNeg z0)) fun b2 =>
  k2083 (b2, (x43 + 1))
noncomputable def g_law_2083_b (sL : Nat) (a0 : Nat → Int32) (k85 : (Nat → Int32) × Int32 × HS × Nat → Option (Int32)) (k1918 : (Nat → Int32) × Int32 × (Nat → Int32) × Int32 × HS × Nat → Option (Int32)) (k1945 : (Nat → Int32) × Int32 × Int32 × Int32 × Int32 × (Nat → Int32) × Int32 × HS → Option (Int32)) (k2083 : (Nat → Int32) × Int32 → Option (Int32)) (a2 : Nat → Int32) (a3 : Nat → Int32) (x4 : Int32) (x5 : Int32) (x10 : Int32) (x25 : Int32) (x26 : Int32) (x27 : Int32) (a28 : Nat → Int32) (x29 : Int32) (a30 : Nat → Int32) (x31 : Int32) (a32 : Nat → Int32) (x33 : Int32) (x34 : Int32) (x35 : Int32) (x36 : Int32) (x37 : Int32) (a38 : Nat → Int32) (x39 : Int32) (x41 : Int32) (x42 : Int32) (x43 : Int32) (σ : HS) (g : Nat) : Option (Int32) :=
  if (x4 : Int32) ≤ x43 then
    k1945 (a2, x34, x35, x36, x37, a38, (x39 + 1), σ)
  else
    if ((14 + x43) : Int32) < 0 ∨ 44 ≤ ((14 + x43) : Int32).toNatClampNeg then none else
    if ((a2 ((14 + x43) : Int32).toNatClampNeg) : Int32) = x42 then
      g_law_2131 sL a0 k85 k1918 k1945 k2083 a2 a3 x4 x5 x10 x25 x26 x27 a28 x29 a30 x31 a32 x33 x34 x35 x36 x37 a38 x39 x41 x42 x43 x41 (14 + x43) σ g
    else
      if ((a2 ((14 + x43) : Int32).toNatClampNeg) : Int32) = x41 then
        g_law_2131 sL a0 k85 k1918 k1945 k2083 a2 a3 x4 x5 x10 x25 x26 x27 a28 x29 a30 x31 a32 x33 x34 x35 x36 x37 a38 x39 x41 x42 x43 x42 (14 + x43) σ g
      else
        g_law_2131 sL a0 k85 k1918 k1945 k2083 a2 a3 x4 x5 x10 x25 x26 x27 a28 x29 a30 x31 a32 x33 x34 x35 x36 x37 a38 x39 x41 x42 x43 (a2 ((14 + x43) : Int32).toNatClampNeg) (14 + x43) σ g
noncomputable def g_law_2083 (sL : Nat) (a0 : Nat → Int32) (k85 : (Nat → Int32) × Int32 × HS × Nat → Option (Int32)) (k1918 : (Nat → Int32) × Int32 × (Nat → Int32) × Int32 × HS × Nat → Option (Int32)) (k1945 : (Nat → Int32) × Int32 × Int32 × Int32 × Int32 × (Nat → Int32) × Int32 × HS → Option (Int32)) (a3 : Nat → Int32) (x4 : Int32) (x5 : Int32) (x10 : Int32) (x25 : Int32) (x26 : Int32) (x27 : Int32) (a28 : Nat → Int32) (x29 : Int32) (a30 : Nat → Int32) (x31 : Int32) (a32 : Nat → Int32) (x33 : Int32) (x34 : Int32) (x35 : Int32) (x36 : Int32) (x37 : Int32) (a38 : Nat → Int32) (x39 : Int32) (x41 : Int32) (x42 : Int32) (σ : HS) (g : Nat) (p : (Nat → Int32) × Int32) : Option (Int32) :=
  wloop (fun k2083 p => g_law_2083_b sL a0 k85 k1918 k1945 k2083 p.1 a3 x4 x5 x10 x25 x26 x27 a28 x29 a30 x31 a32 x33 x34 x35 x36 x37 a38 x39 x41 x42 p.2 σ g) fuelN p
noncomputable def g_law_2054 (sL : Nat) (a0 : Nat → Int32) (k85 : (Nat → Int32) × Int32 × HS × Nat → Option (Int32)) (k1918 : (Nat → Int32) × Int32 × (Nat → Int32) × Int32 × HS × Nat → Option (Int32)) (k1945 : (Nat → Int32) × Int32 × Int32 × Int32 × Int32 × (Nat → Int32) × Int32 × HS → Option (Int32)) (a2 : Nat → Int32) (a3 : Nat → Int32) (x4 : Int32) (x5 : Int32) (x10 : Int32) (x25 : Int32) (x26 : Int32) (x27 : Int32) (a28 : Nat → Int32) (x29 : Int32) (a30 : Nat → Int32) (x31 : Int32) (a32 : Nat → Int32) (x33 : Int32) (x34 : Int32) (x35 : Int32) (x36 : Int32) (a38 : Nat → Int32) (x39 : Int32) (x41 : Int32) (z0 : Int32) (z1 : Int32) (σ : HS) (g : Nat) : Option (Int32) :=
  if ((14 + x39) : Int32) < 0 ∨ 44 ≤ ((14 + x39) : Int32).toNatClampNeg then none else
  bd (f8_swap (a2 ((14 + x39) : Int32).toNatClampNeg) x41 σ) fun r2 =>
  if (r2.1 : Int32) = 1 then
    g_law_2083 sL a0 k85 k1918 k1945 a3 x4 x5 x10 x25 x26 x27 a28 x29 a30 x31 a32 x33 x34 x35 x36 (z1 + z0) a38 x39 x41 (a2 ((14 + x39) : Int32).toNatClampNeg) (r2.2) g (a2, 0)
  else
    some 0
noncomputable def g_law_1979_b (sL : Nat) (a0 : Nat → Int32) (k85 : (Nat → Int32) × Int32 × HS × Nat → Option (Int32)) (k1918 : (Nat → Int32) × Int32 × (Nat → Int32) × Int32 × HS × Nat → Option (Int32)) (k1945 : (Nat → Int32) × Int32 × Int32 × Int32 × Int32 × (Nat → Int32) × Int32 × HS → Option (Int32)) (k1979 : Int32 × Int32 → Option (Int32)) (a2 : Nat → Int32) (a3 : Nat → Int32) (x4 : Int32) (x5 : Int32) (x10 : Int32) (x25 : Int32) (x26 : Int32) (x27 : Int32) (a28 : Nat → Int32) (x29 : Int32) (a30 : Nat → Int32) (x31 : Int32) (a32 : Nat → Int32) (x33 : Int32) (x34 : Int32) (x35 : Int32) (x36 : Int32) (x37 : Int32) (a38 : Nat → Int32) (x39 : Int32) (x40 : Int32) (x41 : Int32) (σ : HS) (g : Nat) : Option (Int32) :=
  if (((x36 >>> (x41 &&& 31)) &&& 1) : Int32) = 1 then
    g_law_1995 sL a0 k85 k1918 k1945 k1979 a2 a3 x4 x5 x10 x25 x26 x27 a28 x29 a30 x31 a32 x33 x34 x35 x36 x37 a38 x39 x40 x41 σ g
  else
    if (x40 : Int32) ≤ 0 then
      if (x39 : Int32) < 0 ∨ 5 ≤ (x39 : Int32).toNatClampNeg then none else
      bd (some (upd a38 (x39 : Int32).toNatClampNeg x41)) fun b4 =>
      if (x39 : Int32) < 0 ∨ 5 ≤ (x39 : Int32).toNatClampNeg then none else
      if (x41 : Int32) = (a30 (x39 : Int32).toNatClampNeg) then
        g_law_2054 sL a0 k85 k1918 k1945 a2 a3 x4 x5 x10 x25 x26 x27 a28 x29 a30 x31 a32 x33 x34 x35 (x36 ||| (1 <<< (x41 &&& 31))) b4 x39 x41 0 x37 σ g
      else
        g_law_2054 sL a0 k85 k1918 k1945 a2 a3 x4 x5 x10 x25 x26 x27 a28 x29 a30 x31 a32 x33 x34 x35 (x36 ||| (1 <<< (x41 &&& 31))) b4 x39 x41 1 x37 σ g
    else
      g_law_1995 sL a0 k85 k1918 k1945 k1979 a2 a3 x4 x5 x10 x25 x26 x27 a28 x29 a30 x31 a32 x33 x34 x35 x36 x37 a38 x39 x40 x41 σ g
noncomputable def g_law_1979 (sL : Nat) (a0 : Nat → Int32) (k85 : (Nat → Int32) × Int32 × HS × Nat → Option (Int32)) (k1918 : (Nat → Int32) × Int32 × (Nat → Int32) × Int32 × HS × Nat → Option (Int32)) (k1945 : (Nat → Int32) × Int32 × Int32 × Int32 × Int32 × (Nat → Int32) × Int32 × HS → Option (Int32)) (a2 : Nat → Int32) (a3 : Nat → Int32) (x4 : Int32) (x5 : Int32) (x10 : Int32) (x25 : Int32) (x26 : Int32) (x27 : Int32) (a28 : Nat → Int32) (x29 : Int32) (a30 : Nat → Int32) (x31 : Int32) (a32 : Nat → Int32) (x33 : Int32) (x34 : Int32) (x35 : Int32) (x36 : Int32) (x37 : Int32) (a38 : Nat → Int32) (x39 : Int32) (σ : HS) (g : Nat) (p : Int32 × Int32) : Option (Int32) :=
  wloop (fun k1979 p => g_law_1979_b sL a0 k85 k1918 k1945 k1979 a2 a3 x4 x5 x10 x25 x26 x27 a28 x29 a30 x31 a32 x33 x34 x35 x36 x37 a38 x39 p.1 p.2 σ g) fuelN p
noncomputable def g_law_1945_b (sL : Nat) (a0 : Nat → Int32) (k85 : (Nat → Int32) × Int32 × HS × Nat → Option (Int32)) (k1918 : (Nat → Int32) × Int32 × (Nat → Int32) × Int32 × HS × Nat → Option (Int32)) (k1945 : (Nat → Int32) × Int32 × Int32 × Int32 × Int32 × (Nat → Int32) × Int32 × HS → Option (Int32)) (a2 : Nat → Int32) (a3 : Nat → Int32) (x4 : Int32) (x5 : Int32) (x10 : Int32) (x25 : Int32) (x26 : Int32) (x27 : Int32) (a28 : Nat → Int32) (x29 : Int32) (a30 : Nat → Int32) (x31 : Int32) (a32 : Nat → Int32) (x33 : Int32) (x34 : Int32) (x35 : Int32) (x36 : Int32) (x37 : Int32) (a38 : Nat → Int32) (x39 : Int32) (σ : HS) (g : Nat) : Option (Int32) :=
  if (x4 : Int32) ≤ x39 then
    g_law_2150 sL a0 k85 k1918 a2 a3 x4 x5 x10 x25 x26 x27 a28 x29 a30 x31 a32 x33 x37 a38 g (0, 0, σ)
  else
    if ((x4 - x39) : Int32) = 0 then none else
    if ((x35 / (x4 - x39)) : Int32) = 0 then none else
    if ((x35 / (x4 - x39)) : Int32) = 0 then none else
    g_law_1979 sL a0 k85 k1918 k1945 a2 a3 x4 x5 x10 x25 x26 x27 a28 x29 a30 x31 a32 x33 (x34 - x34 / (x35 / (x4 - x39)) * (x35 / (x4 - x39))) (x35 / (x4 - x39)) x36 x37 a38 x39 σ g ((x34 / (x35 / (x4 - x39))), 0)
noncomputable def g_law_1945 (sL : Nat) (a0 : Nat → Int32) (k85 : (Nat → Int32) × Int32 × HS × Nat → Option (Int32)) (k1918 : (Nat → Int32) × Int32 × (Nat → Int32) × Int32 × HS × Nat → Option (Int32)) (a3 : Nat → Int32) (x4 : Int32) (x5 : Int32) (x10 : Int32) (x25 : Int32) (x26 : Int32) (x27 : Int32) (a28 : Nat → Int32) (x29 : Int32) (a30 : Nat → Int32) (x31 : Int32) (a32 : Nat → Int32) (x33 : Int32) (g : Nat) (p : (Nat → Int32) × Int32 × Int32 × Int32 × Int32 × (Nat → Int32) × Int32 × HS) : Option (Int32) :=
  wloop (fun k1945 p => g_law_1945_b sL a0 k85 k1918 k1945 p.1 a3 x4 x5 x10 x25 x26 x27 a28 x29 a30 x31 a32 x33 p.2.1 p.2.2.1 p.2.2.2.1 p.2.2.2.2.1 p.2.2.2.2.2.1 p.2.2.2.2.2.2.1 p.2.2.2.2.2.2.2 g) fuelN p
noncomputable def g_law_1918_b (sL : Nat) (a0 : Nat → Int32) (k85 : (Nat → Int32) × Int32 × HS × Nat → Option (Int32)) (k1918 : (Nat → Int32) × Int32 × (Nat → Int32) × Int32 × HS × Nat → Option (Int32)) (a2 : Nat → Int32) (a3 : Nat → Int32) (x4 : Int32) (x5 : Int32) (x10 : Int32) (x25 : Int32) (x26 : Int32) (x27 : Int32) (a28 : Nat → Int32) (x29 : Int32) (a30 : Nat → Int32) (x31 : Int32) (a32 : Nat → Int32) (x33 : Int32) (σ : HS) (g : Nat) : Option (Int32) :=
  if (x33 : Int32) < 0 then
    if (x31 : Int32) = 99 then
      g_law_2239 sL a0 k85 a2 a3 x4 x5 a28 x31 a32 (-9) x27 σ g
    else
      g_law_2239 sL a0 k85 a2 a3 x4 x5 a28 x31 a32 x31 x27 σ g
  else
    if 80000 ≤ g then none else
    g_law_1945 sL a0 k85 k1918 a3 x4 x5 x10 x25 x26 x27 a28 x29 a30 x31 a32 x33 (g + 1) (a2, x33, x29, 0, 0, (fun _ => 0), 0, σ)
noncomputable def g_law_1918 (sL : Nat) (a0 : Nat → Int32) (k85 : (Nat → Int32) × Int32 × HS × Nat → Option (Int32)) (a3 : Nat → Int32) (x4 : Int32) (x5 : Int32) (x10 : Int32) (x25 : Int32) (x26 : Int32) (x27 : Int32) (a28 : Nat → Int32) (x29 : Int32) (a30 : Nat → Int32) (p : (Nat → Int32) × Int32 × (Nat → Int32) × Int32 × HS × Nat) : Option (Int32) :=
  wloop (fun k1918 p => g_law_1918_b sL a0 k85 k1918 p.1 a3 x4 x5 x10 x25 x26 x27 a28 x29 a30 p.2.1 p.2.2.1 p.2.2.2.1 p.2.2.2.2.1 p.2.2.2.2.2) fuelN p
noncomputable def g_law_1878_b (sL : Nat) (a0 : Nat → Int32) (k85 : (Nat → Int32) × Int32 × HS × Nat → Option (Int32)) (k1878 : (Nat → Int32) × Int32 → Option (Int32)) (a2 : Nat → Int32) (a3 : Nat → Int32) (x4 : Int32) (x5 : Int32) (x10 : Int32) (x25 : Int32) (x26 : Int32) (x27 : Int32) (a28 : Nat → Int32) (x29 : Int32) (a30 : Nat → Int32) (x31 : Int32) (σ : HS) (g : Nat) : Option (Int32) :=
  if (x4 : Int32) ≤ x31 then
    if 80000 ≤ g then none else
    g_law_1918 sL a0 k85 a3 x4 x5 x10 x25 x26 x27 a28 x29 a30 (a2, 99, (fun _ => 0), (x29 - 1), σ, (g + 1))
  else
    if ((14 + x31) : Int32) < 0 ∨ 44 ≤ ((14 + x31) : Int32).toNatClampNeg then none else
    if (x31 : Int32) < 0 ∨ 5 ≤ (x31 : Int32).toNatClampNeg then none else
    bd (some (upd a30 (x31 : Int32).toNatClampNeg (a2 ((14 + x31) : Int32).toNatClampNeg))) fun b5 =>
    k1878 (b5, (x31 + 1))
noncomputable def g_law_1878 (sL : Nat) (a0 : Nat → Int32) (k85 : (Nat → Int32) × Int32 × HS × Nat → Option (Int32)) (a2 : Nat → Int32) (a3 : Nat → Int32) (x4 : Int32) (x5 : Int32) (x10 : Int32) (x25 : Int32) (x26 : Int32) (x27 : Int32) (a28 : Nat → Int32) (x29 : Int32) (σ : HS) (g : Nat) (p : (Nat → Int32) × Int32) : Option (Int32) :=
  wloop (fun k1878 p => g_law_1878_b sL a0 k85 k1878 a2 a3 x4 x5 x10 x25 x26 x27 a28 x29 p.1 p.2 σ g) fuelN p
noncomputable def g_law_1850_b (sL : Nat) (a0 : Nat → Int32) (k85 : (Nat → Int32) × Int32 × HS × Nat → Option (Int32)) (k1850 : Int32 × Int32 → Option (Int32)) (a2 : Nat → Int32) (a3 : Nat → Int32) (x4 : Int32) (x5 : Int32) (x10 : Int32) (x25 : Int32) (x26 : Int32) (x27 : Int32) (a28 : Nat → Int32) (x29 : Int32) (x30 : Int32) (σ : HS) (g : Nat) : Option (Int32) :=
  if (x4 : Int32) < x30 then
    if 80000 ≤ g then none else
    g_law_1878 sL a0 k85 a2 a3 x4 x5 x10 x25 x26 x27 a28 x29 σ (g + 1) ((fun _ => 0), 0)
  else
    k1850 ((x29 * x30), (x30 + 1))
noncomputable def g_law_1850 (sL : Nat) (a0 : Nat → Int32) (k85 : (Nat → Int32) × Int32 × HS × Nat → Option (Int32)) (a2 : Nat → Int32) (a3 : Nat → Int32) (x4 : Int32) (x5 : Int32) (x10 : Int32) (x25 : Int32) (x26 : Int32) (x27 : Int32) (a28 : Nat → Int32) (σ : HS) (g : Nat) (p : Int32 × Int32) : Option (Int32) :=
  wloop (fun k1850 p => g_law_1850_b sL a0 k85 k1850 a2 a3 x4 x5 x10 x25 x26 x27 a28 p.1 p.2 σ g) fuelN p
noncomputable def g_law_1773_b (sL : Nat) (a0 : Nat → Int32) (k85 : (Nat → Int32) × Int32 × HS × Nat → Option (Int32)) (k1773 : (Nat → Int32) × Int32 × HS → Option (Int32)) (a2 : Nat → Int32) (a3 : Nat → Int32) (x4 : Int32) (x5 : Int32) (x10 : Int32) (x25 : Int32) (x26 : Int32) (x27 : Int32) (a28 : Nat → Int32) (x29 : Int32) (σ : HS) (g : Nat) : Option (Int32) :=
  if (x4 : Int32) ≤ x29 then
    bd (f8_motion x25 x26 x4 σ) fun r2 =>
    if (r2.1 : Int32) = (-1) then
      if ((9 + x25) : Int32) < 0 ∨ 44 ≤ ((9 + x25) : Int32).toNatClampNeg then none else
      bd (f8_motion x25 (a2 ((9 + x25) : Int32).toNatClampNeg) 0 (r2.2)) fun r5 =>
      if (r5.1 : Int32) = (-1) then
        bd (f8_many 5 (r5.2)) fun r7 =>
        if (r7.1 : Int32) = 4 then
          g_law_1850 sL a0 k85 a2 a3 x4 x5 x10 x25 x26 x27 a28 (r7.2) g (1, 2)
        else
          some 0
      else
        some 0
    else
      some 0
  else
    bd (f8_motion x25 x26 x29 σ) fun r9 =>
    if (x29 : Int32) < 0 ∨ 5 ≤ (x29 : Int32).toNatClampNeg then none else
    bd (some (upd a28 (x29 : Int32).toNatClampNeg (r9.1))) fun b11 =>
    k1773 (b11, (x29 + 1), r9.2)
noncomputable def g_law_1773 (sL : Nat) (a0 : Nat → Int32) (k85 : (Nat → Int32) × Int32 × HS × Nat → Option (Int32)) (a2 : Nat → Int32) (a3 : Nat → Int32) (x4 : Int32) (x5 : Int32) (x10 : Int32) (x25 : Int32) (x26 : Int32) (x27 : Int32) (g : Nat) (p : (Nat → Int32) × Int32 × HS) : Option (Int32) :=
  wloop (fun k1773 p => g_law_1773_b sL a0 k85 k1773 a2 a3 x4 x5 x10 x25 x26 x27 p.1 p.2.1 p.2.2 g) fuelN p
noncomputable def g_law_1650 (sL : Nat) (a0 : Nat → Int32) (k85 : (Nat → Int32) × Int32 × HS × Nat → Option (Int32)) (k1512 : Int32 × Int32 × Int32 × Nat → Option (Int32)) (a2 : Nat → Int32) (a3 : Nat → Int32) (x4 : Int32) (x5 : Int32) (x10 : Int32) (a21 : Nat → Int32) (a22 : Nat → Int32) (x23 : Int32) (x25 : Int32) (z0 : Int32) (σ : HS) (g : Nat) : Option (Int32) :=
  k1512 (x23, z0, (x25 + (-1)), g)
noncomputable def g_law_1635 (sL : Nat) (a0 : Nat → Int32) (k85 : (Nat → Int32) × Int32 × HS × Nat → Option (Int32)) (k1512 : Int32 × Int32 × Int32 × Nat → Option (Int32)) (a2 : Nat → Int32) (a3 : Nat → Int32) (x4 : Int32) (x5 : Int32) (x10 : Int32) (a21 : Nat → Int32) (a22 : Nat → Int32) (x24 : Int32) (x25 : Int32) (x26 : Int32) (z0 : Int32) (z1 : Int32) (σ : HS) (g : Nat) : Option (Int32) :=
  if (x26 : Int32) = 0 then
    g_law_1650 sL a0 k85 k1512 a2 a3 x4 x5 x10 a21 a22 (z1 + z0) x25 x24 σ g
  else
    g_law_1650 sL a0 k85 k1512 a2 a3 x4 x5 x10 a21 a22 (z1 + z0) x25 x25 σ g
noncomputable def g_law_1615 (sL : Nat) (a0 : Nat → Int32) (k85 : (Nat → Int32) × Int32 × HS × Nat → Option (Int32)) (k1512 : Int32 × Int32 × Int32 × Nat → Option (Int32)) (k1523 : Int32 × Int32 × Nat → Option (Int32)) (a2 : Nat → Int32) (a3 : Nat → Int32) (x4 : Int32) (x5 : Int32) (x10 : Int32) (a21 : Nat → Int32) (a22 : Nat → Int32) (x23 : Int32) (x24 : Int32) (x25 : Int32) (x27 : Int32) (z0 : Int32) (σ : HS) (g : Nat) : Option (Int32) :=
  k1523 (z0, (x27 + 1), g)
noncomputable def g_law_1614 (sL : Nat) (a0 : Nat → Int32) (k85 : (Nat → Int32) × Int32 × HS × Nat → Option (Int32)) (k1512 : Int32 × Int32 × Int32 × Nat → Option (Int32)) (k1523 : Int32 × Int32 × Nat → Option (Int32)) (a2 : Nat → Int32) (a3 : Nat → Int32) (x4 : Int32) (x5 : Int32) (x10 : Int32) (a21 : Nat → Int32) (a22 : Nat → Int32) (x23 : Int32) (x24 : Int32) (x25 : Int32) (x27 : Int32) (σ : HS) (g : Nat) : Option (Int32) :=
  g_law_1615 sL a0 k85 k1512 k1523 a2 a3 x4 x5 x10 a21 a22 x23 x24 x25 x27 0 σ g
noncomputable def g_law_1597 (sL : Nat) (a0 : Nat → Int32) (k85 : (Nat → Int32) × Int32 × HS × Nat → Option (Int32)) (k1512 : Int32 × Int32 × Int32 × Nat → Option (Int32)) (k1523 : Int32 × Int32 × Nat → Option (Int32)) (a2 : Nat → Int32) (a3 : Nat → Int32) (x4 : Int32) (x5 : Int32) (x10 : Int32) (a21 : Nat → Int32) (a22 : Nat → Int32) (x23 : Int32) (x24 : Int32) (x25 : Int32) (x27 : Int32) (z0 : Int32) (z1 : Int32) (az2 : Nat → Int32) (σ : HS) (g : Nat) : Option (Int32) :=
  bd (g_day a2 a3 az2 z1 z0) fun r1 =>
  if 80000 ≤ g then none else
  if (x27 : Int32) < 0 ∨ 4 ≤ (x27 : Int32).toNatClampNeg then none else
  if ((r1 (2 : Int32).toNatClampNeg) : Int32) = (a21 (x27 : Int32).toNatClampNeg) then
    g_law_1615 sL a0 k85 k1512 k1523 a2 a3 x4 x5 x10 a21 a22 x23 x24 x25 x27 1 σ (g + 1)
  else
    g_law_1614 sL a0 k85 k1512 k1523 a2 a3 x4 x5 x10 a21 a22 x23 x24 x25 x27 σ (g + 1)
noncomputable def g_law_1538_b (sL : Nat) (a0 : Nat → Int32) (k85 : (Nat → Int32) × Int32 × HS × Nat → Option (Int32)) (k1512 : Int32 × Int32 × Int32 × Nat → Option (Int32)) (k1523 : Int32 × Int32 × Nat → Option (Int32)) (k1538 : (Nat → Int32) × Int32 → Option (Int32)) (a2 : Nat → Int32) (a3 : Nat → Int32) (x4 : Int32) (x5 : Int32) (x10 : Int32) (a21 : Nat → Int32) (a22 : Nat → Int32) (x23 : Int32) (x24 : Int32) (x25 : Int32) (x26 : Int32) (x27 : Int32) (a28 : Nat → Int32) (x29 : Int32) (σ : HS) (g : Nat) : Option (Int32) :=
  if (x10 : Int32) ≤ x29 then
    if (x26 : Int32) = 0 then
      g_law_1614 sL a0 k85 k1512 k1523 a2 a3 x4 x5 x10 a21 a22 x23 x24 x25 x27 σ g
    else
      if ((x25 / 10) : Int32) ≤ x27 then
        g_law_1597 sL a0 k85 k1512 k1523 a2 a3 x4 x5 x10 a21 a22 x23 x24 x25 x27 (x25 - x25 / 10 * 10) x10 a28 σ g
      else
        g_law_1597 sL a0 k85 k1512 k1523 a2 a3 x4 x5 x10 a21 a22 x23 x24 x25 x27 0 x10 a28 σ g
  else
    if (((6 * x27) + x29) : Int32) < 0 ∨ 24 ≤ (((6 * x27) + x29) : Int32).toNatClampNeg then none else
    if (x29 : Int32) < 0 ∨ 6 ≤ (x29 : Int32).toNatClampNeg then none else
    bd (some (upd a28 (x29 : Int32).toNatClampNeg (a22 (((6 * x27) + x29) : Int32).toNatClampNeg))) fun b6 =>
    k1538 (b6, (x29 + 1))
noncomputable def g_law_1538 (sL : Nat) (a0 : Nat → Int32) (k85 : (Nat → Int32) × Int32 × HS × Nat → Option (Int32)) (k1512 : Int32 × Int32 × Int32 × Nat → Option (Int32)) (k1523 : Int32 × Int32 × Nat → Option (Int32)) (a2 : Nat → Int32) (a3 : Nat → Int32) (x4 : Int32) (x5 : Int32) (x10 : Int32) (a21 : Nat → Int32) (a22 : Nat → Int32) (x23 : Int32) (x24 : Int32) (x25 : Int32) (x26 : Int32) (x27 : Int32) (σ : HS) (g : Nat) (p : (Nat → Int32) × Int32) : Option (Int32) :=
  wloop (fun k1538 p => g_law_1538_b sL a0 k85 k1512 k1523 k1538 a2 a3 x4 x5 x10 a21 a22 x23 x24 x25 x26 x27 p.1 p.2 σ g) fuelN p
noncomputable def g_law_1523_b (sL : Nat) (a0 : Nat → Int32) (k85 : (Nat → Int32) × Int32 × HS × Nat → Option (Int32)) (k1512 : Int32 × Int32 × Int32 × Nat → Option (Int32)) (k1523 : Int32 × Int32 × Nat → Option (Int32)) (a2 : Nat → Int32) (a3 : Nat → Int32) (x4 : Int32) (x5 : Int32) (x10 : Int32) (a21 : Nat → Int32) (a22 : Nat → Int32) (x23 : Int32) (x24 : Int32) (x25 : Int32) (x26 : Int32) (x27 : Int32) (σ : HS) (g : Nat) : Option (Int32) :=
  if (4 : Int32) ≤ x27 then
    if (x26 : Int32) = 0 then
      g_law_1635 sL a0 k85 k1512 a2 a3 x4 x5 x10 a21 a22 x24 x25 x26 0 x23 σ g
    else
      g_law_1635 sL a0 k85 k1512 a2 a3 x4 x5 x10 a21 a22 x24 x25 x26 1 x23 σ g
  else
    if 80000 ≤ g then none else
    g_law_1538 sL a0 k85 k1512 k1523 a2 a3 x4 x5 x10 a21 a22 x23 x24 x25 x26 x27 σ (g + 1) ((fun _ => 0), 0)
noncomputable def g_law_1523 (sL : Nat) (a0 : Nat → Int32) (k85 : (Nat → Int32) × Int32 × HS × Nat → Option (Int32)) (k1512 : Int32 × Int32 × Int32 × Nat → Option (Int32)) (a2 : Nat → Int32) (a3 : Nat → Int32) (x4 : Int32) (x5 : Int32) (x10 : Int32) (a21 : Nat → Int32) (a22 : Nat → Int32) (x23 : Int32) (x24 : Int32) (x25 : Int32) (σ : HS) (p : Int32 × Int32 × Nat) : Option (Int32) :=
  wloop (fun k1523 p => g_law_1523_b sL a0 k85 k1512 k1523 a2 a3 x4 x5 x10 a21 a22 x23 x24 x25 p.1 p.2.1 σ p.2.2) fuelN p
noncomputable def g_law_1512_b (sL : Nat) (a0 : Nat → Int32) (k85 : (Nat → Int32) × Int32 × HS × Nat → Option (Int32)) (k1512 : Int32 × Int32 × Int32 × Nat → Option (Int32)) (a2 : Nat → Int32) (a3 : Nat → Int32) (x4 : Int32) (x5 : Int32) (x10 : Int32) (a21 : Nat → Int32) (a22 : Nat → Int32) (x23 : Int32) (x24 : Int32) (x25 : Int32) (σ : HS) (g : Nat) : Option (Int32) :=
  if (x25 : Int32) < 0 then
    bd (f8_guess 0 σ) fun r2 =>
    if (r2.1 : Int32) = x23 then
      bd (f8_guess 1 (r2.2)) fun r4 =>
      if (r4.1 : Int32) = x24 then
        if (x23 : Int32) < 1 then
          some 0
        else
          bd (f8_guess 2 (r4.2)) fun r7 =>
          if (r7.1 : Int32) = (-2) then
            bd (f8_many 5 (r7.2)) fun r9 =>
            if (r9.1 : Int32) = 4 then
              bd (f8_back 5 (r9.2)) fun r11 =>
              if (r11.1 : Int32) = (-2) then
                bd (g_cell sL a0 (24 + x5)) fun r13 =>
                bd (g_low r13 x4) fun r14 =>
                bd (g_cell sL a0 (24 + x5)) fun r15 =>
                if ((9 + r14) : Int32) < 0 ∨ 44 ≤ ((9 + r14) : Int32).toNatClampNeg then none else
                bd (g_low (r15 >>> (3 &&& 31)) (a2 ((9 + r14) : Int32).toNatClampNeg)) fun r17 =>
                bd (f8_motion r14 r17 (-1) (r11.2)) fun r18 =>
                if 80000 ≤ g then none else
                g_law_1773 sL a0 k85 a2 a3 x4 x5 x10 r14 r17 (r18.1) (g + 1) ((fun _ => 0), 0, r18.2)
              else
                some 0
            else
              some 0
          else
            some 0
      else
        some 0
    else
      some 0
  else
    g_law_1523 sL a0 k85 k1512 a2 a3 x4 x5 x10 a21 a22 x23 x24 x25 σ (1, 0, g)
noncomputable def g_law_1512 (sL : Nat) (a0 : Nat → Int32) (k85 : (Nat → Int32) × Int32 × HS × Nat → Option (Int32)) (a2 : Nat → Int32) (a3 : Nat → Int32) (x4 : Int32) (x5 : Int32) (x10 : Int32) (a21 : Nat → Int32) (a22 : Nat → Int32) (σ : HS) (p : Int32 × Int32 × Int32 × Nat) : Option (Int32) :=
  wloop (fun k1512 p => g_law_1512_b sL a0 k85 k1512 a2 a3 x4 x5 x10 a21 a22 p.1 p.2.1 p.2.2.1 σ p.2.2.2) fuelN p
noncomputable def g_law_1429 (sL : Nat) (a0 : Nat → Int32) (k85 : (Nat → Int32) × Int32 × HS × Nat → Option (Int32)) (k1291 : (Nat → Int32) × (Nat → Int32) × Int32 × HS × Nat → Option (Int32)) (a2 : Nat → Int32) (a3 : Nat → Int32) (x4 : Int32) (x5 : Int32) (x10 : Int32) (x19 : Int32) (x20 : Int32) (a21 : Nat → Int32) (a22 : Nat → Int32) (x23 : Int32) (z0 : Int32) (z1 : Int32) (az2 : Nat → Int32) (z5 : Int32) (σ : HS) (g : Nat) : Option (Int32) :=
  bd (g_day a2 a3 az2 z1 z0) fun r1 =>
  if 80000 ≤ g then none else
  if (z5 : Int32) < 0 ∨ 4 ≤ (z5 : Int32).toNatClampNeg then none else
  bd (some (upd a21 (z5 : Int32).toNatClampNeg (r1 (2 : Int32).toNatClampNeg))) fun b4 =>
  if (x23 : Int32) < 0 ∨ 4 ≤ (x23 : Int32).toNatClampNeg then none else
  bd (f8_day 1 1 0 (b4 (x23 : Int32).toNatClampNeg) σ) fun r6 =>
  if (r6.1 : Int32) = x23 then
    bd (f8_day 1 1 0 100 (r6.2)) fun r8 =>
    if (r8.1 : Int32) = (-2) then
      bd (f8_day 1 0 0 0 (r8.2)) fun r10 =>
      if (r10.1 : Int32) = (-12) then
        bd (f8_day 1 1 6 0 (r10.2)) fun r12 =>
        if (r12.1 : Int32) = (-13) then
          k1291 (b4, a22, (x23 + 1), r12.2, (g + 1))
        else
          some 0
      else
        some 0
    else
      some 0
  else
    some 0
noncomputable def g_law_1365 (sL : Nat) (a0 : Nat → Int32) (k85 : (Nat → Int32) × Int32 × HS × Nat → Option (Int32)) (k1291 : (Nat → Int32) × (Nat → Int32) × Int32 × HS × Nat → Option (Int32)) (k1306 : (Nat → Int32) × (Nat → Int32) × Int32 × HS → Option (Int32)) (a2 : Nat → Int32) (a3 : Nat → Int32) (x4 : Int32) (x5 : Int32) (x10 : Int32) (x19 : Int32) (x20 : Int32) (a21 : Nat → Int32) (a22 : Nat → Int32) (x23 : Int32) (a24 : Nat → Int32) (x25 : Int32) (z0 : Int32) (z1 : Int32) (σ : HS) (g : Nat) : Option (Int32) :=
  if (z1 : Int32) < 0 ∨ 6 ≤ (z1 : Int32).toNatClampNeg then none else
  bd (some (upd a24 (z1 : Int32).toNatClampNeg z0)) fun b2 =>
  if (x25 : Int32) < 0 ∨ 6 ≤ (x25 : Int32).toNatClampNeg then none else
  if (((6 * x23) + x25) : Int32) < 0 ∨ 24 ≤ (((6 * x23) + x25) : Int32).toNatClampNeg then none else
  bd (some (upd a22 (((6 * x23) + x25) : Int32).toNatClampNeg (b2 (x25 : Int32).toNatClampNeg))) fun b5 =>
  if (x25 : Int32) < 0 ∨ 6 ≤ (x25 : Int32).toNatClampNeg then none else
  bd (f8_put 1 x25 (b2 (x25 : Int32).toNatClampNeg) σ) fun r7 =>
  if (r7.1 : Int32) = 1 then
    k1306 (b5, b2, (x25 + 1), r7.2)
  else
    some 0
noncomputable def g_law_1306_b (sL : Nat) (a0 : Nat → Int32) (k85 : (Nat → Int32) × Int32 × HS × Nat → Option (Int32)) (k1291 : (Nat → Int32) × (Nat → Int32) × Int32 × HS × Nat → Option (Int32)) (k1306 : (Nat → Int32) × (Nat → Int32) × Int32 × HS → Option (Int32)) (a2 : Nat → Int32) (a3 : Nat → Int32) (x4 : Int32) (x5 : Int32) (x10 : Int32) (x19 : Int32) (x20 : Int32) (a21 : Nat → Int32) (a22 : Nat → Int32) (x23 : Int32) (a24 : Nat → Int32) (x25 : Int32) (σ : HS) (g : Nat) : Option (Int32) :=
  if (x10 : Int32) ≤ x25 then
    if (x19 : Int32) ≤ x23 then
      g_law_1429 sL a0 k85 k1291 a2 a3 x4 x5 x10 x19 x20 a21 a22 x23 x20 x10 a24 x23 σ g
    else
      g_law_1429 sL a0 k85 k1291 a2 a3 x4 x5 x10 x19 x20 a21 a22 x23 0 x10 a24 x23 σ g
  else
    bd (g_cell sL a0 ((16 + (4 * x5)) + x23)) fun r3 =>
    bd (g_low (r3 >>> ((3 * x25) &&& 31)) 4) fun r4 =>
    bd (g_who a2 x25) fun r5 =>
    if ((9 + r5) : Int32) < 0 ∨ 44 ≤ ((9 + r5) : Int32).toNatClampNeg then none else
    if (r4 : Int32) < (a2 ((9 + r5) : Int32).toNatClampNeg) then
      g_law_1365 sL a0 k85 k1291 k1306 a2 a3 x4 x5 x10 x19 x20 a21 a22 x23 a24 x25 r4 x25 σ g
    else
      g_law_1365 sL a0 k85 k1291 k1306 a2 a3 x4 x5 x10 x19 x20 a21 a22 x23 a24 x25 (-9) x25 σ g
noncomputable def g_law_1306 (sL : Nat) (a0 : Nat → Int32) (k85 : (Nat → Int32) × Int32 × HS × Nat → Option (Int32)) (k1291 : (Nat → Int32) × (Nat → Int32) × Int32 × HS × Nat → Option (Int32)) (a2 : Nat → Int32) (a3 : Nat → Int32) (x4 : Int32) (x5 : Int32) (x10 : Int32) (x19 : Int32) (x20 : Int32) (a21 : Nat → Int32) (x23 : Int32) (g : Nat) (p : (Nat → Int32) × (Nat → Int32) × Int32 × HS) : Option (Int32) :=
  wloop (fun k1306 p => g_law_1306_b sL a0 k85 k1291 k1306 a2 a3 x4 x5 x10 x19 x20 a21 p.1 x23 p.2.1 p.2.2.1 p.2.2.2 g) fuelN p
noncomputable def g_law_1291_b (sL : Nat) (a0 : Nat → Int32) (k85 : (Nat → Int32) × Int32 × HS × Nat → Option (Int32)) (k1291 : (Nat → Int32) × (Nat → Int32) × Int32 × HS × Nat → Option (Int32)) (a2 : Nat → Int32) (a3 : Nat → Int32) (x4 : Int32) (x5 : Int32) (x10 : Int32) (x19 : Int32) (x20 : Int32) (a21 : Nat → Int32) (a22 : Nat → Int32) (x23 : Int32) (σ : HS) (g : Nat) : Option (Int32) :=
  if (4 : Int32) ≤ x23 then
    g_law_1512 sL a0 k85 a2 a3 x4 x5 x10 a21 a22 σ (0, (-9), 49, g)
  else
    if 80000 ≤ g then none else
    g_law_1306 sL a0 k85 k1291 a2 a3 x4 x5 x10 x19 x20 a21 x23 (g + 1) (a22, (fun _ => 0), 0, σ)
noncomputable def g_law_1291 (sL : Nat) (a0 : Nat → Int32) (k85 : (Nat → Int32) × Int32 × HS × Nat → Option (Int32)) (a2 : Nat → Int32) (a3 : Nat → Int32) (x4 : Int32) (x5 : Int32) (x10 : Int32) (x19 : Int32) (x20 : Int32) (p : (Nat → Int32) × (Nat → Int32) × Int32 × HS × Nat) : Option (Int32) :=
  wloop (fun k1291 p => g_law_1291_b sL a0 k85 k1291 a2 a3 x4 x5 x10 x19 x20 p.1 p.2.1 p.2.2.1 p.2.2.2.1 p.2.2.2.2) fuelN p
noncomputable def g_law_1187 (sL : Nat) (a0 : Nat → Int32) (k85 : (Nat → Int32) × Int32 × HS × Nat → Option (Int32)) (k1143 : Int32 × Int32 × Int32 × HS → Option (Int32)) (a2 : Nat → Int32) (a3 : Nat → Int32) (x4 : Int32) (x5 : Int32) (x9 : Int32) (x10 : Int32) (a13 : Nat → Int32) (x17 : Int32) (x19 : Int32) (z0 : Int32) (σ : HS) (g : Nat) : Option (Int32) :=
  k1143 (x17, z0, (x19 + 1), σ)
noncomputable def g_law_1171 (sL : Nat) (a0 : Nat → Int32) (k85 : (Nat → Int32) × Int32 × HS × Nat → Option (Int32)) (k1143 : Int32 × Int32 × Int32 × HS → Option (Int32)) (a2 : Nat → Int32) (a3 : Nat → Int32) (x4 : Int32) (x5 : Int32) (x9 : Int32) (x10 : Int32) (a13 : Nat → Int32) (x18 : Int32) (x19 : Int32) (x20 : Int32) (z0 : Int32) (σ : HS) (g : Nat) : Option (Int32) :=
  if (x20 : Int32) ≤ x18 then
    g_law_1187 sL a0 k85 k1143 a2 a3 x4 x5 x9 x10 a13 z0 x19 x18 σ g
  else
    g_law_1187 sL a0 k85 k1143 a2 a3 x4 x5 x9 x10 a13 z0 x19 x20 σ g
noncomputable def g_law_1143_b (sL : Nat) (a0 : Nat → Int32) (k85 : (Nat → Int32) × Int32 × HS × Nat → Option (Int32)) (k1143 : Int32 × Int32 × Int32 × HS → Option (Int32)) (a2 : Nat → Int32) (a3 : Nat → Int32) (x4 : Int32) (x5 : Int32) (x9 : Int32) (x10 : Int32) (a13 : Nat → Int32) (x17 : Int32) (x18 : Int32) (x19 : Int32) (σ : HS) (g : Nat) : Option (Int32) :=
  if (4 : Int32) ≤ x19 then
    bd (f8_byLaw x9 σ) fun r2 =>
    bd (g_all a13 x4) fun r3 =>
    if (r2.1 : Int32) = r3 then
      bd (f8_byLaw (-1) (r2.2)) fun r5 =>
      if (r5.1 : Int32) = x17 then
        bd (f8_byLaw (-2) (r5.2)) fun r7 =>
        if (r7.1 : Int32) = (-2) then
          bd (f8_many 3 (r7.2)) fun r9 =>
          if (r9.1 : Int32) = x9 then
            bd (g_cell sL a0 (14 + x5)) fun r11 =>
            bd (g_low r11 4) fun r12 =>
            bd (g_cell sL a0 (14 + x5)) fun r13 =>
            bd (g_low (r13 >>> (2 &&& 31)) 10) fun r14 =>
            if 80000 ≤ g then none else
            if 80000 ≤ (g + 1) then none else
            g_law_1291 sL a0 k85 a2 a3 x4 x5 x10 r12 r14 ((fun _ => 0), (fun _ => 0), 0, r9.2, ((g + 1) + 1))
          else
            some 0
        else
          some 0
      else
        some 0
    else
      some 0
  else
    bd (f8_byLaw x19 σ) fun r17 =>
    if (r17.1 : Int32) ≤ x18 then
      g_law_1171 sL a0 k85 k1143 a2 a3 x4 x5 x9 x10 a13 x18 x19 (r17.1) x17 (r17.2) g
    else
      g_law_1171 sL a0 k85 k1143 a2 a3 x4 x5 x9 x10 a13 x18 x19 (r17.1) x19 (r17.2) g
noncomputable def g_law_1143 (sL : Nat) (a0 : Nat → Int32) (k85 : (Nat → Int32) × Int32 × HS × Nat → Option (Int32)) (a2 : Nat → Int32) (a3 : Nat → Int32) (x4 : Int32) (x5 : Int32) (x9 : Int32) (x10 : Int32) (a13 : Nat → Int32) (g : Nat) (p : Int32 × Int32 × Int32 × HS) : Option (Int32) :=
  wloop (fun k1143 p => g_law_1143_b sL a0 k85 k1143 a2 a3 x4 x5 x9 x10 a13 p.1 p.2.1 p.2.2.1 p.2.2.2 g) fuelN p
noncomputable def g_law_1082 (sL : Nat) (a0 : Nat → Int32) (k85 : (Nat → Int32) × Int32 × HS × Nat → Option (Int32)) (k562 : Int32 × HS × Nat → Option (Int32)) (k961 : Int32 × HS × Nat → Option (Int32)) (k979 : Int32 × Int32 × Nat → Option (Int32)) (a2 : Nat → Int32) (a3 : Nat → Int32) (x4 : Int32) (x5 : Int32) (x9 : Int32) (x10 : Int32) (a11 : Nat → Int32) (a12 : Nat → Int32) (a13 : Nat → Int32) (x17 : Int32) (x28 : Int32) (x29 : Int32) (x30 : Int32) (σ : HS) (g : Nat) : Option (Int32) :=
  k979 (x29, (x30 + 1), g)
noncomputable def g_law_1073 (sL : Nat) (a0 : Nat → Int32) (k85 : (Nat → Int32) × Int32 × HS × Nat → Option (Int32)) (k562 : Int32 × HS × Nat → Option (Int32)) (k961 : Int32 × HS × Nat → Option (Int32)) (k979 : Int32 × Int32 × Nat → Option (Int32)) (k1010 : Int32 × Int32 × Nat → Option (Int32)) (a2 : Nat → Int32) (a3 : Nat → Int32) (x4 : Int32) (x5 : Int32) (x9 : Int32) (x10 : Int32) (a11 : Nat → Int32) (a12 : Nat → Int32) (a13 : Nat → Int32) (x17 : Int32) (x28 : Int32) (x30 : Int32) (x31 : Int32) (x32 : Int32) (z0 : Int32) (z1 : Int32) (σ : HS) (g : Nat) : Option (Int32) :=
  k1010 ((z1 ||| z0), (x32 + 1), g)
noncomputable def g_law_1052 (sL : Nat) (a0 : Nat → Int32) (k85 : (Nat → Int32) × Int32 × HS × Nat → Option (Int32)) (k562 : Int32 × HS × Nat → Option (Int32)) (k961 : Int32 × HS × Nat → Option (Int32)) (k979 : Int32 × Int32 × Nat → Option (Int32)) (k1010 : Int32 × Int32 × Nat → Option (Int32)) (a2 : Nat → Int32) (a3 : Nat → Int32) (x4 : Int32) (x5 : Int32) (x9 : Int32) (x10 : Int32) (a11 : Nat → Int32) (a12 : Nat → Int32) (a13 : Nat → Int32) (x17 : Int32) (x28 : Int32) (x30 : Int32) (x31 : Int32) (x32 : Int32) (z0 : Int32) (z1 : Int32) (z7 : Int32) (σ : HS) (g : Nat) : Option (Int32) :=
  bd (g_but a2 a3 a11 a12 z1 z0) fun r1 =>
  if 80000 ≤ g then none else
  bd (g_says a2 r1 x17 x28) fun r3 =>
  if (r3 : Int32) = 0 then
    g_law_1073 sL a0 k85 k562 k961 k979 k1010 a2 a3 x4 x5 x9 x10 a11 a12 a13 x17 x28 x30 x31 x32 (1 <<< (x30 &&& 31)) z7 σ (g + 1)
  else
    g_law_1073 sL a0 k85 k562 k961 k979 k1010 a2 a3 x4 x5 x9 x10 a11 a12 a13 x17 x28 x30 x31 x32 0 z7 σ (g + 1)
noncomputable def g_law_1010_b (sL : Nat) (a0 : Nat → Int32) (k85 : (Nat → Int32) × Int32 × HS × Nat → Option (Int32)) (k562 : Int32 × HS × Nat → Option (Int32)) (k961 : Int32 × HS × Nat → Option (Int32)) (k979 : Int32 × Int32 × Nat → Option (Int32)) (k1010 : Int32 × Int32 × Nat → Option (Int32)) (a2 : Nat → Int32) (a3 : Nat → Int32) (x4 : Int32) (x5 : Int32) (x9 : Int32) (x10 : Int32) (a11 : Nat → Int32) (a12 : Nat → Int32) (a13 : Nat → Int32) (x17 : Int32) (x28 : Int32) (x29 : Int32) (x30 : Int32) (x31 : Int32) (x32 : Int32) (σ : HS) (g : Nat) : Option (Int32) :=
  if ((9 + x30) : Int32) < 0 ∨ 44 ≤ ((9 + x30) : Int32).toNatClampNeg then none else
  if ((a2 ((9 + x30) : Int32).toNatClampNeg) : Int32) ≤ x32 then
    g_law_1082 sL a0 k85 k562 k961 k979 a2 a3 x4 x5 x9 x10 a11 a12 a13 x17 x28 x29 x30 σ g
  else
    if (x30 : Int32) = x17 then
      g_law_1082 sL a0 k85 k562 k961 k979 a2 a3 x4 x5 x9 x10 a11 a12 a13 x17 x28 x29 x30 σ g
    else
      if 0 ≤ (x32 : Int32) then
        g_law_1052 sL a0 k85 k562 k961 k979 k1010 a2 a3 x4 x5 x9 x10 a11 a12 a13 x17 x28 x30 x31 x32 x32 x31 x29 σ g
      else
        g_law_1052 sL a0 k85 k562 k961 k979 k1010 a2 a3 x4 x5 x9 x10 a11 a12 a13 x17 x28 x30 x31 x32 (-9) x31 x29 σ g
noncomputable def g_law_1010 (sL : Nat) (a0 : Nat → Int32) (k85 : (Nat → Int32) × Int32 × HS × Nat → Option (Int32)) (k562 : Int32 × HS × Nat → Option (Int32)) (k961 : Int32 × HS × Nat → Option (Int32)) (k979 : Int32 × Int32 × Nat → Option (Int32)) (a2 : Nat → Int32) (a3 : Nat → Int32) (x4 : Int32) (x5 : Int32) (x9 : Int32) (x10 : Int32) (a11 : Nat → Int32) (a12 : Nat → Int32) (a13 : Nat → Int32) (x17 : Int32) (x28 : Int32) (x30 : Int32) (x31 : Int32) (σ : HS) (p : Int32 × Int32 × Nat) : Option (Int32) :=
  wloop (fun k1010 p => g_law_1010_b sL a0 k85 k562 k961 k979 k1010 a2 a3 x4 x5 x9 x10 a11 a12 a13 x17 x28 p.1 x30 x31 p.2.1 σ p.2.2) fuelN p
noncomputable def g_law_989_b (sL : Nat) (a0 : Nat → Int32) (k85 : (Nat → Int32) × Int32 × HS × Nat → Option (Int32)) (k562 : Int32 × HS × Nat → Option (Int32)) (k961 : Int32 × HS × Nat → Option (Int32)) (k979 : Int32 × Int32 × Nat → Option (Int32)) (k989 : Int32 → Option (Int32)) (a2 : Nat → Int32) (a3 : Nat → Int32) (x4 : Int32) (x5 : Int32) (x9 : Int32) (x10 : Int32) (a11 : Nat → Int32) (a12 : Nat → Int32) (a13 : Nat → Int32) (x17 : Int32) (x28 : Int32) (x29 : Int32) (x30 : Int32) (x31 : Int32) (σ : HS) (g : Nat) : Option (Int32) :=
  if ((14 + x31) : Int32) < 0 ∨ 44 ≤ ((14 + x31) : Int32).toNatClampNeg then none else
  if ((a2 ((14 + x31) : Int32).toNatClampNeg) : Int32) = x30 then
    g_law_1010 sL a0 k85 k562 k961 k979 a2 a3 x4 x5 x9 x10 a11 a12 a13 x17 x28 x30 x31 σ (x29, (-1), g)
  else
    k989 (x31 + 1)
noncomputable def g_law_989 (sL : Nat) (a0 : Nat → Int32) (k85 : (Nat → Int32) × Int32 × HS × Nat → Option (Int32)) (k562 : Int32 × HS × Nat → Option (Int32)) (k961 : Int32 × HS × Nat → Option (Int32)) (k979 : Int32 × Int32 × Nat → Option (Int32)) (a2 : Nat → Int32) (a3 : Nat → Int32) (x4 : Int32) (x5 : Int32) (x9 : Int32) (x10 : Int32) (a11 : Nat → Int32) (a12 : Nat → Int32) (a13 : Nat → Int32) (x17 : Int32) (x28 : Int32) (x29 : Int32) (x30 : Int32) (σ : HS) (g : Nat) (p : Int32) : Option (Int32) :=
  wloop (fun k989 p => g_law_989_b sL a0 k85 k562 k961 k979 k989 a2 a3 x4 x5 x9 x10 a11 a12 a13 x17 x28 x29 x30 p σ g) fuelN p
noncomputable def g_law_979_b (sL : Nat) (a0 : Nat → Int32) (k85 : (Nat → Int32) × Int32 × HS × Nat → Option (Int32)) (k562 : Int32 × HS × Nat → Option (Int32)) (k961 : Int32 × HS × Nat → Option (Int32)) (k979 : Int32 × Int32 × Nat → Option (Int32)) (a2 : Nat → Int32) (a3 : Nat → Int32) (x4 : Int32) (x5 : Int32) (x9 : Int32) (x10 : Int32) (a11 : Nat → Int32) (a12 : Nat → Int32) (a13 : Nat → Int32) (x17 : Int32) (x28 : Int32) (x29 : Int32) (x30 : Int32) (σ : HS) (g : Nat) : Option (Int32) :=
  if (x4 : Int32) ≤ x30 then
    bd (f8_dry x17 x28 σ) fun r2 =>
    if (r2.1 : Int32) = x29 then
      k961 ((x28 + 1), r2.2, g)
    else
      some 0
  else
    g_law_989 sL a0 k85 k562 k961 k979 a2 a3 x4 x5 x9 x10 a11 a12 a13 x17 x28 x29 x30 σ g 0
noncomputable def g_law_979 (sL : Nat) (a0 : Nat → Int32) (k85 : (Nat → Int32) × Int32 × HS × Nat → Option (Int32)) (k562 : Int32 × HS × Nat → Option (Int32)) (k961 : Int32 × HS × Nat → Option (Int32)) (a2 : Nat → Int32) (a3 : Nat → Int32) (x4 : Int32) (x5 : Int32) (x9 : Int32) (x10 : Int32) (a11 : Nat → Int32) (a12 : Nat → Int32) (a13 : Nat → Int32) (x17 : Int32) (x28 : Int32) (σ : HS) (p : Int32 × Int32 × Nat) : Option (Int32) :=
  wloop (fun k979 p => g_law_979_b sL a0 k85 k562 k961 k979 a2 a3 x4 x5 x9 x10 a11 a12 a13 x17 x28 p.1 p.2.1 σ p.2.2) fuelN p
noncomputable def g_law_961_b (sL : Nat) (a0 : Nat → Int32) (k85 : (Nat → Int32) × Int32 × HS × Nat → Option (Int32)) (k562 : Int32 × HS × Nat → Option (Int32)) (k961 : Int32 × HS × Nat → Option (Int32)) (a2 : Nat → Int32) (a3 : Nat → Int32) (x4 : Int32) (x5 : Int32) (x9 : Int32) (x10 : Int32) (a11 : Nat → Int32) (a12 : Nat → Int32) (a13 : Nat → Int32) (x17 : Int32) (x28 : Int32) (σ : HS) (g : Nat) : Option (Int32) :=
  if ((9 + x17) : Int32) < 0 ∨ 44 ≤ ((9 + x17) : Int32).toNatClampNeg then none else
  if ((a2 ((9 + x17) : Int32).toNatClampNeg) : Int32) ≤ x28 then
    if ((9 + x17) : Int32) < 0 ∨ 44 ≤ ((9 + x17) : Int32).toNatClampNeg then none else
    bd (f8_dry x17 (a2 ((9 + x17) : Int32).toNatClampNeg) σ) fun r4 =>
    if (r4.1 : Int32) = (-1) then
      k562 ((x17 + 1), r4.2, g)
    else
      some 0
  else
    g_law_979 sL a0 k85 k562 k961 a2 a3 x4 x5 x9 x10 a11 a12 a13 x17 x28 σ (0, 0, g)
noncomputable def g_law_961 (sL : Nat) (a0 : Nat → Int32) (k85 : (Nat → Int32) × Int32 × HS × Nat → Option (Int32)) (k562 : Int32 × HS × Nat → Option (Int32)) (a2 : Nat → Int32) (a3 : Nat → Int32) (x4 : Int32) (x5 : Int32) (x9 : Int32) (x10 : Int32) (a11 : Nat → Int32) (a12 : Nat → Int32) (a13 : Nat → Int32) (x17 : Int32) (p : Int32 × HS × Nat) : Option (Int32) :=
  wloop (fun k961 p => g_law_961_b sL a0 k85 k562 k961 a2 a3 x4 x5 x9 x10 a11 a12 a13 x17 p.1 p.2.1 p.2.2) fuelN p
noncomputable def g_law_850 (sL : Nat) (a0 : Nat → Int32) (k85 : (Nat → Int32) × Int32 × HS × Nat → Option (Int32)) (k562 : Int32 × HS × Nat → Option (Int32)) (k779 : Int32 × HS → Option (Int32)) (a2 : Nat → Int32) (a3 : Nat → Int32) (x4 : Int32) (x5 : Int32) (x9 : Int32) (x10 : Int32) (a11 : Nat → Int32) (a12 : Nat → Int32) (a13 : Nat → Int32) (x17 : Int32) (x21 : Int32) (a22 : Nat → Int32) (a23 : Nat → Int32) (x24 : Int32) (x25 : Int64) (z0 : Int64) (σ : HS) (g : Nat) : Option (Int32) :=
  bd (f8_owed x17 x24 σ) fun r1 =>
  if (r1.1 : Int64) = x25 then
    bd (f8_bargain x17 x24 (r1.2)) fun r3 =>
    if (r3.1 : Int64) = z0 then
      k779 ((x24 + 1), r3.2)
    else
      some 0
  else
    some 0
noncomputable def g_law_811 (sL : Nat) (a0 : Nat → Int32) (k85 : (Nat → Int32) × Int32 × HS × Nat → Option (Int32)) (k562 : Int32 × HS × Nat → Option (Int32)) (k779 : Int32 × HS → Option (Int32)) (a2 : Nat → Int32) (a3 : Nat → Int32) (x4 : Int32) (x5 : Int32) (x9 : Int32) (x10 : Int32) (a11 : Nat → Int32) (a12 : Nat → Int32) (a13 : Nat → Int32) (x17 : Int32) (x21 : Int32) (a22 : Nat → Int32) (a23 : Nat → Int32) (x24 : Int32) (z0 : Int64) (σ : HS) (g : Nat) : Option (Int32) :=
  if (x24 : Int32) = x17 then
    g_law_850 sL a0 k85 k562 k779 a2 a3 x4 x5 x9 x10 a11 a12 a13 x17 x21 a22 a23 x24 z0 (-9223372036854775808) σ g
  else
    if (x24 : Int32) < 0 ∨ 20 ≤ (x24 : Int32).toNatClampNeg then none else
    if (x17 : Int32) < 0 ∨ 20 ≤ (x17 : Int32).toNatClampNeg then none else
    if (x24 : Int32) < 0 ∨ 20 ≤ (x24 : Int32).toNatClampNeg then none else
    if (x17 : Int32) < 0 ∨ 20 ≤ (x17 : Int32).toNatClampNeg then none else
    g_law_850 sL a0 k85 k562 k779 a2 a3 x4 x5 x9 x10 a11 a12 a13 x17 x21 a22 a23 x24 z0 ((((((a22 (x24 : Int32).toNatClampNeg) + (a22 (x17 : Int32).toNatClampNeg)) - (a13 (x24 : Int32).toNatClampNeg)) - (a13 (x17 : Int32).toNatClampNeg)) : Int32).toInt64) σ g
noncomputable def g_law_779_b (sL : Nat) (a0 : Nat → Int32) (k85 : (Nat → Int32) × Int32 × HS × Nat → Option (Int32)) (k562 : Int32 × HS × Nat → Option (Int32)) (k779 : Int32 × HS → Option (Int32)) (a2 : Nat → Int32) (a3 : Nat → Int32) (x4 : Int32) (x5 : Int32) (x9 : Int32) (x10 : Int32) (a11 : Nat → Int32) (a12 : Nat → Int32) (a13 : Nat → Int32) (x17 : Int32) (x21 : Int32) (a22 : Nat → Int32) (a23 : Nat → Int32) (x24 : Int32) (σ : HS) (g : Nat) : Option (Int32) :=
  if (x4 : Int32) ≤ x24 then
    bd (f8_share x17 0 σ) fun r2 =>
    bd (f8_share x17 1 (r2.2)) fun r3 =>
    if (r3.1 : Int64) < 1 then
      some 0
    else
      if (r3.1 : Int64) = 0 then none else
      if (((((a2 (1 : Int32).toNatClampNeg) : Int32).toInt64) - (((a2 (1 : Int32).toNatClampNeg) : Int32).toInt64) / (r3.1) * (r3.1)) : Int64) = 0 then
        if (r3.1 : Int64) = 0 then none else
        if (((r2.1) * ((((a2 (1 : Int32).toNatClampNeg) : Int32).toInt64) / (r3.1))) : Int64) = ((x21 : Int32).toInt64) then
          bd (f8_share x17 2 (r3.2)) fun r9 =>
          if (r9.1 : Int64) = (-9223372036854775808) then
            g_law_961 sL a0 k85 k562 a2 a3 x4 x5 x9 x10 a11 a12 a13 x17 (0, r9.2, g)
          else
            some 0
        else
          some 0
      else
        some 0
  else
    if (x24 : Int32) = x17 then
      g_law_811 sL a0 k85 k562 k779 a2 a3 x4 x5 x9 x10 a11 a12 a13 x17 x21 a22 a23 x24 (-9223372036854775808) σ g
    else
      if (x24 : Int32) < 0 ∨ 20 ≤ (x24 : Int32).toNatClampNeg then none else
      if (x24 : Int32) < 0 ∨ 20 ≤ (x24 : Int32).toNatClampNeg then none else
      g_law_811 sL a0 k85 k562 k779 a2 a3 x4 x5 x9 x10 a11 a12 a13 x17 x21 a22 a23 x24 ((((a22 (x24 : Int32).toNatClampNeg) - (a23 (x24 : Int32).toNatClampNeg)) : Int32).toInt64) σ g
noncomputable def g_law_779 (sL : Nat) (a0 : Nat → Int32) (k85 : (Nat → Int32) × Int32 × HS × Nat → Option (Int32)) (k562 : Int32 × HS × Nat → Option (Int32)) (a2 : Nat → Int32) (a3 : Nat → Int32) (x4 : Int32) (x5 : Int32) (x9 : Int32) (x10 : Int32) (a11 : Nat → Int32) (a12 : Nat → Int32) (a13 : Nat → Int32) (x17 : Int32) (x21 : Int32) (a22 : Nat → Int32) (a23 : Nat → Int32) (g : Nat) (p : Int32 × HS) : Option (Int32) :=
  wloop (fun k779 p => g_law_779_b sL a0 k85 k562 k779 a2 a3 x4 x5 x9 x10 a11 a12 a13 x17 x21 a22 a23 p.1 p.2 g) fuelN p
noncomputable def g_law_737 (sL : Nat) (a0 : Nat → Int32) (k85 : (Nat → Int32) × Int32 × HS × Nat → Option (Int32)) (k562 : Int32 × HS × Nat → Option (Int32)) (k684 : Int32 × Int32 → Option (Int32)) (a2 : Nat → Int32) (a3 : Nat → Int32) (x4 : Int32) (x5 : Int32) (x9 : Int32) (x10 : Int32) (a11 : Nat → Int32) (a12 : Nat → Int32) (a13 : Nat → Int32) (x17 : Int32) (x18 : Int32) (x20 : Int32) (x22 : Int32) (z0 : Int32) (z1 : Int32) (σ : HS) (g : Nat) : Option (Int32) :=
  k684 ((z1 + z0), (x22 + 1))
noncomputable def g_law_736 (sL : Nat) (a0 : Nat → Int32) (k85 : (Nat → Int32) × Int32 × HS × Nat → Option (Int32)) (k562 : Int32 × HS × Nat → Option (Int32)) (k684 : Int32 × Int32 → Option (Int32)) (a2 : Nat → Int32) (a3 : Nat → Int32) (x4 : Int32) (x5 : Int32) (x9 : Int32) (x10 : Int32) (a11 : Nat → Int32) (a12 : Nat → Int32) (a13 : Nat → Int32) (x17 : Int32) (x18 : Int32) (x20 : Int32) (x22 : Int32) (z0 : Int32) (σ : HS) (g : Nat) : Option (Int32) :=
  g_law_737 sL a0 k85 k562 k684 a2 a3 x4 x5 x9 x10 a11 a12 a13 x17 x18 x20 x22 0 z0 σ g
noncomputable def g_law_684_b (sL : Nat) (a0 : Nat → Int32) (k85 : (Nat → Int32) × Int32 × HS × Nat → Option (Int32)) (k562 : Int32 × HS × Nat → Option (Int32)) (k684 : Int32 × Int32 → Option (Int32)) (a2 : Nat → Int32) (a3 : Nat → Int32) (x4 : Int32) (x5 : Int32) (x9 : Int32) (x10 : Int32) (a11 : Nat → Int32) (a12 : Nat → Int32) (a13 : Nat → Int32) (x17 : Int32) (x18 : Int32) (x20 : Int32) (x21 : Int32) (x22 : Int32) (σ : HS) (g : Nat) : Option (Int32) :=
  if (x10 : Int32) ≤ x22 then
    bd (g_but a2 a3 a11 a12 x18 (-9)) fun r2 =>
    if 80000 ≤ g then none else
    bd (g_but a2 a3 a11 a12 x18 x20) fun r4 =>
    if 80000 ≤ (g + 1) then none else
    g_law_779 sL a0 k85 k562 a2 a3 x4 x5 x9 x10 a11 a12 a13 x17 x21 r2 r4 ((g + 1) + 1) (0, σ)
  else
    bd (g_who a2 x22) fun r6 =>
    if (r6 : Int32) = x17 then
      if ((6 + x22) : Int32) < 0 ∨ 20 ≤ ((6 + x22) : Int32).toNatClampNeg then none else
      if ((a13 ((6 + x22) : Int32).toNatClampNeg) : Int32) < 0 then
        g_law_736 sL a0 k85 k562 k684 a2 a3 x4 x5 x9 x10 a11 a12 a13 x17 x18 x20 x22 x21 σ g
      else
        if ((6 + x22) : Int32) < 0 ∨ 20 ≤ ((6 + x22) : Int32).toNatClampNeg then none else
        if (((9 * x17) + (3 * (a13 ((6 + x22) : Int32).toNatClampNeg))) : Int32) < 0 ∨ 45 ≤ (((9 * x17) + (3 * (a13 ((6 + x22) : Int32).toNatClampNeg))) : Int32).toNatClampNeg then none else
        g_law_737 sL a0 k85 k562 k684 a2 a3 x4 x5 x9 x10 a11 a12 a13 x17 x18 x20 x22 (a3 (((9 * x17) + (3 * (a13 ((6 + x22) : Int32).toNatClampNeg))) : Int32).toNatClampNeg) x21 σ g
    else
      g_law_736 sL a0 k85 k562 k684 a2 a3 x4 x5 x9 x10 a11 a12 a13 x17 x18 x20 x22 x21 σ g
noncomputable def g_law_684 (sL : Nat) (a0 : Nat → Int32) (k85 : (Nat → Int32) × Int32 × HS × Nat → Option (Int32)) (k562 : Int32 × HS × Nat → Option (Int32)) (a2 : Nat → Int32) (a3 : Nat → Int32) (x4 : Int32) (x5 : Int32) (x9 : Int32) (x10 : Int32) (a11 : Nat → Int32) (a12 : Nat → Int32) (a13 : Nat → Int32) (x17 : Int32) (x18 : Int32) (x20 : Int32) (σ : HS) (g : Nat) (p : Int32 × Int32) : Option (Int32) :=
  wloop (fun k684 p => g_law_684_b sL a0 k85 k562 k684 a2 a3 x4 x5 x9 x10 a11 a12 a13 x17 x18 x20 p.1 p.2 σ g) fuelN p
noncomputable def g_law_673 (sL : Nat) (a0 : Nat → Int32) (k85 : (Nat → Int32) × Int32 × HS × Nat → Option (Int32)) (k562 : Int32 × HS × Nat → Option (Int32)) (k618 : Int32 × Int32 → Option (Int32)) (a2 : Nat → Int32) (a3 : Nat → Int32) (x4 : Int32) (x5 : Int32) (x9 : Int32) (x10 : Int32) (a11 : Nat → Int32) (a12 : Nat → Int32) (a13 : Nat → Int32) (x17 : Int32) (x18 : Int32) (x19 : Int32) (x21 : Int32) (x22 : Int32) (z0 : Int32) (σ : HS) (g : Nat) : Option (Int32) :=
  k618 (z0, (x22 + (-1)))
noncomputable def g_law_671 (sL : Nat) (a0 : Nat → Int32) (k85 : (Nat → Int32) × Int32 × HS × Nat → Option (Int32)) (k562 : Int32 × HS × Nat → Option (Int32)) (k618 : Int32 × Int32 → Option (Int32)) (a2 : Nat → Int32) (a3 : Nat → Int32) (x4 : Int32) (x5 : Int32) (x9 : Int32) (x10 : Int32) (a11 : Nat → Int32) (a12 : Nat → Int32) (a13 : Nat → Int32) (x17 : Int32) (x18 : Int32) (x19 : Int32) (x20 : Int32) (x21 : Int32) (x22 : Int32) (σ : HS) (g : Nat) : Option (Int32) :=
  g_law_673 sL a0 k85 k562 k618 a2 a3 x4 x5 x9 x10 a11 a12 a13 x17 x18 x19 x21 x22 x20 σ g
noncomputable def g_law_666 (sL : Nat) (a0 : Nat → Int32) (k85 : (Nat → Int32) × Int32 × HS × Nat → Option (Int32)) (k562 : Int32 × HS × Nat → Option (Int32)) (k618 : Int32 × Int32 → Option (Int32)) (a2 : Nat → Int32) (a3 : Nat → Int32) (x4 : Int32) (x5 : Int32) (x9 : Int32) (x10 : Int32) (a11 : Nat → Int32) (a12 : Nat → Int32) (a13 : Nat → Int32) (x17 : Int32) (x18 : Int32) (x19 : Int32) (x21 : Int32) (x22 : Int32) (σ : HS) (g : Nat) : Option (Int32) :=
  g_law_673 sL a0 k85 k562 k618 a2 a3 x4 x5 x9 x10 a11 a12 a13 x17 x18 x19 x21 x22 x22 σ g
noncomputable def g_law_618_b (sL : Nat) (a0 : Nat → Int32) (k85 : (Nat → Int32) × Int32 × HS × Nat → Option (Int32)) (k562 : Int32 × HS × Nat → Option (Int32)) (k618 : Int32 × Int32 → Option (Int32)) (a2 : Nat → Int32) (a3 : Nat → Int32) (x4 : Int32) (x5 : Int32) (x9 : Int32) (x10 : Int32) (a11 : Nat → Int32) (a12 : Nat → Int32) (a13 : Nat → Int32) (x17 : Int32) (x18 : Int32) (x19 : Int32) (x20 : Int32) (x21 : Int32) (x22 : Int32) (σ : HS) (g : Nat) : Option (Int32) :=
  if (x22 : Int32) < 0 then
    g_law_684 sL a0 k85 k562 a2 a3 x4 x5 x9 x10 a11 a12 a13 x17 x18 x20 σ g (x21, 0)
  else
    if (((9 * x17) + (3 * x22)) : Int32) < 0 ∨ 45 ≤ (((9 * x17) + (3 * x22)) : Int32).toNatClampNeg then none else
    if (x19 : Int32) < (a3 (((9 * x17) + (3 * x22)) : Int32).toNatClampNeg) then
      g_law_671 sL a0 k85 k562 k618 a2 a3 x4 x5 x9 x10 a11 a12 a13 x17 x18 x19 x20 x21 x22 σ g
    else
      if (x20 : Int32) < 0 then
        g_law_666 sL a0 k85 k562 k618 a2 a3 x4 x5 x9 x10 a11 a12 a13 x17 x18 x19 x21 x22 σ g
      else
        if (((9 * x17) + (3 * x20)) : Int32) < 0 ∨ 45 ≤ (((9 * x17) + (3 * x20)) : Int32).toNatClampNeg then none else
        if ((a3 (((9 * x17) + (3 * x22)) : Int32).toNatClampNeg) : Int32) < (a3 (((9 * x17) + (3 * x20)) : Int32).toNatClampNeg) then
          g_law_671 sL a0 k85 k562 k618 a2 a3 x4 x5 x9 x10 a11 a12 a13 x17 x18 x19 x20 x21 x22 σ g
        else
          g_law_666 sL a0 k85 k562 k618 a2 a3 x4 x5 x9 x10 a11 a12 a13 x17 x18 x19 x21 x22 σ g
noncomputable def g_law_618 (sL : Nat) (a0 : Nat → Int32) (k85 : (Nat → Int32) × Int32 × HS × Nat → Option (Int32)) (k562 : Int32 × HS × Nat → Option (Int32)) (a2 : Nat → Int32) (a3 : Nat → Int32) (x4 : Int32) (x5 : Int32) (x9 : Int32) (x10 : Int32) (a11 : Nat → Int32) (a12 : Nat → Int32) (a13 : Nat → Int32) (x17 : Int32) (x18 : Int32) (x19 : Int32) (x21 : Int32) (σ : HS) (g : Nat) (p : Int32 × Int32) : Option (Int32) :=
  wloop (fun k618 p => g_law_618_b sL a0 k85 k562 k618 a2 a3 x4 x5 x9 x10 a11 a12 a13 x17 x18 x19 p.1 x21 p.2 σ g) fuelN p
noncomputable def g_law_572_b (sL : Nat) (a0 : Nat → Int32) (k85 : (Nat → Int32) × Int32 × HS × Nat → Option (Int32)) (k562 : Int32 × HS × Nat → Option (Int32)) (k572 : Int32 → Option (Int32)) (a2 : Nat → Int32) (a3 : Nat → Int32) (x4 : Int32) (x5 : Int32) (x9 : Int32) (x10 : Int32) (a11 : Nat → Int32) (a12 : Nat → Int32) (a13 : Nat → Int32) (x17 : Int32) (x18 : Int32) (σ : HS) (g : Nat) : Option (Int32) :=
  if ((14 + x18) : Int32) < 0 ∨ 44 ≤ ((14 + x18) : Int32).toNatClampNeg then none else
  if ((a2 ((14 + x18) : Int32).toNatClampNeg) : Int32) = x17 then
    if ((12 + x18) : Int32) < 0 ∨ 20 ≤ ((12 + x18) : Int32).toNatClampNeg then none else
    if ((9 + x17) : Int32) < 0 ∨ 44 ≤ ((9 + x17) : Int32).toNatClampNeg then none else
    g_law_618 sL a0 k85 k562 a2 a3 x4 x5 x9 x10 a11 a12 a13 x17 x18 (a13 ((12 + x18) : Int32).toNatClampNeg) 0 σ g ((-9), ((a2 ((9 + x17) : Int32).toNatClampNeg) - 1))
  else
    k572 (x18 + 1)
noncomputable def g_law_572 (sL : Nat) (a0 : Nat → Int32) (k85 : (Nat → Int32) × Int32 × HS × Nat → Option (Int32)) (k562 : Int32 × HS × Nat → Option (Int32)) (a2 : Nat → Int32) (a3 : Nat → Int32) (x4 : Int32) (x5 : Int32) (x9 : Int32) (x10 : Int32) (a11 : Nat → Int32) (a12 : Nat → Int32) (a13 : Nat → Int32) (x17 : Int32) (σ : HS) (g : Nat) (p : Int32) : Option (Int32) :=
  wloop (fun k572 p => g_law_572_b sL a0 k85 k562 k572 a2 a3 x4 x5 x9 x10 a11 a12 a13 x17 p σ g) fuelN p
noncomputable def g_law_562_b (sL : Nat) (a0 : Nat → Int32) (k85 : (Nat → Int32) × Int32 × HS × Nat → Option (Int32)) (k562 : Int32 × HS × Nat → Option (Int32)) (a2 : Nat → Int32) (a3 : Nat → Int32) (x4 : Int32) (x5 : Int32) (x9 : Int32) (x10 : Int32) (a11 : Nat → Int32) (a12 : Nat → Int32) (a13 : Nat → Int32) (x17 : Int32) (σ : HS) (g : Nat) : Option (Int32) :=
  if (x4 : Int32) ≤ x17 then
    g_law_1143 sL a0 k85 a2 a3 x4 x5 x9 x10 a13 g (0, (-1), 0, σ)
  else
    g_law_572 sL a0 k85 k562 a2 a3 x4 x5 x9 x10 a11 a12 a13 x17 σ g 0
noncomputable def g_law_562 (sL : Nat) (a0 : Nat → Int32) (k85 : (Nat → Int32) × Int32 × HS × Nat → Option (Int32)) (a2 : Nat → Int32) (a3 : Nat → Int32) (x4 : Int32) (x5 : Int32) (x9 : Int32) (x10 : Int32) (a11 : Nat → Int32) (a12 : Nat → Int32) (a13 : Nat → Int32) (p : Int32 × HS × Nat) : Option (Int32) :=
  wloop (fun k562 p => g_law_562_b sL a0 k85 k562 a2 a3 x4 x5 x9 x10 a11 a12 a13 p.1 p.2.1 p.2.2) fuelN p
noncomputable def g_law_542 (sL : Nat) (a0 : Nat → Int32) (k85 : (Nat → Int32) × Int32 × HS × Nat → Option (Int32)) (k514 : Int32 × Int32 × HS → Option (Int32)) (a2 : Nat → Int32) (a3 : Nat → Int32) (x4 : Int32) (x5 : Int32) (x9 : Int32) (x10 : Int32) (a11 : Nat → Int32) (a12 : Nat → Int32) (a13 : Nat → Int32) (x16 : Int32) (x17 : Int32) (z0 : Int32) (z1 : Int32) (σ : HS) (g : Nat) : Option (Int32) :=
  if (z1 : Int32) = z0 then
    k514 ((x16 / 4), (x17 + (-1)), σ)
  else
    some 0
noncomputable def g_law_514_b (sL : Nat) (a0 : Nat → Int32) (k85 : (Nat → Int32) × Int32 × HS × Nat → Option (Int32)) (k514 : Int32 × Int32 × HS → Option (Int32)) (a2 : Nat → Int32) (a3 : Nat → Int32) (x4 : Int32) (x5 : Int32) (x9 : Int32) (x10 : Int32) (a11 : Nat → Int32) (a12 : Nat → Int32) (a13 : Nat → Int32) (x16 : Int32) (x17 : Int32) (σ : HS) (g : Nat) : Option (Int32) :=
  if (x17 : Int32) < 0 then
    g_law_562 sL a0 k85 a2 a3 x4 x5 x9 x10 a11 a12 a13 (0, σ, g)
  else
    bd (f8_together x17 σ) fun r2 =>
    if ((x16 - x16 / 4 * 4) : Int32) = 3 then
      g_law_542 sL a0 k85 k514 a2 a3 x4 x5 x9 x10 a11 a12 a13 x16 x17 (-9) (r2.1) (r2.2) g
    else
      g_law_542 sL a0 k85 k514 a2 a3 x4 x5 x9 x10 a11 a12 a13 x16 x17 (x16 - x16 / 4 * 4) (r2.1) (r2.2) g
noncomputable def g_law_514 (sL : Nat) (a0 : Nat → Int32) (k85 : (Nat → Int32) × Int32 × HS × Nat → Option (Int32)) (a2 : Nat → Int32) (a3 : Nat → Int32) (x4 : Int32) (x5 : Int32) (x9 : Int32) (x10 : Int32) (a11 : Nat → Int32) (a12 : Nat → Int32) (a13 : Nat → Int32) (g : Nat) (p : Int32 × Int32 × HS) : Option (Int32) :=
  wloop (fun k514 p => g_law_514_b sL a0 k85 k514 a2 a3 x4 x5 x9 x10 a11 a12 a13 p.1 p.2.1 p.2.2 g) fuelN p
noncomputable def g_law_470 (sL : Nat) (a0 : Nat → Int32) (k85 : (Nat → Int32) × Int32 × HS × Nat → Option (Int32)) (k304 : Int32 × Int32 × Int32 × Nat → Option (Int32)) (a2 : Nat → Int32) (a3 : Nat → Int32) (x4 : Int32) (x5 : Int32) (x9 : Int32) (x10 : Int32) (a11 : Nat → Int32) (a12 : Nat → Int32) (a13 : Nat → Int32) (x15 : Int32) (x16 : Int32) (x17 : Int32) (σ : HS) (g : Nat) : Option (Int32) :=
  k304 (x15, x16, (x17 + (-1)), g)
noncomputable def g_law_423_b (sL : Nat) (a0 : Nat → Int32) (k85 : (Nat → Int32) × Int32 × HS × Nat → Option (Int32)) (k304 : Int32 × Int32 × Int32 × Nat → Option (Int32)) (k423 : Int32 × Int32 → Option (Int32)) (a2 : Nat → Int32) (a3 : Nat → Int32) (x4 : Int32) (x5 : Int32) (x9 : Int32) (x10 : Int32) (a11 : Nat → Int32) (a12 : Nat → Int32) (a13 : Nat → Int32) (x15 : Int32) (x16 : Int32) (x17 : Int32) (a21 : Nat → Int32) (x22 : Int32) (x23 : Int32) (σ : HS) (g : Nat) : Option (Int32) :=
  if (x4 : Int32) ≤ x23 then
    if 0 ≤ ((a21 (1 : Int32).toNatClampNeg) : Int32) then
      g_law_470 sL a0 k85 k304 a2 a3 x4 x5 x9 x10 a11 a12 a13 x15 x16 x17 σ g
    else
      if (x22 : Int32) < x15 then
        g_law_470 sL a0 k85 k304 a2 a3 x4 x5 x9 x10 a11 a12 a13 x15 x16 x17 σ g
      else
        g_law_470 sL a0 k85 k304 a2 a3 x4 x5 x9 x10 a11 a12 a13 x22 x17 x17 σ g
  else
    if ((3 + x23) : Int32) < 0 ∨ 16 ≤ ((3 + x23) : Int32).toNatClampNeg then none else
    k423 ((x22 + (a21 ((3 + x23) : Int32).toNatClampNeg)), (x23 + 1))
noncomputable def g_law_423 (sL : Nat) (a0 : Nat → Int32) (k85 : (Nat → Int32) × Int32 × HS × Nat → Option (Int32)) (k304 : Int32 × Int32 × Int32 × Nat → Option (Int32)) (a2 : Nat → Int32) (a3 : Nat → Int32) (x4 : Int32) (x5 : Int32) (x9 : Int32) (x10 : Int32) (a11 : Nat → Int32) (a12 : Nat → Int32) (a13 : Nat → Int32) (x15 : Int32) (x16 : Int32) (x17 : Int32) (a21 : Nat → Int32) (σ : HS) (g : Nat) (p : Int32 × Int32) : Option (Int32) :=
  wloop (fun k423 p => g_law_423_b sL a0 k85 k304 k423 a2 a3 x4 x5 x9 x10 a11 a12 a13 x15 x16 x17 a21 p.1 p.2 σ g) fuelN p
noncomputable def g_law_390 (sL : Nat) (a0 : Nat → Int32) (k85 : (Nat → Int32) × Int32 × HS × Nat → Option (Int32)) (k304 : Int32 × Int32 × Int32 × Nat → Option (Int32)) (k328 : (Nat → Int32) × Int32 × Int32 × Int32 → Option (Int32)) (a2 : Nat → Int32) (a3 : Nat → Int32) (x4 : Int32) (x5 : Int32) (x9 : Int32) (x10 : Int32) (a11 : Nat → Int32) (a12 : Nat → Int32) (a13 : Nat → Int32) (x15 : Int32) (x16 : Int32) (x17 : Int32) (a18 : Nat → Int32) (x19 : Int32) (x21 : Int32) (z0 : Int32) (σ : HS) (g : Nat) : Option (Int32) :=
  k328 (a18, x19, z0, (x21 + (-1)))
noncomputable def g_law_389 (sL : Nat) (a0 : Nat → Int32) (k85 : (Nat → Int32) × Int32 × HS × Nat → Option (Int32)) (k304 : Int32 × Int32 × Int32 × Nat → Option (Int32)) (k328 : (Nat → Int32) × Int32 × Int32 × Int32 → Option (Int32)) (a2 : Nat → Int32) (a3 : Nat → Int32) (x4 : Int32) (x5 : Int32) (x9 : Int32) (x10 : Int32) (a11 : Nat → Int32) (a12 : Nat → Int32) (a13 : Nat → Int32) (x15 : Int32) (x16 : Int32) (x17 : Int32) (a18 : Nat → Int32) (x19 : Int32) (x21 : Int32) (σ : HS) (g : Nat) : Option (Int32) :=
  g_law_390 sL a0 k85 k304 k328 a2 a3 x4 x5 x9 x10 a11 a12 a13 x15 x16 x17 a18 x19 x21 0 σ g
noncomputable def g_law_354 (sL : Nat) (a0 : Nat → Int32) (k85 : (Nat → Int32) × Int32 × HS × Nat → Option (Int32)) (k304 : Int32 × Int32 × Int32 × Nat → Option (Int32)) (k328 : (Nat → Int32) × Int32 × Int32 × Int32 → Option (Int32)) (a2 : Nat → Int32) (a3 : Nat → Int32) (x4 : Int32) (x5 : Int32) (x9 : Int32) (x10 : Int32) (a11 : Nat → Int32) (a12 : Nat → Int32) (a13 : Nat → Int32) (x15 : Int32) (x16 : Int32) (x17 : Int32) (a18 : Nat → Int32) (x19 : Int32) (x20 : Int32) (x21 : Int32) (z0 : Int32) (z1 : Int32) (σ : HS) (g : Nat) : Option (Int32) :=
  if (z1 : Int32) < 0 ∨ 6 ≤ (z1 : Int32).toNatClampNeg then none else
  bd (some (upd a18 (z1 : Int32).toNatClampNeg z0)) fun b2 =>
  if (x20 : Int32) = 0 then
    g_law_389 sL a0 k85 k304 k328 a2 a3 x4 x5 x9 x10 a11 a12 a13 x15 x16 x17 b2 (x19 / 4) x21 σ g
  else
    if (x21 : Int32) < 0 ∨ 6 ≤ (x21 : Int32).toNatClampNeg then none else
    bd (g_who a2 x21) fun r5 =>
    if ((9 + r5) : Int32) < 0 ∨ 44 ≤ ((9 + r5) : Int32).toNatClampNeg then none else
    if ((a2 ((9 + r5) : Int32).toNatClampNeg) : Int32) ≤ (b2 (x21 : Int32).toNatClampNeg) then
      g_law_389 sL a0 k85 k304 k328 a2 a3 x4 x5 x9 x10 a11 a12 a13 x15 x16 x17 b2 (x19 / 4) x21 σ g
    else
      g_law_390 sL a0 k85 k304 k328 a2 a3 x4 x5 x9 x10 a11 a12 a13 x15 x16 x17 b2 (x19 / 4) x21 1 σ g
noncomputable def g_law_328_b (sL : Nat) (a0 : Nat → Int32) (k85 : (Nat → Int32) × Int32 × HS × Nat → Option (Int32)) (k304 : Int32 × Int32 × Int32 × Nat → Option (Int32)) (k328 : (Nat → Int32) × Int32 × Int32 × Int32 → Option (Int32)) (a2 : Nat → Int32) (a3 : Nat → Int32) (x4 : Int32) (x5 : Int32) (x9 : Int32) (x10 : Int32) (a11 : Nat → Int32) (a12 : Nat → Int32) (a13 : Nat → Int32) (x15 : Int32) (x16 : Int32) (x17 : Int32) (a18 : Nat → Int32) (x19 : Int32) (x20 : Int32) (x21 : Int32) (σ : HS) (g : Nat) : Option (Int32) :=
  if (x21 : Int32) < 0 then
    if (x20 : Int32) = 0 then
      g_law_470 sL a0 k85 k304 a2 a3 x4 x5 x9 x10 a11 a12 a13 x15 x16 x17 σ g
    else
      bd (g_day a2 a3 a18 x10 (a2 (2 : Int32).toNatClampNeg)) fun r3 =>
      if 80000 ≤ g then none else
      g_law_423 sL a0 k85 k304 a2 a3 x4 x5 x9 x10 a11 a12 a13 x15 x16 x17 r3 σ (g + 1) (0, 0)
  else
    if ((x19 - x19 / 4 * 4) : Int32) = 3 then
      g_law_354 sL a0 k85 k304 k328 a2 a3 x4 x5 x9 x10 a11 a12 a13 x15 x16 x17 a18 x19 x20 x21 (-9) x21 σ g
    else
      g_law_354 sL a0 k85 k304 k328 a2 a3 x4 x5 x9 x10 a11 a12 a13 x15 x16 x17 a18 x19 x20 x21 (x19 - x19 / 4 * 4) x21 σ g
noncomputable def g_law_328 (sL : Nat) (a0 : Nat → Int32) (k85 : (Nat → Int32) × Int32 × HS × Nat → Option (Int32)) (k304 : Int32 × Int32 × Int32 × Nat → Option (Int32)) (a2 : Nat → Int32) (a3 : Nat → Int32) (x4 : Int32) (x5 : Int32) (x9 : Int32) (x10 : Int32) (a11 : Nat → Int32) (a12 : Nat → Int32) (a13 : Nat → Int32) (x15 : Int32) (x16 : Int32) (x17 : Int32) (σ : HS) (g : Nat) (p : (Nat → Int32) × Int32 × Int32 × Int32) : Option (Int32) :=
  wloop (fun k328 p => g_law_328_b sL a0 k85 k304 k328 a2 a3 x4 x5 x9 x10 a11 a12 a13 x15 x16 x17 p.1 p.2.1 p.2.2.1 p.2.2.2 σ g) fuelN p
noncomputable def g_law_304_b (sL : Nat) (a0 : Nat → Int32) (k85 : (Nat → Int32) × Int32 × HS × Nat → Option (Int32)) (k304 : Int32 × Int32 × Int32 × Nat → Option (Int32)) (a2 : Nat → Int32) (a3 : Nat → Int32) (x4 : Int32) (x5 : Int32) (x9 : Int32) (x10 : Int32) (a11 : Nat → Int32) (a12 : Nat → Int32) (a13 : Nat → Int32) (x15 : Int32) (x16 : Int32) (x17 : Int32) (σ : HS) (g : Nat) : Option (Int32) :=
  if (x17 : Int32) < 0 then
    bd (f8_together (-1) σ) fun r2 =>
    if (r2.1 : Int32) = x15 then
      bd (f8_together x10 (r2.2)) fun r4 =>
      if (r4.1 : Int32) = (-1) then
        bd (f8_together (-2) (r4.2)) fun r6 =>
        if (r6.1 : Int32) = (-1) then
          g_law_514 sL a0 k85 a2 a3 x4 x5 x9 x10 a11 a12 a13 g (x16, (x10 - 1), r6.2)
        else
          some 0
      else
        some 0
    else
      some 0
  else
    if 80000 ≤ g then none else
    g_law_328 sL a0 k85 k304 a2 a3 x4 x5 x9 x10 a11 a12 a13 x15 x16 x17 σ (g + 1) ((fun _ => 0), x17, 1, (x10 - 1))
noncomputable def g_law_304 (sL : Nat) (a0 : Nat → Int32) (k85 : (Nat → Int32) × Int32 × HS × Nat → Option (Int32)) (a2 : Nat → Int32) (a3 : Nat → Int32) (x4 : Int32) (x5 : Int32) (x9 : Int32) (x10 : Int32) (a11 : Nat → Int32) (a12 : Nat → Int32) (a13 : Nat → Int32) (σ : HS) (p : Int32 × Int32 × Int32 × Nat) : Option (Int32) :=
  wloop (fun k304 p => g_law_304_b sL a0 k85 k304 a2 a3 x4 x5 x9 x10 a11 a12 a13 p.1 p.2.1 p.2.2.1 σ p.2.2.2) fuelN p
noncomputable def g_law_273_b (sL : Nat) (a0 : Nat → Int32) (k85 : (Nat → Int32) × Int32 × HS × Nat → Option (Int32)) (k273 : Int32 × Int32 → Option (Int32)) (a2 : Nat → Int32) (a3 : Nat → Int32) (x4 : Int32) (x5 : Int32) (x9 : Int32) (x10 : Int32) (a11 : Nat → Int32) (a12 : Nat → Int32) (a13 : Nat → Int32) (x14 : Int32) (x15 : Int32) (σ : HS) (g : Nat) : Option (Int32) :=
  if (x10 : Int32) ≤ x15 then
    g_law_304 sL a0 k85 a2 a3 x4 x5 x9 x10 a11 a12 a13 σ ((-1), 0, (x14 - 1), g)
  else
    k273 ((x14 * 4), (x15 + 1))
noncomputable def g_law_273 (sL : Nat) (a0 : Nat → Int32) (k85 : (Nat → Int32) × Int32 × HS × Nat → Option (Int32)) (a2 : Nat → Int32) (a3 : Nat → Int32) (x4 : Int32) (x5 : Int32) (x9 : Int32) (x10 : Int32) (a11 : Nat → Int32) (a12 : Nat → Int32) (a13 : Nat → Int32) (σ : HS) (g : Nat) (p : Int32 × Int32) : Option (Int32) :=
  wloop (fun k273 p => g_law_273_b sL a0 k85 k273 a2 a3 x4 x5 x9 x10 a11 a12 a13 p.1 p.2 σ g) fuelN p
noncomputable def g_law_187 (sL : Nat) (a0 : Nat → Int32) (k85 : (Nat → Int32) × Int32 × HS × Nat → Option (Int32)) (k139 : (Nat → Int32) × Int32 → Option (Int32)) (a2 : Nat → Int32) (a3 : Nat → Int32) (x4 : Int32) (x5 : Int32) (x6 : Int32) (x7 : Int32) (x8 : Int32) (x9 : Int32) (z0 : Int32) (z1 : Int32) (σ : HS) (g : Nat) : Option (Int32) :=
  if (z1 : Int32) < 0 ∨ 44 ≤ (z1 : Int32).toNatClampNeg then none else
  bd (some (upd a2 (z1 : Int32).toNatClampNeg z0)) fun b2 =>
  k139 (b2, (x9 + 1))
noncomputable def g_law_139_b (sL : Nat) (a0 : Nat → Int32) (k85 : (Nat → Int32) × Int32 × HS × Nat → Option (Int32)) (k139 : (Nat → Int32) × Int32 → Option (Int32)) (a2 : Nat → Int32) (a3 : Nat → Int32) (x4 : Int32) (x5 : Int32) (x6 : Int32) (x7 : Int32) (x8 : Int32) (x9 : Int32) (σ : HS) (g : Nat) : Option (Int32) :=
  if (x4 : Int32) ≤ x9 then
    bd (g_low (x6 >>> (6 &&& 31)) 4) fun r2 =>
    bd (f8_law r2 σ) fun r3 =>
    if (r3.1 : Int32) = (a2 (3 : Int32).toNatClampNeg) then
      bd (some (upd a2 (3 : Int32).toNatClampNeg r2)) fun b5 =>
      bd (g_turns b5) fun r6 =>
      if 80000 ≤ g then none else
      if 80000 ≤ (g + 1) then none else
      bd (g_read b5 (fun _ => 0) (fun _ => 0) (r3.2)) fun r9 =>
      if (r9.1 : Int32) = 0 then
        some 0
      else
        bd (g_free b5 a3 (r9.2.2.1) (r9.2.2.2)) fun r11 =>
        if 80000 ≤ ((g + 1) + 1) then none else
        g_law_273 sL a0 k85 b5 a3 x4 x5 r2 r6 (r9.2.2.1) (r9.2.2.2) r11 (r9.2.1) (((g + 1) + 1) + 1) (1, 0)
    else
      some 0
  else
    if ((14 + x9) : Int32) < 0 ∨ 44 ≤ ((14 + x9) : Int32).toNatClampNeg then none else
    if ((a2 ((14 + x9) : Int32).toNatClampNeg) : Int32) = x7 then
      g_law_187 sL a0 k85 k139 a2 a3 x4 x5 x6 x7 x8 x9 x8 (14 + x9) σ g
    else
      if ((a2 ((14 + x9) : Int32).toNatClampNeg) : Int32) = x8 then
        g_law_187 sL a0 k85 k139 a2 a3 x4 x5 x6 x7 x8 x9 x7 (14 + x9) σ g
      else
        g_law_187 sL a0 k85 k139 a2 a3 x4 x5 x6 x7 x8 x9 (a2 ((14 + x9) : Int32).toNatClampNeg) (14 + x9) σ g
noncomputable def g_law_139 (sL : Nat) (a0 : Nat → Int32) (k85 : (Nat → Int32) × Int32 × HS × Nat → Option (Int32)) (a3 : Nat → Int32) (x4 : Int32) (x5 : Int32) (x6 : Int32) (x7 : Int32) (x8 : Int32) (σ : HS) (g : Nat) (p : (Nat → Int32) × Int32) : Option (Int32) :=
  wloop (fun k139 p => g_law_139_b sL a0 k85 k139 p.1 a3 x4 x5 x6 x7 x8 p.2 σ g) fuelN p
noncomputable def g_law_85_b (sL : Nat) (a0 : Nat → Int32) (k85 : (Nat → Int32) × Int32 × HS × Nat → Option (Int32)) (a2 : Nat → Int32) (a3 : Nat → Int32) (x4 : Int32) (x5 : Int32) (σ : HS) (g : Nat) : Option (Int32) :=
  if (2 : Int32) ≤ x5 then
    bd (f8_owed 5 0 σ) fun r2 =>
    if (r2.1 : Int64) = (-9223372036854775808) then
      bd (f8_motion (-1) 0 0 (r2.2)) fun r4 =>
      if (r4.1 : Int32) = (-1) then
        some 1
      else
        g_law_2329 sL a0 (r4.2) g
    else
      g_law_2329 sL a0 (r2.2) g
  else
    bd (g_cell sL a0 (12 + x5)) fun r6 =>
    bd (g_low r6 x4) fun r7 =>
    bd (g_low (r6 >>> (3 &&& 31)) x4) fun r8 =>
    bd (f8_swap r7 r8 σ) fun r9 =>
    if (r9.1 : Int32) = 1 then
      g_law_139 sL a0 k85 a3 x4 x5 r6 r7 r8 (r9.2) g (a2, 0)
    else
      some 0
noncomputable def g_law_85 (sL : Nat) (a0 : Nat → Int32) (a3 : Nat → Int32) (x4 : Int32) (p : (Nat → Int32) × Int32 × HS × Nat) : Option (Int32) :=
  wloop (fun k85 p => g_law_85_b sL a0 k85 p.1 a3 x4 p.2.1 p.2.2.1 p.2.2.2) fuelN p
noncomputable def g_law_66 (sL : Nat) (a0 : Nat → Int32) (a2 : Nat → Int32) (a3 : Nat → Int32) (z0 : Int32) (z1 : Int32) (z2 : Int32) (σ : HS) (g : Nat) : Option (Int32) :=
  bd (g_lay sL a2 a3 a0 z2 z1 z0 σ) fun r1 =>
  if (r1.1 : Int32) = ((r1.2.2.1) (0 : Int32).toNatClampNeg) then
    g_law_85 sL a0 (r1.2.2.2) ((r1.2.2.1) (0 : Int32).toNatClampNeg) (r1.2.2.1, 0, r1.2.1, g)
  else
    some 0
noncomputable def g_law (sL : Nat) (a0 : Nat → Int32) (σ : HS) (g : Nat) : Option (Int32) :=
  if 80000 ≤ g then none else
  if 80000 ≤ (g + 1) then none else
  bd (f8_sheet 0 0 100 σ) fun r3 =>
  if (r3.1 : Int32) = 1 then
    bd (f8_sheet 1 1 7 (r3.2)) fun r5 =>
    if (r5.1 : Int32) = 1 then
      bd (g_cell sL a0 11) fun r7 =>
      if ((r7 &&& 1) : Int32) = 0 then
        g_law_66 sL a0 (fun _ => 0) (fun _ => 0) 60 4 0 (r5.2) ((g + 1) + 1)
      else
        g_law_66 sL a0 (fun _ => 0) (fun _ => 0) 30 4 0 (r5.2) ((g + 1) + 1)
    else
      some 0
  else
    some 0
set_option maxHeartbeats 4000000 in
set_option maxRecDepth 100000 in
theorem G_law_2329 {l : Launch} {ad : Nat → Nat} {q0 : Nat} (sL : Nat) (a0 : Nat → Int32) (σ : HS) (g : Nat) (r : Int32) (h : g_law_2329 sL a0 σ g = some r) : LR l code 45 ret lw_tbl room_1 47 5558 ad [(q0, sL, a0)] (EL r) 2329 [] [] σ [] g := by
  unfold g_law_2329 at h
  refine LR.iconst (pc := 2329) (v := 0) dL_law_2329 (by decide) ?_
  exact LR.fin ⟨congrArg (fun z => [Value.int z]) (Option.some.inj h), dL_law_2330⟩
set_option maxHeartbeats 4000000 in
set_option maxRecDepth 100000 in
theorem G_law_2284 {l : Launch} {ad : Nat → Nat} {q0 : Nat} (sL : Nat) (a0 : Nat → Int32) (k85 : (Nat → Int32) × Int32 × HS × Nat → Option (Int32)) (k2255 : Int32 → Option (Int32)) {q2 : Nat} {q3 : Nat} {q28 : Nat} {q32 : Nat} (a2 : Nat → Int32) (a3 : Nat → Int32) (x4 : Int32) (x5 : Int32) (a28 : Nat → Int32) (x31 : Int32) (a32 : Nat → Int32) (x33 : Int32) (z0 : Int32) (z1 : Int32) (σ : HS) (g : Nat) (hk85 : ∀ (p : (Nat → Int32) × Int32 × HS × Nat) (r : Int32), k85 p = some r → LR l code 45 ret lw_tbl room_1 47 5558 ad [(q0, sL, a0)] (EL r) 85 [(0, .ref q0), (1, .ref (ad 0)), (2, .ref q2), (3, .ref q3), (4, .int x4), (5, .int (p.2.1))] [] (p.2.2.1) [(q2, 44, p.1), (q3, 45, a3)] (p.2.2.2)) (hk2255 : ∀ (p : Int32) (r : Int32), k2255 p = some r → LR l code 45 ret lw_tbl room_1 47 5558 ad [(q0, sL, a0)] (EL r) 2255 [(0, .ref q0), (1, .ref (ad 0)), (2, .ref q2), (3, .ref q3), (4, .int x4), (5, .int x5), (28, .ref q28), (31, .int x31), (32, .ref q32), (33, .int p)] [] σ [(q2, 44, a2), (q3, 45, a3), (q28, 5, a28), (q32, 5, a32)] g) (r : Int32) (h : g_law_2284 sL a0 k85 k2255 a2 a3 x4 x5 a28 x31 a32 x33 z0 z1 σ g = some r) : LR l code 45 ret lw_tbl room_1 47 5558 ad [(q0, sL, a0)] (EL r) 2284 [(0, .ref q0), (1, .ref (ad 0)), (2, .ref q2), (3, .ref q3), (4, .int x4), (5, .int x5), (28, .ref q28), (31, .int x31), (32, .ref q32), (33, .int x33)] [.int z0, .int z1] σ [(q2, 44, a2), (q3, 45, a3), (q28, 5, a28), (q32, 5, a32)] g := by
  unfold g_law_2284 at h
  refine LR.icmp_eq (pc := 2284) (tgt := 2289) dL_law_2284 (by decide) (fun c1 => ?_) (fun c1 => ?_)
  · replace h := ite_t c1 h
    refine LR.iinc (pc := 2289) (j := 9) (v := (x33 + 1)) (L2 := [(33, .int (x33 + 1)), (0, .ref q0), (1, .ref (ad 0)), (2, .ref q2), (3, .ref q3), (4, .int x4), (5, .int x5), (28, .ref q28), (31, .int x31), (32, .ref q32)]) dL_law_2289 rfl rfl (by decide) rfl ?_
    refine LR.goto (pc := 2292) (tgt := 2255) dL_law_2292 (by decide) ?_
    exact LR.pick [1, 2, 3, 4, 5, 6, 7, 8, 9, 0] rfl (hk2255 (x33 + 1) r h)
  · replace h := ite_f c1 h
    refine LR.iconst (pc := 2287) (v := 0) dL_law_2287 (by decide) ?_
    exact LR.fin ⟨congrArg (fun z => [Value.int z]) (Option.some.inj h), dL_law_2288⟩
set_option maxHeartbeats 4000000 in
set_option maxRecDepth 100000 in
theorem G_law_2255_b {l : Launch} {ad : Nat → Nat} {q0 : Nat} (sL : Nat) (a0 : Nat → Int32) (k85 : (Nat → Int32) × Int32 × HS × Nat → Option (Int32)) (k2255 : Int32 → Option (Int32)) {q2 : Nat} {q3 : Nat} {q28 : Nat} {q32 : Nat} (a2 : Nat → Int32) (a3 : Nat → Int32) (x4 : Int32) (x5 : Int32) (a28 : Nat → Int32) (x31 : Int32) (a32 : Nat → Int32) (x33 : Int32) (σ : HS) (g : Nat) (hk85 : ∀ (p : (Nat → Int32) × Int32 × HS × Nat) (r : Int32), k85 p = some r → LR l code 45 ret lw_tbl room_1 47 5558 ad [(q0, sL, a0)] (EL r) 85 [(0, .ref q0), (1, .ref (ad 0)), (2, .ref q2), (3, .ref q3), (4, .int x4), (5, .int (p.2.1))] [] (p.2.2.1) [(q2, 44, p.1), (q3, 45, a3)] (p.2.2.2)) (hk2255 : ∀ (p : Int32) (r : Int32), k2255 p = some r → LR l code 45 ret lw_tbl room_1 47 5558 ad [(q0, sL, a0)] (EL r) 2255 [(0, .ref q0), (1, .ref (ad 0)), (2, .ref q2), (3, .ref q3), (4, .int x4), (5, .int x5), (28, .ref q28), (31, .int x31), (32, .ref q32), (33, .int p)] [] σ [(q2, 44, a2), (q3, 45, a3), (q28, 5, a28), (q32, 5, a32)] g) (r : Int32) (h : g_law_2255_b sL a0 k85 k2255 a2 a3 x4 x5 a28 x31 a32 x33 σ g = some r) : LR l code 45 ret lw_tbl room_1 47 5558 ad [(q0, sL, a0)] (EL r) 2255 [(0, .ref q0), (1, .ref (ad 0)), (2, .ref q2), (3, .ref q3), (4, .int x4), (5, .int x5), (28, .ref q28), (31, .int x31), (32, .ref q32), (33, .int x33)] [] σ [(q2, 44, a2), (q3, 45, a3), (q28, 5, a28), (q32, 5, a32)] g := by
  unfold g_law_2255_b at h
  refine LR.iload (pc := 2255) (j := 9) dL_law_2255 rfl ?_
  refine LR.iload (pc := 2257) (j := 4) dL_law_2257 rfl ?_
  refine LR.icmp_ge (pc := 2259) (tgt := 2295) dL_law_2259 (by decide) (fun c1 => ?_) (fun c1 => ?_)
  · replace h := ite_t c1 h
    refine LR.iinc (pc := 2295) (j := 5) (v := (x5 + 1)) (L2 := [(5, .int (x5 + 1)), (0, .ref q0), (1, .ref (ad 0)), (2, .ref q2), (3, .ref q3), (4, .int x4), (28, .ref q28), (31, .int x31), (32, .ref q32), (33, .int x33)]) dL_law_2295 rfl rfl (by decide) rfl ?_
    refine LR.goto (pc := 2298) (tgt := 85) dL_law_2298 (by decide) ?_
    exact LR.pick [1, 2, 3, 4, 5, 0] rfl (LR.sub (as2 := [(q2, 44, a2), (q3, 45, a3)]) [0, 1] rfl rfl (hk85 (a2, (x5 + 1), σ, g) r h))
  · replace h := ite_f c1 h
    refine LR.aload (pc := 2262) (j := 6) dL_law_2262 rfl ?_
    refine LR.iload (pc := 2264) (j := 9) dL_law_2264 rfl ?_
    obtain ⟨c2, h⟩ := gn_some h
    refine LR.iaload (pc := 2266) (j := 2) dL_law_2266 rfl c2 ?_
    refine LR.iload (pc := 2267) (j := 7) dL_law_2267 rfl ?_
    refine LR.bipush (pc := 2269) (v := 99) dL_law_2269 (by decide) ?_
    refine LR.icmp_ne (pc := 2271) (tgt := 2279) dL_law_2271 (by decide) (fun c3 => ?_) (fun c3 => ?_)
    · replace h := ite_f c3 h
      refine LR.aload (pc := 2279) (j := 8) dL_law_2279 rfl ?_
      refine LR.iload (pc := 2281) (j := 9) dL_law_2281 rfl ?_
      obtain ⟨c4, h⟩ := gn_some h
      refine LR.iaload (pc := 2283) (j := 3) dL_law_2283 rfl c4 ?_
      exact LR.pick [0, 1, 2, 3, 4, 5, 6, 7, 8, 9] rfl (G_law_2284 sL a0 k85 k2255 a2 a3 x4 x5 a28 x31 a32 x33 (a32 (x33 : Int32).toNatClampNeg) (a28 (x33 : Int32).toNatClampNeg) σ g hk85 hk2255 r h)
    · replace h := ite_t c3 h
      refine LR.bipush (pc := 2274) (v := (-9)) dL_law_2274 (by decide) ?_
      refine LR.goto (pc := 2276) (tgt := 2284) dL_law_2276 (by decide) ?_
      exact LR.pick [0, 1, 2, 3, 4, 5, 6, 7, 8, 9] rfl (G_law_2284 sL a0 k85 k2255 a2 a3 x4 x5 a28 x31 a32 x33 (-9) (a28 (x33 : Int32).toNatClampNeg) σ g hk85 hk2255 r h)
theorem G_law_2255 {l : Launch} {ad : Nat → Nat} {q0 : Nat} (sL : Nat) (a0 : Nat → Int32) (k85 : (Nat → Int32) × Int32 × HS × Nat → Option (Int32)) {q2 : Nat} {q3 : Nat} {q28 : Nat} {q32 : Nat} (a2 : Nat → Int32) (a3 : Nat → Int32) (x4 : Int32) (x5 : Int32) (a28 : Nat → Int32) (x31 : Int32) (a32 : Nat → Int32) (σ : HS) (g : Nat) (hk85 : ∀ (p : (Nat → Int32) × Int32 × HS × Nat) (r : Int32), k85 p = some r → LR l code 45 ret lw_tbl room_1 47 5558 ad [(q0, sL, a0)] (EL r) 85 [(0, .ref q0), (1, .ref (ad 0)), (2, .ref q2), (3, .ref q3), (4, .int x4), (5, .int (p.2.1))] [] (p.2.2.1) [(q2, 44, p.1), (q3, 45, a3)] (p.2.2.2)) (p : Int32) (r : Int32) (h : g_law_2255 sL a0 k85 a2 a3 x4 x5 a28 x31 a32 σ g p = some r) : LR l code 45 ret lw_tbl room_1 47 5558 ad [(q0, sL, a0)] (EL r) 2255 [(0, .ref q0), (1, .ref (ad 0)), (2, .ref q2), (3, .ref q3), (4, .int x4), (5, .int x5), (28, .ref q28), (31, .int x31), (32, .ref q32), (33, .int p)] [] σ [(q2, 44, a2), (q3, 45, a3), (q28, 5, a28), (q32, 5, a32)] g := by
  unfold g_law_2255 at h
  exact wloop_run (body := fun k2255 p => g_law_2255_b sL a0 k85 k2255 a2 a3 x4 x5 a28 x31 a32 p σ g) (Q := (fun p r => LR l code 45 ret lw_tbl room_1 47 5558 ad [(q0, sL, a0)] (EL r) 2255 [(0, .ref q0), (1, .ref (ad 0)), (2, .ref q2), (3, .ref q3), (4, .int x4), (5, .int x5), (28, .ref q28), (31, .int x31), (32, .ref q32), (33, .int p)] [] σ [(q2, 44, a2), (q3, 45, a3), (q28, 5, a28), (q32, 5, a32)] g)) (fun k2255 hk2255 p r h => G_law_2255_b sL a0 k85 k2255 a2 a3 x4 x5 a28 x31 a32 p σ g hk85 hk2255 r h) fuelN p r h
set_option maxHeartbeats 4000000 in
set_option maxRecDepth 100000 in
theorem G_law_2239 {l : Launch} {ad : Nat → Nat} {q0 : Nat} (sL : Nat) (a0 : Nat → Int32) (k85 : (Nat → Int32) × Int32 × HS × Nat → Option (Int32)) {q2 : Nat} {q3 : Nat} {q28 : Nat} {q32 : Nat} (a2 : Nat → Int32) (a3 : Nat → Int32) (x4 : Int32) (x5 : Int32) (a28 : Nat → Int32) (x31 : Int32) (a32 : Nat → Int32) (z0 : Int32) (z1 : Int32) (σ : HS) (g : Nat) (hk85 : ∀ (p : (Nat → Int32) × Int32 × HS × Nat) (r : Int32), k85 p = some r → LR l code 45 ret lw_tbl room_1 47 5558 ad [(q0, sL, a0)] (EL r) 85 [(0, .ref q0), (1, .ref (ad 0)), (2, .ref q2), (3, .ref q3), (4, .int x4), (5, .int (p.2.1))] [] (p.2.2.1) [(q2, 44, p.1), (q3, 45, a3)] (p.2.2.2)) (r : Int32) (h : g_law_2239 sL a0 k85 a2 a3 x4 x5 a28 x31 a32 z0 z1 σ g = some r) : LR l code 45 ret lw_tbl room_1 47 5558 ad [(q0, sL, a0)] (EL r) 2239 [(0, .ref q0), (1, .ref (ad 0)), (2, .ref q2), (3, .ref q3), (4, .int x4), (5, .int x5), (28, .ref q28), (31, .int x31), (32, .ref q32)] [.int z0, .int z1] σ [(q2, 44, a2), (q3, 45, a3), (q28, 5, a28), (q32, 5, a32)] g := by
  unfold g_law_2239 at h
  refine LR.icmp_ne (pc := 2239) (tgt := 2250) dL_law_2239 (by decide) (fun c1 => ?_) (fun c1 => ?_)
  · replace h := ite_f c1 h
    refine LR.iconst (pc := 2250) (v := 0) dL_law_2250 (by decide) ?_
    exact LR.fin ⟨congrArg (fun z => [Value.int z]) (Option.some.inj h), dL_law_2251⟩
  · replace h := ite_t c1 h
    refine LR.aload_n (pc := 2242) (j := 1) dL_law_2242 rfl rfl ?_
    refine LR.iconst (pc := 2243) (v := 5) dL_law_2243 (by decide) ?_
    obtain ⟨r2, h2, h⟩ := bd_some h
    refine LR.callV (pc := 2244) (As := [.int 5]) (st := []) (ci := 8) dL_law_2244 ⟨cd_X8_many, im_X8_many, se_X8_many, ini_X8⟩ ml_L_113 (A8_many 5 σ _ h2) rfl rfl ⟨rfl, pd_X8_many⟩ ⟨Nat.le_of_ble_eq_true rfl, Nat.le_of_ble_eq_true rfl⟩ ⟨rfl, rfl⟩ rfl rfl rfl (Nat.le_of_ble_eq_true rfl) ?_
    refine LR.if_eq (pc := 2247) (tgt := 2252) dL_law_2247 (by decide) (fun c3 => ?_) (fun c3 => ?_)
    · replace h := ite_t c3 h
      refine LR.iconst (pc := 2252) (v := 0) dL_law_2252 (by decide) ?_
      refine LR.istore (pc := 2253) (L2 := [(33, .int 0), (0, .ref q0), (1, .ref (ad 0)), (2, .ref q2), (3, .ref q3), (4, .int x4), (5, .int x5), (28, .ref q28), (31, .int x31), (32, .ref q32)]) dL_law_2253 (by decide) rfl ?_
      exact LR.pick [1, 2, 3, 4, 5, 6, 7, 8, 9, 0] rfl (G_law_2255 sL a0 k85 a2 a3 x4 x5 a28 x31 a32 (r2.2) g hk85 0 r h)
    · replace h := ite_f c3 h
      refine LR.iconst (pc := 2250) (v := 0) dL_law_2250 (by decide) ?_
      exact LR.fin ⟨congrArg (fun z => [Value.int z]) (Option.some.inj h), dL_law_2251⟩
set_option maxHeartbeats 4000000 in
set_option maxRecDepth 100000 in
theorem G_law_2217 {l : Launch} {ad : Nat → Nat} {q0 : Nat} (sL : Nat) (a0 : Nat → Int32) (k85 : (Nat → Int32) × Int32 × HS × Nat → Option (Int32)) (k1918 : (Nat → Int32) × Int32 × (Nat → Int32) × Int32 × HS × Nat → Option (Int32)) {q2 : Nat} {q3 : Nat} {q28 : Nat} {q30 : Nat} {q32 : Nat} (a2 : Nat → Int32) (a3 : Nat → Int32) (x4 : Int32) (x5 : Int32) (x10 : Int32) (x25 : Int32) (x26 : Int32) (x27 : Int32) (a28 : Nat → Int32) (x29 : Int32) (a30 : Nat → Int32) (x31 : Int32) (a32 : Nat → Int32) (x33 : Int32) (σ : HS) (g : Nat) (hk85 : ∀ (p : (Nat → Int32) × Int32 × HS × Nat) (r : Int32), k85 p = some r → LR l code 45 ret lw_tbl room_1 47 5558 ad [(q0, sL, a0)] (EL r) 85 [(0, .ref q0), (1, .ref (ad 0)), (2, .ref q2), (3, .ref q3), (4, .int x4), (5, .int (p.2.1))] [] (p.2.2.1) [(q2, 44, p.1), (q3, 45, a3)] (p.2.2.2)) (hk1918 : ∀ (q32 : Nat) (p : (Nat → Int32) × Int32 × (Nat → Int32) × Int32 × HS × Nat) (r : Int32), k1918 p = some r → LR l code 45 ret lw_tbl room_1 47 5558 ad [(q0, sL, a0)] (EL r) 1918 [(0, .ref q0), (1, .ref (ad 0)), (2, .ref q2), (3, .ref q3), (4, .int x4), (5, .int x5), (10, .int x10), (25, .int x25), (26, .int x26), (27, .int x27), (28, .ref q28), (29, .int x29), (30, .ref q30), (31, .int (p.2.1)), (32, .ref q32), (33, .int (p.2.2.2.1))] [] (p.2.2.2.2.1) [(q2, 44, p.1), (q3, 45, a3), (q28, 5, a28), (q30, 5, a30), (q32, 5, p.2.2.1)] (p.2.2.2.2.2)) (r : Int32) (h : g_law_2217 sL a0 k85 k1918 a2 a3 x4 x5 x10 x25 x26 x27 a28 x29 a30 x31 a32 x33 σ g = some r) : LR l code 45 ret lw_tbl room_1 47 5558 ad [(q0, sL, a0)] (EL r) 2217 [(0, .ref q0), (1, .ref (ad 0)), (2, .ref q2), (3, .ref q3), (4, .int x4), (5, .int x5), (10, .int x10), (25, .int x25), (26, .int x26), (27, .int x27), (28, .ref q28), (29, .int x29), (30, .ref q30), (31, .int x31), (32, .ref q32), (33, .int x33)] [] σ [(q2, 44, a2), (q3, 45, a3), (q28, 5, a28), (q30, 5, a30), (q32, 5, a32)] g := by
  unfold g_law_2217 at h
  refine LR.iinc (pc := 2217) (j := 15) (v := (x33 + (-1))) (L2 := [(33, .int (x33 + (-1))), (0, .ref q0), (1, .ref (ad 0)), (2, .ref q2), (3, .ref q3), (4, .int x4), (5, .int x5), (10, .int x10), (25, .int x25), (26, .int x26), (27, .int x27), (28, .ref q28), (29, .int x29), (30, .ref q30), (31, .int x31), (32, .ref q32)]) dL_law_2217 rfl rfl (by decide) rfl ?_
  refine LR.goto (pc := 2220) (tgt := 1918) dL_law_2220 (by decide) ?_
  exact LR.pick [1, 2, 3, 4, 5, 6, 7, 8, 9, 10, 11, 12, 13, 14, 15, 0] rfl (hk1918 q32 (a2, x31, a32, (x33 + (-1)), σ, g) r h)
set_option maxHeartbeats 4000000 in
set_option maxRecDepth 100000 in
theorem G_law_2189 {l : Launch} {ad : Nat → Nat} {q0 : Nat} (sL : Nat) (a0 : Nat → Int32) (k85 : (Nat → Int32) × Int32 × HS × Nat → Option (Int32)) (k1918 : (Nat → Int32) × Int32 × (Nat → Int32) × Int32 × HS × Nat → Option (Int32)) (k2150 : Int32 × Int32 × HS → Option (Int32)) {q2 : Nat} {q3 : Nat} {q28 : Nat} {q30 : Nat} {q32 : Nat} {q38 : Nat} (a2 : Nat → Int32) (a3 : Nat → Int32) (x4 : Int32) (x5 : Int32) (x10 : Int32) (x25 : Int32) (x26 : Int32) (x27 : Int32) (a28 : Nat → Int32) (x29 : Int32) (a30 : Nat → Int32) (x31 : Int32) (a32 : Nat → Int32) (x33 : Int32) (x37 : Int32) (a38 : Nat → Int32) (x40 : Int32) (z0 : Int32) (σ : HS) (g : Nat) (hk85 : ∀ (p : (Nat → Int32) × Int32 × HS × Nat) (r : Int32), k85 p = some r → LR l code 45 ret lw_tbl room_1 47 5558 ad [(q0, sL, a0)] (EL r) 85 [(0, .ref q0), (1, .ref (ad 0)), (2, .ref q2), (3, .ref q3), (4, .int x4), (5, .int (p.2.1))] [] (p.2.2.1) [(q2, 44, p.1), (q3, 45, a3)] (p.2.2.2)) (hk1918 : ∀ (q32 : Nat) (p : (Nat → Int32) × Int32 × (Nat → Int32) × Int32 × HS × Nat) (r : Int32), k1918 p = some r → LR l code 45 ret lw_tbl room_1 47 5558 ad [(q0, sL, a0)] (EL r) 1918 [(0, .ref q0), (1, .ref (ad 0)), (2, .ref q2), (3, .ref q3), (4, .int x4), (5, .int x5), (10, .int x10), (25, .int x25), (26, .int x26), (27, .int x27), (28, .ref q28), (29, .int x29), (30, .ref q30), (31, .int (p.2.1)), (32, .ref q32), (33, .int (p.2.2.2.1))] [] (p.2.2.2.2.1) [(q2, 44, p.1), (q3, 45, a3), (q28, 5, a28), (q30, 5, a30), (q32, 5, p.2.2.1)] (p.2.2.2.2.2)) (hk2150 : ∀ (p : Int32 × Int32 × HS) (r : Int32), k2150 p = some r → LR l code 45 ret lw_tbl room_1 47 5558 ad [(q0, sL, a0)] (EL r) 2150 [(0, .ref q0), (1, .ref (ad 0)), (2, .ref q2), (3, .ref q3), (4, .int x4), (5, .int x5), (10, .int x10), (25, .int x25), (26, .int x26), (27, .int x27), (28, .ref q28), (29, .int x29), (30, .ref q30), (31, .int x31), (32, .ref q32), (33, .int x33), (37, .int x37), (38, .ref q38), (39, .int (p.1)), (40, .int (p.2.1))] [] (p.2.2) [(q2, 44, a2), (q3, 45, a3), (q28, 5, a28), (q30, 5, a30), (q32, 5, a32), (q38, 5, a38)] g) (r : Int32) (h : g_law_2189 sL a0 k85 k1918 k2150 a2 a3 x4 x5 x10 x25 x26 x27 a28 x29 a30 x31 a32 x33 x37 a38 x40 z0 σ g = some r) : LR l code 45 ret lw_tbl room_1 47 5558 ad [(q0, sL, a0)] (EL r) 2189 [(0, .ref q0), (1, .ref (ad 0)), (2, .ref q2), (3, .ref q3), (4, .int x4), (5, .int x5), (10, .int x10), (25, .int x25), (26, .int x26), (27, .int x27), (28, .ref q28), (29, .int x29), (30, .ref q30), (31, .int x31), (32, .ref q32), (33, .int x33), (37, .int x37), (38, .ref q38), (40, .int x40)] [.int z0] σ [(q2, 44, a2), (q3, 45, a3), (q28, 5, a28), (q30, 5, a30), (q32, 5, a32), (q38, 5, a38)] g := by
  unfold g_law_2189 at h
  refine LR.istore (pc := 2189) (L2 := [(39, .int z0), (0, .ref q0), (1, .ref (ad 0)), (2, .ref q2), (3, .ref q3), (4, .int x4), (5, .int x5), (10, .int x10), (25, .int x25), (26, .int x26), (27, .int x27), (28, .ref q28), (29, .int x29), (30, .ref q30), (31, .int x31), (32, .ref q32), (33, .int x33), (37, .int x37), (38, .ref q38), (40, .int x40)]) dL_law_2189 (by decide) rfl ?_
  refine LR.iinc (pc := 2191) (j := 19) (v := (x40 + 1)) (L2 := [(40, .int (x40 + 1)), (39, .int z0), (0, .ref q0), (1, .ref (ad 0)), (2, .ref q2), (3, .ref q3), (4, .int x4), (5, .int x5), (10, .int x10), (25, .int x25), (26, .int x26), (27, .int x27), (28, .ref q28), (29, .int x29), (30, .ref q30), (31, .int x31), (32, .ref q32), (33, .int x33), (37, .int x37), (38, .ref q38)]) dL_law_2191 rfl rfl (by decide) rfl ?_
  refine LR.goto (pc := 2194) (tgt := 2150) dL_law_2194 (by decide) ?_
  exact LR.pick [2, 3, 4, 5, 6, 7, 8, 9, 10, 11, 12, 13, 14, 15, 16, 17, 18, 19, 1, 0] rfl (hk2150 (z0, (x40 + 1), σ) r h)
set_option maxHeartbeats 4000000 in
set_option maxRecDepth 100000 in
theorem G_law_2184 {l : Launch} {ad : Nat → Nat} {q0 : Nat} (sL : Nat) (a0 : Nat → Int32) (k85 : (Nat → Int32) × Int32 × HS × Nat → Option (Int32)) (k1918 : (Nat → Int32) × Int32 × (Nat → Int32) × Int32 × HS × Nat → Option (Int32)) (k2150 : Int32 × Int32 × HS → Option (Int32)) {q2 : Nat} {q3 : Nat} {q28 : Nat} {q30 : Nat} {q32 : Nat} {q38 : Nat} (a2 : Nat → Int32) (a3 : Nat → Int32) (x4 : Int32) (x5 : Int32) (x10 : Int32) (x25 : Int32) (x26 : Int32) (x27 : Int32) (a28 : Nat → Int32) (x29 : Int32) (a30 : Nat → Int32) (x31 : Int32) (a32 : Nat → Int32) (x33 : Int32) (x37 : Int32) (a38 : Nat → Int32) (x40 : Int32) (σ : HS) (g : Nat) (hk85 : ∀ (p : (Nat → Int32) × Int32 × HS × Nat) (r : Int32), k85 p = some r → LR l code 45 ret lw_tbl room_1 47 5558 ad [(q0, sL, a0)] (EL r) 85 [(0, .ref q0), (1, .ref (ad 0)), (2, .ref q2), (3, .ref q3), (4, .int x4), (5, .int (p.2.1))] [] (p.2.2.1) [(q2, 44, p.1), (q3, 45, a3)] (p.2.2.2)) (hk1918 : ∀ (q32 : Nat) (p : (Nat → Int32) × Int32 × (Nat → Int32) × Int32 × HS × Nat) (r : Int32), k1918 p = some r → LR l code 45 ret lw_tbl room_1 47 5558 ad [(q0, sL, a0)] (EL r) 1918 [(0, .ref q0), (1, .ref (ad 0)), (2, .ref q2), (3, .ref q3), (4, .int x4), (5, .int x5), (10, .int x10), (25, .int x25), (26, .int x26), (27, .int x27), (28, .ref q28), (29, .int x29), (30, .ref q30), (31, .int (p.2.1)), (32, .ref q32), (33, .int (p.2.2.2.1))] [] (p.2.2.2.2.1) [(q2, 44, p.1), (q3, 45, a3), (q28, 5, a28), (q30, 5, a30), (q32, 5, p.2.2.1)] (p.2.2.2.2.2)) (hk2150 : ∀ (p : Int32 × Int32 × HS) (r : Int32), k2150 p = some r → LR l code 45 ret lw_tbl room_1 47 5558 ad [(q0, sL, a0)] (EL r) 2150 [(0, .ref q0), (1, .ref (ad 0)), (2, .ref q2), (3, .ref q3), (4, .int x4), (5, .int x5), (10, .int x10), (25, .int x25), (26, .int x26), (27, .int x27), (28, .ref q28), (29, .int x29), (30, .ref q30), (31, .int x31), (32, .ref q32), (33, .int x33), (37, .int x37), (38, .ref q38), (39, .int (p.1)), (40, .int (p.2.1))] [] (p.2.2) [(q2, 44, a2), (q3, 45, a3), (q28, 5, a28), (q30, 5, a30), (q32, 5, a32), (q38, 5, a38)] g) (r : Int32) (h : g_law_2184 sL a0 k85 k1918 k2150 a2 a3 x4 x5 x10 x25 x26 x27 a28 x29 a30 x31 a32 x33 x37 a38 x40 σ g = some r) : LR l code 45 ret lw_tbl room_1 47 5558 ad [(q0, sL, a0)] (EL r) 2184 [(0, .ref q0), (1, .ref (ad 0)), (2, .ref q2), (3, .ref q3), (4, .int x4), (5, .int x5), (10, .int x10), (25, .int x25), (26, .int x26), (27, .int x27), (28, .ref q28), (29, .int x29), (30, .ref q30), (31, .int x31), (32, .ref q32), (33, .int x33), (37, .int x37), (38, .ref q38), (40, .int x40)] [] σ [(q2, 44, a2), (q3, 45, a3), (q28, 5, a28), (q30, 5, a30), (q32, 5, a32), (q38, 5, a38)] g := by
  unfold g_law_2184 at h
  refine LR.iconst (pc := 2184) (v := 1) dL_law_2184 (by decide) ?_
  refine LR.goto (pc := 2185) (tgt := 2189) dL_law_2185 (by decide) ?_
  exact LR.pick [0, 1, 2, 3, 4, 5, 6, 7, 8, 9, 10, 11, 12, 13, 14, 15, 16, 17, 18] rfl (G_law_2189 sL a0 k85 k1918 k2150 a2 a3 x4 x5 x10 x25 x26 x27 a28 x29 a30 x31 a32 x33 x37 a38 x40 1 σ g hk85 hk1918 hk2150 r h)
set_option maxHeartbeats 4000000 in
set_option maxRecDepth 100000 in
theorem G_law_2188 {l : Launch} {ad : Nat → Nat} {q0 : Nat} (sL : Nat) (a0 : Nat → Int32) (k85 : (Nat → Int32) × Int32 × HS × Nat → Option (Int32)) (k1918 : (Nat → Int32) × Int32 × (Nat → Int32) × Int32 × HS × Nat → Option (Int32)) (k2150 : Int32 × Int32 × HS → Option (Int32)) {q2 : Nat} {q3 : Nat} {q28 : Nat} {q30 : Nat} {q32 : Nat} {q38 : Nat} (a2 : Nat → Int32) (a3 : Nat → Int32) (x4 : Int32) (x5 : Int32) (x10 : Int32) (x25 : Int32) (x26 : Int32) (x27 : Int32) (a28 : Nat → Int32) (x29 : Int32) (a30 : Nat → Int32) (x31 : Int32) (a32 : Nat → Int32) (x33 : Int32) (x37 : Int32) (a38 : Nat → Int32) (x40 : Int32) (σ : HS) (g : Nat) (hk85 : ∀ (p : (Nat → Int32) × Int32 × HS × Nat) (r : Int32), k85 p = some r → LR l code 45 ret lw_tbl room_1 47 5558 ad [(q0, sL, a0)] (EL r) 85 [(0, .ref q0), (1, .ref (ad 0)), (2, .ref q2), (3, .ref q3), (4, .int x4), (5, .int (p.2.1))] [] (p.2.2.1) [(q2, 44, p.1), (q3, 45, a3)] (p.2.2.2)) (hk1918 : ∀ (q32 : Nat) (p : (Nat → Int32) × Int32 × (Nat → Int32) × Int32 × HS × Nat) (r : Int32), k1918 p = some r → LR l code 45 ret lw_tbl room_1 47 5558 ad [(q0, sL, a0)] (EL r) 1918 [(0, .ref q0), (1, .ref (ad 0)), (2, .ref q2), (3, .ref q3), (4, .int x4), (5, .int x5), (10, .int x10), (25, .int x25), (26, .int x26), (27, .int x27), (28, .ref q28), (29, .int x29), (30, .ref q30), (31, .int (p.2.1)), (32, .ref q32), (33, .int (p.2.2.2.1))] [] (p.2.2.2.2.1) [(q2, 44, p.1), (q3, 45, a3), (q28, 5, a28), (q30, 5, a30), (q32, 5, p.2.2.1)] (p.2.2.2.2.2)) (hk2150 : ∀ (p : Int32 × Int32 × HS) (r : Int32), k2150 p = some r → LR l code 45 ret lw_tbl room_1 47 5558 ad [(q0, sL, a0)] (EL r) 2150 [(0, .ref q0), (1, .ref (ad 0)), (2, .ref q2), (3, .ref q3), (4, .int x4), (5, .int x5), (10, .int x10), (25, .int x25), (26, .int x26), (27, .int x27), (28, .ref q28), (29, .int x29), (30, .ref q30), (31, .int x31), (32, .ref q32), (33, .int x33), (37, .int x37), (38, .ref q38), (39, .int (p.1)), (40, .int (p.2.1))] [] (p.2.2) [(q2, 44, a2), (q3, 45, a3), (q28, 5, a28), (q30, 5, a30), (q32, 5, a32), (q38, 5, a38)] g) (r : Int32) (h : g_law_2188 sL a0 k85 k1918 k2150 a2 a3 x4 x5 x10 x25 x26 x27 a28 x29 a30 x31 a32 x33 x37 a38 x40 σ g = some r) : LR l code 45 ret lw_tbl room_1 47 5558 ad [(q0, sL, a0)] (EL r) 2188 [(0, .ref q0), (1, .ref (ad 0)), (2, .ref q2), (3, .ref q3), (4, .int x4), (5, .int x5), (10, .int x10), (25, .int x25), (26, .int x26), (27, .int x27), (28, .ref q28), (29, .int x29), (30, .ref q30), (31, .int x31), (32, .ref q32), (33, .int x33), (37, .int x37), (38, .ref q38), (40, .int x40)] [] σ [(q2, 44, a2), (q3, 45, a3), (q28, 5, a28), (q30, 5, a30), (q32, 5, a32), (q38, 5, a38)] g := by
  unfold g_law_2188 at h
  refine LR.iconst (pc := 2188) (v := 0) dL_law_2188 (by decide) ?_
  exact LR.pick [0, 1, 2, 3, 4, 5, 6, 7, 8, 9, 10, 11, 12, 13, 14, 15, 16, 17, 18] rfl (G_law_2189 sL a0 k85 k1918 k2150 a2 a3 x4 x5 x10 x25 x26 x27 a28 x29 a30 x31 a32 x33 x37 a38 x40 0 σ g hk85 hk1918 hk2150 r h)
set_option maxHeartbeats 4000000 in
set_option maxRecDepth 100000 in
theorem G_law_2150_b {l : Launch} {ad : Nat → Nat} {q0 : Nat} (sL : Nat) (a0 : Nat → Int32) (k85 : (Nat → Int32) × Int32 × HS × Nat → Option (Int32)) (k1918 : (Nat → Int32) × Int32 × (Nat → Int32) × Int32 × HS × Nat → Option (Int32)) (k2150 : Int32 × Int32 × HS → Option (Int32)) {q2 : Nat} {q3 : Nat} {q28 : Nat} {q30 : Nat} {q32 : Nat} {q38 : Nat} (a2 : Nat → Int32) (a3 : Nat → Int32) (x4 : Int32) (x5 : Int32) (x10 : Int32) (x25 : Int32) (x26 : Int32) (x27 : Int32) (a28 : Nat → Int32) (x29 : Int32) (a30 : Nat → Int32) (x31 : Int32) (a32 : Nat → Int32) (x33 : Int32) (x37 : Int32) (a38 : Nat → Int32) (x39 : Int32) (x40 : Int32) (σ : HS) (g : Nat) (hk85 : ∀ (p : (Nat → Int32) × Int32 × HS × Nat) (r : Int32), k85 p = some r → LR l code 45 ret lw_tbl room_1 47 5558 ad [(q0, sL, a0)] (EL r) 85 [(0, .ref q0), (1, .ref (ad 0)), (2, .ref q2), (3, .ref q3), (4, .int x4), (5, .int (p.2.1))] [] (p.2.2.1) [(q2, 44, p.1), (q3, 45, a3)] (p.2.2.2)) (hk1918 : ∀ (q32 : Nat) (p : (Nat → Int32) × Int32 × (Nat → Int32) × Int32 × HS × Nat) (r : Int32), k1918 p = some r → LR l code 45 ret lw_tbl room_1 47 5558 ad [(q0, sL, a0)] (EL r) 1918 [(0, .ref q0), (1, .ref (ad 0)), (2, .ref q2), (3, .ref q3), (4, .int x4), (5, .int x5), (10, .int x10), (25, .int x25), (26, .int x26), (27, .int x27), (28, .ref q28), (29, .int x29), (30, .ref q30), (31, .int (p.2.1)), (32, .ref q32), (33, .int (p.2.2.2.1))] [] (p.2.2.2.2.1) [(q2, 44, p.1), (q3, 45, a3), (q28, 5, a28), (q30, 5, a30), (q32, 5, p.2.2.1)] (p.2.2.2.2.2)) (hk2150 : ∀ (p : Int32 × Int32 × HS) (r : Int32), k2150 p = some r → LR l code 45 ret lw_tbl room_1 47 5558 ad [(q0, sL, a0)] (EL r) 2150 [(0, .ref q0), (1, .ref (ad 0)), (2, .ref q2), (3, .ref q3), (4, .int x4), (5, .int x5), (10, .int x10), (25, .int x25), (26, .int x26), (27, .int x27), (28, .ref q28), (29, .int x29), (30, .ref q30), (31, .int x31), (32, .ref q32), (33, .int x33), (37, .int x37), (38, .ref q38), (39, .int (p.1)), (40, .int (p.2.1))] [] (p.2.2) [(q2, 44, a2), (q3, 45, a3), (q28, 5, a28), (q30, 5, a30), (q32, 5, a32), (q38, 5, a38)] g) (r : Int32) (h : g_law_2150_b sL a0 k85 k1918 k2150 a2 a3 x4 x5 x10 x25 x26 x27 a28 x29 a30 x31 a32 x33 x37 a38 x39 x40 σ g = some r) : LR l code 45 ret lw_tbl room_1 47 5558 ad [(q0, sL, a0)] (EL r) 2150 [(0, .ref q0), (1, .ref (ad 0)), (2, .ref q2), (3, .ref q3), (4, .int x4), (5, .int x5), (10, .int x10), (25, .int x25), (26, .int x26), (27, .int x27), (28, .ref q28), (29, .int x29), (30, .ref q30), (31, .int x31), (32, .ref q32), (33, .int x33), (37, .int x37), (38, .ref q38), (39, .int x39), (40, .int x40)] [] σ [(q2, 44, a2), (q3, 45, a3), (q28, 5, a28), (q30, 5, a30), (q32, 5, a32), (q38, 5, a38)] g := by
  unfold g_law_2150_b at h
  refine LR.iload (pc := 2150) (j := 19) dL_law_2150 rfl ?_
  refine LR.iload (pc := 2152) (j := 6) dL_law_2152 rfl ?_
  refine LR.icmp_ge (pc := 2154) (tgt := 2197) dL_law_2154 (by decide) (fun c1 => ?_) (fun c1 => ?_)
  · replace h := ite_t c1 h
    refine LR.iload (pc := 2197) (j := 18) dL_law_2197 rfl ?_
    refine LR.if_eq (pc := 2199) (tgt := 2217) dL_law_2199 (by decide) (fun c2 => ?_) (fun c2 => ?_)
    · replace h := ite_t c2 h
      exact LR.pick [0, 1, 2, 3, 4, 5, 6, 7, 8, 9, 10, 11, 12, 13, 14, 15] rfl (LR.sub (as2 := [(q2, 44, a2), (q3, 45, a3), (q28, 5, a28), (q30, 5, a30), (q32, 5, a32)]) [0, 1, 2, 3, 4] rfl rfl (G_law_2217 sL a0 k85 k1918 a2 a3 x4 x5 x10 x25 x26 x27 a28 x29 a30 x31 a32 x33 σ g hk85 hk1918 r h))
    · replace h := ite_f c2 h
      refine LR.iload (pc := 2202) (j := 16) dL_law_2202 rfl ?_
      refine LR.iload (pc := 2204) (j := 13) dL_law_2204 rfl ?_
      refine LR.icmp_gt (pc := 2206) (tgt := 2217) dL_law_2206 (by decide) (fun c3 => ?_) (fun c3 => ?_)
      · replace h := ite_t c3 h
        exact LR.pick [0, 1, 2, 3, 4, 5, 6, 7, 8, 9, 10, 11, 12, 13, 14, 15] rfl (LR.sub (as2 := [(q2, 44, a2), (q3, 45, a3), (q28, 5, a28), (q30, 5, a30), (q32, 5, a32)]) [0, 1, 2, 3, 4] rfl rfl (G_law_2217 sL a0 k85 k1918 a2 a3 x4 x5 x10 x25 x26 x27 a28 x29 a30 x31 a32 x33 σ g hk85 hk1918 r h))
      · replace h := ite_f c3 h
        refine LR.iload (pc := 2209) (j := 16) dL_law_2209 rfl ?_
        refine LR.istore (pc := 2211) (L2 := [(31, .int x37), (0, .ref q0), (1, .ref (ad 0)), (2, .ref q2), (3, .ref q3), (4, .int x4), (5, .int x5), (10, .int x10), (25, .int x25), (26, .int x26), (27, .int x27), (28, .ref q28), (29, .int x29), (30, .ref q30), (32, .ref q32), (33, .int x33), (37, .int x37), (38, .ref q38), (39, .int x39), (40, .int x40)]) dL_law_2211 (by decide) rfl ?_
        refine LR.aload (pc := 2213) (j := 17) dL_law_2213 rfl ?_
        refine LR.astore (pc := 2215) (L2 := [(32, .ref q38), (31, .int x37), (0, .ref q0), (1, .ref (ad 0)), (2, .ref q2), (3, .ref q3), (4, .int x4), (5, .int x5), (10, .int x10), (25, .int x25), (26, .int x26), (27, .int x27), (28, .ref q28), (29, .int x29), (30, .ref q30), (33, .int x33), (37, .int x37), (38, .ref q38), (39, .int x39), (40, .int x40)]) dL_law_2215 (by decide) rfl ?_
        exact LR.pick [2, 3, 4, 5, 6, 7, 8, 9, 10, 11, 12, 13, 14, 1, 0, 15] rfl (LR.sub (as2 := [(q2, 44, a2), (q3, 45, a3), (q28, 5, a28), (q30, 5, a30), (q38, 5, a38)]) [0, 1, 2, 3, 5] rfl rfl (G_law_2217 sL a0 k85 k1918 a2 a3 x4 x5 x10 x25 x26 x27 a28 x29 a30 x37 a38 x33 σ g hk85 hk1918 r h))
  · replace h := ite_f c1 h
    refine LR.iload (pc := 2157) (j := 18) dL_law_2157 rfl ?_
    refine LR.if_ne (pc := 2159) (tgt := 2184) dL_law_2159 (by decide) (fun c4 => ?_) (fun c4 => ?_)
    · replace h := ite_f c4 h
      exact LR.pick [0, 1, 2, 3, 4, 5, 6, 7, 8, 9, 10, 11, 12, 13, 14, 15, 16, 17, 19] rfl (G_law_2184 sL a0 k85 k1918 k2150 a2 a3 x4 x5 x10 x25 x26 x27 a28 x29 a30 x31 a32 x33 x37 a38 x40 σ g hk85 hk1918 hk2150 r h)
    · replace h := ite_t c4 h
      refine LR.aload_n (pc := 2162) (j := 2) dL_law_2162 rfl rfl ?_
      refine LR.iload (pc := 2163) (j := 19) dL_law_2163 rfl ?_
      obtain ⟨r5, h5, h⟩ := bd_some h
      refine LR.callS0 (pc := 2165) (As := [.ref q2, .int x40]) (st := []) (as2 := []) (asR := [(q2, 44, a2), (q3, 45, a3), (q28, 5, a28), (q30, 5, a30), (q32, 5, a32), (q38, 5, a38)]) (ro2 := [(q2, 44, a2)]) (mg := 0) (FIN := (FI σ r5)) [] [0, 1, 2, 3, 4, 5] dL_law_2165 ⟨cd_L_who, sm_L_who, ini_L⟩ ml_L_33 (G_who a2 x40 r5 h5) ⟨rfl, pd_L_who⟩ ⟨Nat.le_of_ble_eq_true rfl, Nat.le_of_ble_eq_true rfl⟩ ⟨rfl, rfl⟩ rfl rfl rfl rfl rfl (by decide) (Or.inr ⟨[0], rfl, by decide⟩) rfl (Nat.le_of_ble_eq_true rfl) (fun v9 σ9 as9 hF9 => ?_)
      obtain ⟨rfl, e9, rfl⟩ := hF9; replace e9 := e9.symm; subst e9
      show LR l code 45 ret lw_tbl room_1 47 5558 ad [(q0, sL, a0)] (EL r) 2168 [(0, .ref q0), (1, .ref (ad 0)), (2, .ref q2), (3, .ref q3), (4, .int x4), (5, .int x5), (10, .int x10), (25, .int x25), (26, .int x26), (27, .int x27), (28, .ref q28), (29, .int x29), (30, .ref q30), (31, .int x31), (32, .ref q32), (33, .int x33), (37, .int x37), (38, .ref q38), (39, .int x39), (40, .int x40)] [.int r5] σ [(q2, 44, a2), (q3, 45, a3), (q28, 5, a28), (q30, 5, a30), (q32, 5, a32), (q38, 5, a38)] g
      refine LR.iload (pc := 2168) (j := 7) dL_law_2168 rfl ?_
      refine LR.icmp_ne (pc := 2170) (tgt := 2188) dL_law_2170 (by decide) (fun c6 => ?_) (fun c6 => ?_)
      · replace h := ite_f c6 h
        exact LR.pick [0, 1, 2, 3, 4, 5, 6, 7, 8, 9, 10, 11, 12, 13, 14, 15, 16, 17, 19] rfl (G_law_2188 sL a0 k85 k1918 k2150 a2 a3 x4 x5 x10 x25 x26 x27 a28 x29 a30 x31 a32 x33 x37 a38 x40 σ g hk85 hk1918 hk2150 r h)
      · replace h := ite_t c6 h
        refine LR.aload_n (pc := 2173) (j := 1) dL_law_2173 rfl rfl ?_
        refine LR.iload (pc := 2174) (j := 19) dL_law_2174 rfl ?_
        obtain ⟨r7, h7, h⟩ := bd_some h
        refine LR.callV (pc := 2176) (As := [.int x40]) (st := []) (ci := 8) dL_law_2176 ⟨cd_X8_says, im_X8_says, se_X8_says, ini_X8⟩ ml_L_127 (A8_says x40 σ _ h7) rfl rfl ⟨rfl, pd_X8_says⟩ ⟨Nat.le_of_ble_eq_true rfl, Nat.le_of_ble_eq_true rfl⟩ ⟨rfl, rfl⟩ rfl rfl rfl (Nat.le_of_ble_eq_true rfl) ?_
        refine LR.iload (pc := 2179) (j := 8) dL_law_2179 rfl ?_
        refine LR.icmp_ne (pc := 2181) (tgt := 2188) dL_law_2181 (by decide) (fun c8 => ?_) (fun c8 => ?_)
        · replace h := ite_f c8 h
          exact LR.pick [0, 1, 2, 3, 4, 5, 6, 7, 8, 9, 10, 11, 12, 13, 14, 15, 16, 17, 19] rfl (G_law_2188 sL a0 k85 k1918 k2150 a2 a3 x4 x5 x10 x25 x26 x27 a28 x29 a30 x31 a32 x33 x37 a38 x40 (r7.2) g hk85 hk1918 hk2150 r h)
        · replace h := ite_t c8 h
          exact LR.pick [0, 1, 2, 3, 4, 5, 6, 7, 8, 9, 10, 11, 12, 13, 14, 15, 16, 17, 19] rfl (G_law_2184 sL a0 k85 k1918 k2150 a2 a3 x4 x5 x10 x25 x26 x27 a28 x29 a30 x31 a32 x33 x37 a38 x40 (r7.2) g hk85 hk1918 hk2150 r h)
theorem G_law_2150 {l : Launch} {ad : Nat → Nat} {q0 : Nat} (sL : Nat) (a0 : Nat → Int32) (k85 : (Nat → Int32) × Int32 × HS × Nat → Option (Int32)) (k1918 : (Nat → Int32) × Int32 × (Nat → Int32) × Int32 × HS × Nat → Option (Int32)) {q2 : Nat} {q3 : Nat} {q28 : Nat} {q30 : Nat} {q32 : Nat} {q38 : Nat} (a2 : Nat → Int32) (a3 : Nat → Int32) (x4 : Int32) (x5 : Int32) (x10 : Int32) (x25 : Int32) (x26 : Int32) (x27 : Int32) (a28 : Nat → Int32) (x29 : Int32) (a30 : Nat → Int32) (x31 : Int32) (a32 : Nat → Int32) (x33 : Int32) (x37 : Int32) (a38 : Nat → Int32) (g : Nat) (hk85 : ∀ (p : (Nat → Int32) × Int32 × HS × Nat) (r : Int32), k85 p = some r → LR l code 45 ret lw_tbl room_1 47 5558 ad [(q0, sL, a0)] (EL r) 85 [(0, .ref q0), (1, .ref (ad 0)), (2, .ref q2), (3, .ref q3), (4, .int x4), (5, .int (p.2.1))] [] (p.2.2.1) [(q2, 44, p.1), (q3, 45, a3)] (p.2.2.2)) (hk1918 : ∀ (q32 : Nat) (p : (Nat → Int32) × Int32 × (Nat → Int32) × Int32 × HS × Nat) (r : Int32), k1918 p = some r → LR l code 45 ret lw_tbl room_1 47 5558 ad [(q0, sL, a0)] (EL r) 1918 [(0, .ref q0), (1, .ref (ad 0)), (2, .ref q2), (3, .ref q3), (4, .int x4), (5, .int x5), (10, .int x10), (25, .int x25), (26, .int x26), (27, .int x27), (28, .ref q28), (29, .int x29), (30, .ref q30), (31, .int (p.2.1)), (32, .ref q32), (33, .int (p.2.2.2.1))] [] (p.2.2.2.2.1) [(q2, 44, p.1), (q3, 45, a3), (q28, 5, a28), (q30, 5, a30), (q32, 5, p.2.2.1)] (p.2.2.2.2.2)) (p : Int32 × Int32 × HS) (r : Int32) (h : g_law_2150 sL a0 k85 k1918 a2 a3 x4 x5 x10 x25 x26 x27 a28 x29 a30 x31 a32 x33 x37 a38 g p = some r) : LR l code 45 ret lw_tbl room_1 47 5558 ad [(q0, sL, a0)] (EL r) 2150 [(0, .ref q0), (1, .ref (ad 0)), (2, .ref q2), (3, .ref q3), (4, .int x4), (5, .int x5), (10, .int x10), (25, .int x25), (26, .int x26), (27, .int x27), (28, .ref q28), (29, .int x29), (30, .ref q30), (31, .int x31), (32, .ref q32), (33, .int x33), (37, .int x37), (38, .ref q38), (39, .int (p.1)), (40, .int (p.2.1))] [] (p.2.2) [(q2, 44, a2), (q3, 45, a3), (q28, 5, a28), (q30, 5, a30), (q32, 5, a32), (q38, 5, a38)] g := by
  unfold g_law_2150 at h
  exact wloop_run (body := fun k2150 p => g_law_2150_b sL a0 k85 k1918 k2150 a2 a3 x4 x5 x10 x25 x26 x27 a28 x29 a30 x31 a32 x33 x37 a38 p.1 p.2.1 p.2.2 g) (Q := (fun p r => LR l code 45 ret lw_tbl room_1 47 5558 ad [(q0, sL, a0)] (EL r) 2150 [(0, .ref q0), (1, .ref (ad 0)), (2, .ref q2), (3, .ref q3), (4, .int x4), (5, .int x5), (10, .int x10), (25, .int x25), (26, .int x26), (27, .int x27), (28, .ref q28), (29, .int x29), (30, .ref q30), (31, .int x31), (32, .ref q32), (33, .int x33), (37, .int x37), (38, .ref q38), (39, .int (p.1)), (40, .int (p.2.1))] [] (p.2.2) [(q2, 44, a2), (q3, 45, a3), (q28, 5, a28), (q30, 5, a30), (q32, 5, a32), (q38, 5, a38)] g)) (fun k2150 hk2150 p r h => G_law_2150_b sL a0 k85 k1918 k2150 a2 a3 x4 x5 x10 x25 x26 x27 a28 x29 a30 x31 a32 x33 x37 a38 p.1 p.2.1 p.2.2 g hk85 hk1918 hk2150 r h) fuelN p r h
set_option maxHeartbeats 4000000 in
set_option maxRecDepth 100000 in
theorem G_law_2012 {l : Launch} {ad : Nat → Nat} {q0 : Nat} (sL : Nat) (a0 : Nat → Int32) (k85 : (Nat → Int32) × Int32 × HS × Nat → Option (Int32)) (k1918 : (Nat → Int32) × Int32 × (Nat → Int32) × Int32 × HS × Nat → Option (Int32)) (k1945 : (Nat → Int32) × Int32 × Int32 × Int32 × Int32 × (Nat → Int32) × Int32 × HS → Option (Int32)) (k1979 : Int32 × Int32 → Option (Int32)) {q2 : Nat} {q3 : Nat} {q28 : Nat} {q30 : Nat} {q32 : Nat} {q38 : Nat} (a2 : Nat → Int32) (a3 : Nat → Int32) (x4 : Int32) (x5 : Int32) (x10 : Int32) (x25 : Int32) (x26 : Int32) (x27 : Int32) (a28 : Nat → Int32) (x29 : Int32) (a30 : Nat → Int32) (x31 : Int32) (a32 : Nat → Int32) (x33 : Int32) (x34 : Int32) (x35 : Int32) (x36 : Int32) (x37 : Int32) (a38 : Nat → Int32) (x39 : Int32) (x41 : Int32) (z0 : Int32) (z1 : Int32) (σ : HS) (g : Nat) (hk85 : ∀ (p : (Nat → Int32) × Int32 × HS × Nat) (r : Int32), k85 p = some r → LR l code 45 ret lw_tbl room_1 47 5558 ad [(q0, sL, a0)] (EL r) 85 [(0, .ref q0), (1, .ref (ad 0)), (2, .ref q2), (3, .ref q3), (4, .int x4), (5, .int (p.2.1))] [] (p.2.2.1) [(q2, 44, p.1), (q3, 45, a3)] (p.2.2.2)) (hk1918 : ∀ (q32 : Nat) (p : (Nat → Int32) × Int32 × (Nat → Int32) × Int32 × HS × Nat) (r : Int32), k1918 p = some r → LR l code 45 ret lw_tbl room_1 47 5558 ad [(q0, sL, a0)] (EL r) 1918 [(0, .ref q0), (1, .ref (ad 0)), (2, .ref q2), (3, .ref q3), (4, .int x4), (5, .int x5), (10, .int x10), (25, .int x25), (26, .int x26), (27, .int x27), (28, .ref q28), (29, .int x29), (30, .ref q30), (31, .int (p.2.1)), (32, .ref q32), (33, .int (p.2.2.2.1))] [] (p.2.2.2.2.1) [(q2, 44, p.1), (q3, 45, a3), (q28, 5, a28), (q30, 5, a30), (q32, 5, p.2.2.1)] (p.2.2.2.2.2)) (hk1945 : ∀ (p : (Nat → Int32) × Int32 × Int32 × Int32 × Int32 × (Nat → Int32) × Int32 × HS) (r : Int32), k1945 p = some r → LR l code 45 ret lw_tbl room_1 47 5558 ad [(q0, sL, a0)] (EL r) 1945 [(0, .ref q0), (1, .ref (ad 0)), (2, .ref q2), (3, .ref q3), (4, .int x4), (5, .int x5), (10, .int x10), (25, .int x25), (26, .int x26), (27, .int x27), (28, .ref q28), (29, .int x29), (30, .ref q30), (31, .int x31), (32, .ref q32), (33, .int x33), (34, .int (p.2.1)), (35, .int (p.2.2.1)), (36, .int (p.2.2.2.1)), (37, .int (p.2.2.2.2.1)), (38, .ref q38), (39, .int (p.2.2.2.2.2.2.1))] [] (p.2.2.2.2.2.2.2) [(q2, 44, p.1), (q3, 45, a3), (q28, 5, a28), (q30, 5, a30), (q32, 5, a32), (q38, 5, p.2.2.2.2.2.1)] g) (hk1979 : ∀ (p : Int32 × Int32) (r : Int32), k1979 p = some r → LR l code 45 ret lw_tbl room_1 47 5558 ad [(q0, sL, a0)] (EL r) 1979 [(0, .ref q0), (1, .ref (ad 0)), (2, .ref q2), (3, .ref q3), (4, .int x4), (5, .int x5), (10, .int x10), (25, .int x25), (26, .int x26), (27, .int x27), (28, .ref q28), (29, .int x29), (30, .ref q30), (31, .int x31), (32, .ref q32), (33, .int x33), (34, .int x34), (35, .int x35), (36, .int x36), (37, .int x37), (38, .ref q38), (39, .int x39), (40, .int (p.1)), (41, .int (p.2))] [] σ [(q2, 44, a2), (q3, 45, a3), (q28, 5, a28), (q30, 5, a30), (q32, 5, a32), (q38, 5, a38)] g) (r : Int32) (h : g_law_2012 sL a0 k85 k1918 k1945 k1979 a2 a3 x4 x5 x10 x25 x26 x27 a28 x29 a30 x31 a32 x33 x34 x35 x36 x37 a38 x39 x41 z0 z1 σ g = some r) : LR l code 45 ret lw_tbl room_1 47 5558 ad [(q0, sL, a0)] (EL r) 2012 [(0, .ref q0), (1, .ref (ad 0)), (2, .ref q2), (3, .ref q3), (4, .int x4), (5, .int x5), (10, .int x10), (25, .int x25), (26, .int x26), (27, .int x27), (28, .ref q28), (29, .int x29), (30, .ref q30), (31, .int x31), (32, .ref q32), (33, .int x33), (34, .int x34), (35, .int x35), (36, .int x36), (37, .int x37), (38, .ref q38), (39, .int x39), (41, .int x41)] [.int z0, .int z1] σ [(q2, 44, a2), (q3, 45, a3), (q28, 5, a28), (q30, 5, a30), (q32, 5, a32), (q38, 5, a38)] g := by
  unfold g_law_2012 at h
  refine LR.isub (pc := 2012) dL_law_2012 ?_
  refine LR.istore (pc := 2013) (L2 := [(40, .int (z1 - z0)), (0, .ref q0), (1, .ref (ad 0)), (2, .ref q2), (3, .ref q3), (4, .int x4), (5, .int x5), (10, .int x10), (25, .int x25), (26, .int x26), (27, .int x27), (28, .ref q28), (29, .int x29), (30, .ref q30), (31, .int x31), (32, .ref q32), (33, .int x33), (34, .int x34), (35, .int x35), (36, .int x36), (37, .int x37), (38, .ref q38), (39, .int x39), (41, .int x41)]) dL_law_2013 (by decide) rfl ?_
  refine LR.iinc (pc := 2015) (j := 23) (v := (x41 + 1)) (L2 := [(41, .int (x41 + 1)), (40, .int (z1 - z0)), (0, .ref q0), (1, .ref (ad 0)), (2, .ref q2), (3, .ref q3), (4, .int x4), (5, .int x5), (10, .int x10), (25, .int x25), (26, .int x26), (27, .int x27), (28, .ref q28), (29, .int x29), (30, .ref q30), (31, .int x31), (32, .ref q32), (33, .int x33), (34, .int x34), (35, .int x35), (36, .int x36), (37, .int x37), (38, .ref q38), (39, .int x39)]) dL_law_2015 rfl rfl (by decide) rfl ?_
  refine LR.goto (pc := 2018) (tgt := 1979) dL_law_2018 (by decide) ?_
  exact LR.pick [2, 3, 4, 5, 6, 7, 8, 9, 10, 11, 12, 13, 14, 15, 16, 17, 18, 19, 20, 21, 22, 23, 1, 0] rfl (hk1979 ((z1 - z0), (x41 + 1)) r h)
set_option maxHeartbeats 4000000 in
set_option maxRecDepth 100000 in
theorem G_law_1995 {l : Launch} {ad : Nat → Nat} {q0 : Nat} (sL : Nat) (a0 : Nat → Int32) (k85 : (Nat → Int32) × Int32 × HS × Nat → Option (Int32)) (k1918 : (Nat → Int32) × Int32 × (Nat → Int32) × Int32 × HS × Nat → Option (Int32)) (k1945 : (Nat → Int32) × Int32 × Int32 × Int32 × Int32 × (Nat → Int32) × Int32 × HS → Option (Int32)) (k1979 : Int32 × Int32 → Option (Int32)) {q2 : Nat} {q3 : Nat} {q28 : Nat} {q30 : Nat} {q32 : Nat} {q38 : Nat} (a2 : Nat → Int32) (a3 : Nat → Int32) (x4 : Int32) (x5 : Int32) (x10 : Int32) (x25 : Int32) (x26 : Int32) (x27 : Int32) (a28 : Nat → Int32) (x29 : Int32) (a30 : Nat → Int32) (x31 : Int32) (a32 : Nat → Int32) (x33 : Int32) (x34 : Int32) (x35 : Int32) (x36 : Int32) (x37 : Int32) (a38 : Nat → Int32) (x39 : Int32) (x40 : Int32) (x41 : Int32) (σ : HS) (g : Nat) (hk85 : ∀ (p : (Nat → Int32) × Int32 × HS × Nat) (r : Int32), k85 p = some r → LR l code 45 ret lw_tbl room_1 47 5558 ad [(q0, sL, a0)] (EL r) 85 [(0, .ref q0), (1, .ref (ad 0)), (2, .ref q2), (3, .ref q3), (4, .int x4), (5, .int (p.2.1))] [] (p.2.2.1) [(q2, 44, p.1), (q3, 45, a3)] (p.2.2.2)) (hk1918 : ∀ (q32 : Nat) (p : (Nat → Int32) × Int32 × (Nat → Int32) × Int32 × HS × Nat) (r : Int32), k1918 p = some r → LR l code 45 ret lw_tbl room_1 47 5558 ad [(q0, sL, a0)] (EL r) 1918 [(0, .ref q0), (1, .ref (ad 0)), (2, .ref q2), (3, .ref q3), (4, .int x4), (5, .int x5), (10, .int x10), (25, .int x25), (26, .int x26), (27, .int x27), (28, .ref q28), (29, .int x29), (30, .ref q30), (31, .int (p.2.1)), (32, .ref q32), (33, .int (p.2.2.2.1))] [] (p.2.2.2.2.1) [(q2, 44, p.1), (q3, 45, a3), (q28, 5, a28), (q30, 5, a30), (q32, 5, p.2.2.1)] (p.2.2.2.2.2)) (hk1945 : ∀ (p : (Nat → Int32) × Int32 × Int32 × Int32 × Int32 × (Nat → Int32) × Int32 × HS) (r : Int32), k1945 p = some r → LR l code 45 ret lw_tbl room_1 47 5558 ad [(q0, sL, a0)] (EL r) 1945 [(0, .ref q0), (1, .ref (ad 0)), (2, .ref q2), (3, .ref q3), (4, .int x4), (5, .int x5), (10, .int x10), (25, .int x25), (26, .int x26), (27, .int x27), (28, .ref q28), (29, .int x29), (30, .ref q30), (31, .int x31), (32, .ref q32), (33, .int x33), (34, .int (p.2.1)), (35, .int (p.2.2.1)), (36, .int (p.2.2.2.1)), (37, .int (p.2.2.2.2.1)), (38, .ref q38), (39, .int (p.2.2.2.2.2.2.1))] [] (p.2.2.2.2.2.2.2) [(q2, 44, p.1), (q3, 45, a3), (q28, 5, a28), (q30, 5, a30), (q32, 5, a32), (q38, 5, p.2.2.2.2.2.1)] g) (hk1979 : ∀ (p : Int32 × Int32) (r : Int32), k1979 p = some r → LR l code 45 ret lw_tbl room_1 47 5558 ad [(q0, sL, a0)] (EL r) 1979 [(0, .ref q0), (1, .ref (ad 0)), (2, .ref q2), (3, .ref q3), (4, .int x4), (5, .int x5), (10, .int x10), (25, .int x25), (26, .int x26), (27, .int x27), (28, .ref q28), (29, .int x29), (30, .ref q30), (31, .int x31), (32, .ref q32), (33, .int x33), (34, .int x34), (35, .int x35), (36, .int x36), (37, .int x37), (38, .ref q38), (39, .int x39), (40, .int (p.1)), (41, .int (p.2))] [] σ [(q2, 44, a2), (q3, 45, a3), (q28, 5, a28), (q30, 5, a30), (q32, 5, a32), (q38, 5, a38)] g) (r : Int32) (h : g_law_1995 sL a0 k85 k1918 k1945 k1979 a2 a3 x4 x5 x10 x25 x26 x27 a28 x29 a30 x31 a32 x33 x34 x35 x36 x37 a38 x39 x40 x41 σ g = some r) : LR l code 45 ret lw_tbl room_1 47 5558 ad [(q0, sL, a0)] (EL r) 1995 [(0, .ref q0), (1, .ref (ad 0)), (2, .ref q2), (3, .ref q3), (4, .int x4), (5, .int x5), (10, .int x10), (25, .int x25), (26, .int x26), (27, .int x27), (28, .ref q28), (29, .int x29), (30, .ref q30), (31, .int x31), (32, .ref q32), (33, .int x33), (34, .int x34), (35, .int x35), (36, .int x36), (37, .int x37), (38, .ref q38), (39, .int x39), (40, .int x40), (41, .int x41)] [] σ [(q2, 44, a2), (q3, 45, a3), (q28, 5, a28), (q30, 5, a30), (q32, 5, a32), (q38, 5, a38)] g := by
  unfold g_law_1995 at h
  refine LR.iload (pc := 1995) (j := 22) dL_law_1995 rfl ?_
  refine LR.iload (pc := 1997) (j := 18) dL_law_1997 rfl ?_
  refine LR.iload (pc := 1999) (j := 23) dL_law_1999 rfl ?_
  refine LR.ishr (pc := 2001) dL_law_2001 ?_
  refine LR.iconst (pc := 2002) (v := 1) dL_law_2002 (by decide) ?_
  refine LR.iand (pc := 2003) dL_law_2003 ?_
  refine LR.if_ne (pc := 2004) (tgt := 2011) dL_law_2004 (by decide) (fun c1 => ?_) (fun c1 => ?_)
  · replace h := ite_f c1 h
    refine LR.iconst (pc := 2011) (v := 0) dL_law_2011 (by decide) ?_
    exact LR.pick [0, 1, 2, 3, 4, 5, 6, 7, 8, 9, 10, 11, 12, 13, 14, 15, 16, 17, 18, 19, 20, 21, 23] rfl (G_law_2012 sL a0 k85 k1918 k1945 k1979 a2 a3 x4 x5 x10 x25 x26 x27 a28 x29 a30 x31 a32 x33 x34 x35 x36 x37 a38 x39 x41 0 x40 σ g hk85 hk1918 hk1945 hk1979 r h)
  · replace h := ite_t c1 h
    refine LR.iconst (pc := 2007) (v := 1) dL_law_2007 (by decide) ?_
    refine LR.goto (pc := 2008) (tgt := 2012) dL_law_2008 (by decide) ?_
    exact LR.pick [0, 1, 2, 3, 4, 5, 6, 7, 8, 9, 10, 11, 12, 13, 14, 15, 16, 17, 18, 19, 20, 21, 23] rfl (G_law_2012 sL a0 k85 k1918 k1945 k1979 a2 a3 x4 x5 x10 x25 x26 x27 a28 x29 a30 x31 a32 x33 x34 x35 x36 x37 a38 x39 x41 1 x40 σ g hk85 hk1918 hk1945 hk1979 r h)
set_option maxHeartbeats 4000000 in
set_option maxRecDepth 100000 in
theorem G_law_2131 {l : Launch} {ad : Nat → Nat} {q0 : Nat} (sL : Nat) (a0 : Nat → Int32) (k85 : (Nat → Int32) × Int32 × HS × Nat → Option (Int32)) (k1918 : (Nat → Int32) × Int32 × (Nat → Int32) × Int32 × HS × Nat → Option (Int32)) (k1945 : (Nat → Int32) × Int32 × Int32 × Int32 × Int32 × (Nat → Int32) × Int32 × HS → Option (Int32)) (k2083 : (Nat → Int32) × Int32 → Option (Int32)) {q2 : Nat} {q3 : Nat} {q28 : Nat} {q30 : Nat} {q32 : Nat} {q38 : Nat} (a2 : Nat → Int32) (a3 : Nat → Int32) (x4 : Int32) (x5 : Int32) (x10 : Int32) (x25 : Int32) (x26 : Int32) (x27 : Int32) (a28 : Nat → Int32) (x29 : Int32) (a30 : Nat → Int32) (x31 : Int32) (a32 : Nat → Int32) (x33 : Int32) (x34 : Int32) (x35 : Int32) (x36 : Int32) (x37 : Int32) (a38 : Nat → Int32) (x39 : Int32) (x41 : Int32) (x42 : Int32) (x43 : Int32) (z0 : Int32) (z1 : Int32) (σ : HS) (g : Nat) (hk85 : ∀ (p : (Nat → Int32) × Int32 × HS × Nat) (r : Int32), k85 p = some r → LR l code 45 ret lw_tbl room_1 47 5558 ad [(q0, sL, a0)] (EL r) 85 [(0, .ref q0), (1, .ref (ad 0)), (2, .ref q2), (3, .ref q3), (4, .int x4), (5, .int (p.2.1))] [] (p.2.2.1) [(q2, 44, p.1), (q3, 45, a3)] (p.2.2.2)) (hk1918 : ∀ (q32 : Nat) (p : (Nat → Int32) × Int32 × (Nat → Int32) × Int32 × HS × Nat) (r : Int32), k1918 p = some r → LR l code 45 ret lw_tbl room_1 47 5558 ad [(q0, sL, a0)] (EL r) 1918 [(0, .ref q0), (1, .ref (ad 0)), (2, .ref q2), (3, .ref q3), (4, .int x4), (5, .int x5), (10, .int x10), (25, .int x25), (26, .int x26), (27, .int x27), (28, .ref q28), (29, .int x29), (30, .ref q30), (31, .int (p.2.1)), (32, .ref q32), (33, .int (p.2.2.2.1))] [] (p.2.2.2.2.1) [(q2, 44, p.1), (q3, 45, a3), (q28, 5, a28), (q30, 5, a30), (q32, 5, p.2.2.1)] (p.2.2.2.2.2)) (hk1945 : ∀ (p : (Nat → Int32) × Int32 × Int32 × Int32 × Int32 × (Nat → Int32) × Int32 × HS) (r : Int32), k1945 p = some r → LR l code 45 ret lw_tbl room_1 47 5558 ad [(q0, sL, a0)] (EL r) 1945 [(0, .ref q0), (1, .ref (ad 0)), (2, .ref q2), (3, .ref q3), (4, .int x4), (5, .int x5), (10, .int x10), (25, .int x25), (26, .int x26), (27, .int x27), (28, .ref q28), (29, .int x29), (30, .ref q30), (31, .int x31), (32, .ref q32), (33, .int x33), (34, .int (p.2.1)), (35, .int (p.2.2.1)), (36, .int (p.2.2.2.1)), (37, .int (p.2.2.2.2.1)), (38, .ref q38), (39, .int (p.2.2.2.2.2.2.1))] [] (p.2.2.2.2.2.2.2) [(q2, 44, p.1), (q3, 45, a3), (q28, 5, a28), (q30, 5, a30), (q32, 5, a32), (q38, 5, p.2.2.2.2.2.1)] g) (hk2083 : ∀ (p : (Nat → Int32) × Int32) (r : Int32), k2083 p = some r → LR l code 45 ret lw_tbl room_1 47 5558 ad [(q0, sL, a0)] (EL r) 2083 [(0, .ref q0), (1, .ref (ad 0)), (2, .ref q2), (3, .ref q3), (4, .int x4), (5, .int x5), (10, .int x10), (25, .int x25), (26, .int x26), (27, .int x27), (28, .ref q28), (29, .int x29), (30, .ref q30), (31, .int x31), (32, .ref q32), (33, .int x33), (34, .int x34), (35, .int x35), (36, .int x36), (37, .int x37), (38, .ref q38), (39, .int x39), (41, .int x41), (42, .int x42), (43, .int (p.2))] [] σ [(q2, 44, p.1), (q3, 45, a3), (q28, 5, a28), (q30, 5, a30), (q32, 5, a32), (q38, 5, a38)] g) (r : Int32) (h : g_law_2131 sL a0 k85 k1918 k1945 k2083 a2 a3 x4 x5 x10 x25 x26 x27 a28 x29 a30 x31 a32 x33 x34 x35 x36 x37 a38 x39 x41 x42 x43 z0 z1 σ g = some r) : LR l code 45 ret lw_tbl room_1 47 5558 ad [(q0, sL, a0)] (EL r) 2131 [(0, .ref q0), (1, .ref (ad 0)), (2, .ref q2), (3, .ref q3), (4, .int x4), (5, .int x5), (10, .int x10), (25, .int x25), (26, .int x26), (27, .int x27), (28, .ref q28), (29, .int x29), (30, .ref q30), (31, .int x31), (32, .ref q32), (33, .int x33), (34, .int x34), (35, .int x35), (36, .int x36), (37, .int x37), (38, .ref q38), (39, .int x39), (41, .int x41), (42, .int x42), (43, .int x43)] [.int z0, .int z1, .ref q2] σ [(q2, 44, a2), (q3, 45, a3), (q28, 5, a28), (q30, 5, a30), (q32, 5, a32), (q38, 5, a38)] g := by
  unfold g_law_2131 at h
  obtain ⟨c1, h⟩ := gn_some h
  obtain ⟨b2, e2, h⟩ := bd_some h
  replace e2 := Option.some.inj e2
  refine LR.iastore (pc := 2131) (j := 0) (as2 := [(q2, 44, b2), (q3, 45, a3), (q28, 5, a28), (q30, 5, a30), (q32, 5, a32), (q38, 5, a38)]) dL_law_2131 rfl c1 (by subst e2; rfl) ?_
  refine LR.iinc (pc := 2132) (j := 24) (v := (x43 + 1)) (L2 := [(43, .int (x43 + 1)), (0, .ref q0), (1, .ref (ad 0)), (2, .ref q2), (3, .ref q3), (4, .int x4), (5, .int x5), (10, .int x10), (25, .int x25), (26, .int x26), (27, .int x27), (28, .ref q28), (29, .int x29), (30, .ref q30), (31, .int x31), (32, .ref q32), (33, .int x33), (34, .int x34), (35, .int x35), (36, .int x36), (37, .int x37), (38, .ref q38), (39, .int x39), (41, .int x41), (42, .int x42)]) dL_law_2132 rfl rfl (by decide) rfl ?_
  refine LR.goto (pc := 2135) (tgt := 2083) dL_law_2135 (by decide) ?_
  exact LR.pick [1, 2, 3, 4, 5, 6, 7, 8, 9, 10, 11, 12, 13, 14, 15, 16, 17, 18, 19, 20, 21, 22, 23, 24, 0] rfl (hk2083 (b2, (x43 + 1)) r h)
set_option maxHeartbeats 4000000 in
set_option maxRecDepth 100000 in
theorem G_law_2083_b {l : Launch} {ad : Nat → Nat} {q0 : Nat} (sL : Nat) (a0 : Nat → Int32) (k85 : (Nat → Int32) × Int32 × HS × Nat → Option (Int32)) (k1918 : (Nat → Int32) × Int32 × (Nat → Int32) × Int32 × HS × Nat → Option (Int32)) (k1945 : (Nat → Int32) × Int32 × Int32 × Int32 × Int32 × (Nat → Int32) × Int32 × HS → Option (Int32)) (k2083 : (Nat → Int32) × Int32 → Option (Int32)) {q2 : Nat} {q3 : Nat} {q28 : Nat} {q30 : Nat} {q32 : Nat} {q38 : Nat} (a2 : Nat → Int32) (a3 : Nat → Int32) (x4 : Int32) (x5 : Int32) (x10 : Int32) (x25 : Int32) (x26 : Int32) (x27 : Int32) (a28 : Nat → Int32) (x29 : Int32) (a30 : Nat → Int32) (x31 : Int32) (a32 : Nat → Int32) (x33 : Int32) (x34 : Int32) (x35 : Int32) (x36 : Int32) (x37 : Int32) (a38 : Nat → Int32) (x39 : Int32) (x41 : Int32) (x42 : Int32) (x43 : Int32) (σ : HS) (g : Nat) (hk85 : ∀ (p : (Nat → Int32) × Int32 × HS × Nat) (r : Int32), k85 p = some r → LR l code 45 ret lw_tbl room_1 47 5558 ad [(q0, sL, a0)] (EL r) 85 [(0, .ref q0), (1, .ref (ad 0)), (2, .ref q2), (3, .ref q3), (4, .int x4), (5, .int (p.2.1))] [] (p.2.2.1) [(q2, 44, p.1), (q3, 45, a3)] (p.2.2.2)) (hk1918 : ∀ (q32 : Nat) (p : (Nat → Int32) × Int32 × (Nat → Int32) × Int32 × HS × Nat) (r : Int32), k1918 p = some r → LR l code 45 ret lw_tbl room_1 47 5558 ad [(q0, sL, a0)] (EL r) 1918 [(0, .ref q0), (1, .ref (ad 0)), (2, .ref q2), (3, .ref q3), (4, .int x4), (5, .int x5), (10, .int x10), (25, .int x25), (26, .int x26), (27, .int x27), (28, .ref q28), (29, .int x29), (30, .ref q30), (31, .int (p.2.1)), (32, .ref q32), (33, .int (p.2.2.2.1))] [] (p.2.2.2.2.1) [(q2, 44, p.1), (q3, 45, a3), (q28, 5, a28), (q30, 5, a30), (q32, 5, p.2.2.1)] (p.2.2.2.2.2)) (hk1945 : ∀ (p : (Nat → Int32) × Int32 × Int32 × Int32 × Int32 × (Nat → Int32) × Int32 × HS) (r : Int32), k1945 p = some r → LR l code 45 ret lw_tbl room_1 47 5558 ad [(q0, sL, a0)] (EL r) 1945 [(0, .ref q0), (1, .ref (ad 0)), (2, .ref q2), (3, .ref q3), (4, .int x4), (5, .int x5), (10, .int x10), (25, .int x25), (26, .int x26), (27, .int x27), (28, .ref q28), (29, .int x29), (30, .ref q30), (31, .int x31), (32, .ref q32), (33, .int x33), (34, .int (p.2.1)), (35, .int (p.2.2.1)), (36, .int (p.2.2.2.1)), (37, .int (p.2.2.2.2.1)), (38, .ref q38), (39, .int (p.2.2.2.2.2.2.1))] [] (p.2.2.2.2.2.2.2) [(q2, 44, p.1), (q3, 45, a3), (q28, 5, a28), (q30, 5, a30), (q32, 5, a32), (q38, 5, p.2.2.2.2.2.1)] g) (hk2083 : ∀ (p : (Nat → Int32) × Int32) (r : Int32), k2083 p = some r → LR l code 45 ret lw_tbl room_1 47 5558 ad [(q0, sL, a0)] (EL r) 2083 [(0, .ref q0), (1, .ref (ad 0)), (2, .ref q2), (3, .ref q3), (4, .int x4), (5, .int x5), (10, .int x10), (25, .int x25), (26, .int x26), (27, .int x27), (28, .ref q28), (29, .int x29), (30, .ref q30), (31, .int x31), (32, .ref q32), (33, .int x33), (34, .int x34), (35, .int x35), (36, .int x36), (37, .int x37), (38, .ref q38), (39, .int x39), (41, .int x41), (42, .int x42), (43, .int (p.2))] [] σ [(q2, 44, p.1), (q3, 45, a3), (q28, 5, a28), (q30, 5, a30), (q32, 5, a32), (q38, 5, a38)] g) (r : Int32) (h : g_law_2083_b sL a0 k85 k1918 k1945 k2083 a2 a3 x4 x5 x10 x25 x26 x27 a28 x29 a30 x31 a32 x33 x34 x35 x36 x37 a38 x39 x41 x42 x43 σ g = some r) : LR l code 45 ret lw_tbl room_1 47 5558 ad [(q0, sL, a0)] (EL r) 2083 [(0, .ref q0), (1, .ref (ad 0)), (2, .ref q2), (3, .ref q3), (4, .int x4), (5, .int x5), (10, .int x10), (25, .int x25), (26, .int x26), (27, .int x27), (28, .ref q28), (29, .int x29), (30, .ref q30), (31, .int x31), (32, .ref q32), (33, .int x33), (34, .int x34), (35, .int x35), (36, .int x36), (37, .int x37), (38, .ref q38), (39, .int x39), (41, .int x41), (42, .int x42), (43, .int x43)] [] σ [(q2, 44, a2), (q3, 45, a3), (q28, 5, a28), (q30, 5, a30), (q32, 5, a32), (q38, 5, a38)] g := by
  unfold g_law_2083_b at h
  refine LR.iload (pc := 2083) (j := 24) dL_law_2083 rfl ?_
  refine LR.iload (pc := 2085) (j := 4) dL_law_2085 rfl ?_
  refine LR.icmp_ge (pc := 2087) (tgt := 2138) dL_law_2087 (by decide) (fun c1 => ?_) (fun c1 => ?_)
  · replace h := ite_t c1 h
    refine LR.iinc (pc := 2138) (j := 21) (v := (x39 + 1)) (L2 := [(39, .int (x39 + 1)), (0, .ref q0), (1, .ref (ad 0)), (2, .ref q2), (3, .ref q3), (4, .int x4), (5, .int x5), (10, .int x10), (25, .int x25), (26, .int x26), (27, .int x27), (28, .ref q28), (29, .int x29), (30, .ref q30), (31, .int x31), (32, .ref q32), (33, .int x33), (34, .int x34), (35, .int x35), (36, .int x36), (37, .int x37), (38, .ref q38), (41, .int x41), (42, .int x42), (43, .int x43)]) dL_law_2138 rfl rfl (by decide) rfl ?_
    refine LR.goto (pc := 2141) (tgt := 1945) dL_law_2141 (by decide) ?_
    exact LR.pick [1, 2, 3, 4, 5, 6, 7, 8, 9, 10, 11, 12, 13, 14, 15, 16, 17, 18, 19, 20, 21, 0] rfl (hk1945 (a2, x34, x35, x36, x37, a38, (x39 + 1), σ) r h)
  · replace h := ite_f c1 h
    refine LR.aload_n (pc := 2090) (j := 2) dL_law_2090 rfl rfl ?_
    refine LR.bipush (pc := 2091) (v := 14) dL_law_2091 (by decide) ?_
    refine LR.iload (pc := 2093) (j := 24) dL_law_2093 rfl ?_
    refine LR.iadd (pc := 2095) dL_law_2095 ?_
    obtain ⟨c2, h⟩ := gn_some h
    refine LR.iaload (pc := 2096) (j := 0) dL_law_2096 rfl c2 ?_
    refine LR.istore (pc := 2097) (L2 := [(44, .int (a2 ((14 + x43) : Int32).toNatClampNeg)), (0, .ref q0), (1, .ref (ad 0)), (2, .ref q2), (3, .ref q3), (4, .int x4), (5, .int x5), (10, .int x10), (25, .int x25), (26, .int x26), (27, .int x27), (28, .ref q28), (29, .int x29), (30, .ref q30), (31, .int x31), (32, .ref q32), (33, .int x33), (34, .int x34), (35, .int x35), (36, .int x36), (37, .int x37), (38, .ref q38), (39, .int x39), (41, .int x41), (42, .int x42), (43, .int x43)]) dL_law_2097 (by decide) rfl ?_
    refine LR.aload_n (pc := 2099) (j := 3) dL_law_2099 rfl rfl ?_
    refine LR.bipush (pc := 2100) (v := 14) dL_law_2100 (by decide) ?_
    refine LR.iload (pc := 2102) (j := 25) dL_law_2102 rfl ?_
    refine LR.iadd (pc := 2104) dL_law_2104 ?_
    refine LR.iload (pc := 2105) (j := 0) dL_law_2105 rfl ?_
    refine LR.iload (pc := 2107) (j := 24) dL_law_2107 rfl ?_
    refine LR.icmp_ne (pc := 2109) (tgt := 2117) dL_law_2109 (by decide) (fun c3 => ?_) (fun c3 => ?_)
    · replace h := ite_f c3 h
      refine LR.iload (pc := 2117) (j := 0) dL_law_2117 rfl ?_
      refine LR.iload (pc := 2119) (j := 23) dL_law_2119 rfl ?_
      refine LR.icmp_ne (pc := 2121) (tgt := 2129) dL_law_2121 (by decide) (fun c4 => ?_) (fun c4 => ?_)
      · replace h := ite_f c4 h
        refine LR.iload (pc := 2129) (j := 0) dL_law_2129 rfl ?_
        exact LR.pick [1, 2, 3, 4, 5, 6, 7, 8, 9, 10, 11, 12, 13, 14, 15, 16, 17, 18, 19, 20, 21, 22, 23, 24, 25] rfl (G_law_2131 sL a0 k85 k1918 k1945 k2083 a2 a3 x4 x5 x10 x25 x26 x27 a28 x29 a30 x31 a32 x33 x34 x35 x36 x37 a38 x39 x41 x42 x43 (a2 ((14 + x43) : Int32).toNatClampNeg) (14 + x43) σ g hk85 hk1918 hk1945 hk2083 r h)
      · replace h := ite_t c4 h
        refine LR.iload (pc := 2124) (j := 24) dL_law_2124 rfl ?_
        refine LR.goto (pc := 2126) (tgt := 2131) dL_law_2126 (by decide) ?_
        exact LR.pick [1, 2, 3, 4, 5, 6, 7, 8, 9, 10, 11, 12, 13, 14, 15, 16, 17, 18, 19, 20, 21, 22, 23, 24, 25] rfl (G_law_2131 sL a0 k85 k1918 k1945 k2083 a2 a3 x4 x5 x10 x25 x26 x27 a28 x29 a30 x31 a32 x33 x34 x35 x36 x37 a38 x39 x41 x42 x43 x42 (14 + x43) σ g hk85 hk1918 hk1945 hk2083 r h)
    · replace h := ite_t c3 h
      refine LR.iload (pc := 2112) (j := 23) dL_law_2112 rfl ?_
      refine LR.goto (pc := 2114) (tgt := 2131) dL_law_2114 (by decide) ?_
      exact LR.pick [1, 2, 3, 4, 5, 6, 7, 8, 9, 10, 11, 12, 13, 14, 15, 16, 17, 18, 19, 20, 21, 22, 23, 24, 25] rfl (G_law_2131 sL a0 k85 k1918 k1945 k2083 a2 a3 x4 x5 x10 x25 x26 x27 a28 x29 a30 x31 a32 x33 x34 x35 x36 x37 a38 x39 x41 x42 x43 x41 (14 + x43) σ g hk85 hk1918 hk1945 hk2083 r h)
theorem G_law_2083 {l : Launch} {ad : Nat → Nat} {q0 : Nat} (sL : Nat) (a0 : Nat → Int32) (k85 : (Nat → Int32) × Int32 × HS × Nat → Option (Int32)) (k1918 : (Nat → Int32) × Int32 × (Nat → Int32) × Int32 × HS × Nat → Option (Int32)) (k1945 : (Nat → Int32) × Int32 × Int32 × Int32 × Int32 × (Nat → Int32) × Int32 × HS → Option (Int32)) {q2 : Nat} {q3 : Nat} {q28 : Nat} {q30 : Nat} {q32 : Nat} {q38 : Nat} (a3 : Nat → Int32) (x4 : Int32) (x5 : Int32) (x10 : Int32) (x25 : Int32) (x26 : Int32) (x27 : Int32) (a28 : Nat → Int32) (x29 : Int32) (a30 : Nat → Int32) (x31 : Int32) (a32 : Nat → Int32) (x33 : Int32) (x34 : Int32) (x35 : Int32) (x36 : Int32) (x37 : Int32) (a38 : Nat → Int32) (x39 : Int32) (x41 : Int32) (x42 : Int32) (σ : HS) (g : Nat) (hk85 : ∀ (p : (Nat → Int32) × Int32 × HS × Nat) (r : Int32), k85 p = some r → LR l code 45 ret lw_tbl room_1 47 5558 ad [(q0, sL, a0)] (EL r) 85 [(0, .ref q0), (1, .ref (ad 0)), (2, .ref q2), (3, .ref q3), (4, .int x4), (5, .int (p.2.1))] [] (p.2.2.1) [(q2, 44, p.1), (q3, 45, a3)] (p.2.2.2)) (hk1918 : ∀ (q32 : Nat) (p : (Nat → Int32) × Int32 × (Nat → Int32) × Int32 × HS × Nat) (r : Int32), k1918 p = some r → LR l code 45 ret lw_tbl room_1 47 5558 ad [(q0, sL, a0)] (EL r) 1918 [(0, .ref q0), (1, .ref (ad 0)), (2, .ref q2), (3, .ref q3), (4, .int x4), (5, .int x5), (10, .int x10), (25, .int x25), (26, .int x26), (27, .int x27), (28, .ref q28), (29, .int x29), (30, .ref q30), (31, .int (p.2.1)), (32, .ref q32), (33, .int (p.2.2.2.1))] [] (p.2.2.2.2.1) [(q2, 44, p.1), (q3, 45, a3), (q28, 5, a28), (q30, 5, a30), (q32, 5, p.2.2.1)] (p.2.2.2.2.2)) (hk1945 : ∀ (p : (Nat → Int32) × Int32 × Int32 × Int32 × Int32 × (Nat → Int32) × Int32 × HS) (r : Int32), k1945 p = some r → LR l code 45 ret lw_tbl room_1 47 5558 ad [(q0, sL, a0)] (EL r) 1945 [(0, .ref q0), (1, .ref (ad 0)), (2, .ref q2), (3, .ref q3), (4, .int x4), (5, .int x5), (10, .int x10), (25, .int x25), (26, .int x26), (27, .int x27), (28, .ref q28), (29, .int x29), (30, .ref q30), (31, .int x31), (32, .ref q32), (33, .int x33), (34, .int (p.2.1)), (35, .int (p.2.2.1)), (36, .int (p.2.2.2.1)), (37, .int (p.2.2.2.2.1)), (38, .ref q38), (39, .int (p.2.2.2.2.2.2.1))] [] (p.2.2.2.2.2.2.2) [(q2, 44, p.1), (q3, 45, a3), (q28, 5, a28), (q30, 5, a30), (q32, 5, a32), (q38, 5, p.2.2.2.2.2.1)] g) (p : (Nat → Int32) × Int32) (r : Int32) (h : g_law_2083 sL a0 k85 k1918 k1945 a3 x4 x5 x10 x25 x26 x27 a28 x29 a30 x31 a32 x33 x34 x35 x36 x37 a38 x39 x41 x42 σ g p = some r) : LR l code 45 ret lw_tbl room_1 47 5558 ad [(q0, sL, a0)] (EL r) 2083 [(0, .ref q0), (1, .ref (ad 0)), (2, .ref q2), (3, .ref q3), (4, .int x4), (5, .int x5), (10, .int x10), (25, .int x25), (26, .int x26), (27, .int x27), (28, .ref q28), (29, .int x29), (30, .ref q30), (31, .int x31), (32, .ref q32), (33, .int x33), (34, .int x34), (35, .int x35), (36, .int x36), (37, .int x37), (38, .ref q38), (39, .int x39), (41, .int x41), (42, .int x42), (43, .int (p.2))] [] σ [(q2, 44, p.1), (q3, 45, a3), (q28, 5, a28), (q30, 5, a30), (q32, 5, a32), (q38, 5, a38)] g := by
  unfold g_law_2083 at h
  exact wloop_run (body := fun k2083 p => g_law_2083_b sL a0 k85 k1918 k1945 k2083 p.1 a3 x4 x5 x10 x25 x26 x27 a28 x29 a30 x31 a32 x33 x34 x35 x36 x37 a38 x39 x41 x42 p.2 σ g) (Q := (fun p r => LR l code 45 ret lw_tbl room_1 47 5558 ad [(q0, sL, a0)] (EL r) 2083 [(0, .ref q0), (1, .ref (ad 0)), (2, .ref q2), (3, .ref q3), (4, .int x4), (5, .int x5), (10, .int x10), (25, .int x25), (26, .int x26), (27, .int x27), (28, .ref q28), (29, .int x29), (30, .ref q30), (31, .int x31), (32, .ref q32), (33, .int x33), (34, .int x34), (35, .int x35), (36, .int x36), (37, .int x37), (38, .ref q38), (39, .int x39), (41, .int x41), (42, .int x42), (43, .int (p.2))] [] σ [(q2, 44, p.1), (q3, 45, a3), (q28, 5, a28), (q30, 5, a30), (q32, 5, a32), (q38, 5, a38)] g)) (fun k2083 hk2083 p r h => G_law_2083_b sL a0 k85 k1918 k1945 k2083 p.1 a3 x4 x5 x10 x25 x26 x27 a28 x29 a30 x31 a32 x33 x34 x35 x36 x37 a38 x39 x41 x42 p.2 σ g hk85 hk1918 hk1945 hk2083 r h) fuelN p r h
set_option maxHeartbeats 4000000 in
set_option maxRecDepth 100000 in
theorem G_law_2054 {l : Launch} {ad : Nat → Nat} {q0 : Nat} (sL : Nat) (a0 : Nat → Int32) (k85 : (Nat → Int32) × Int32 × HS × Nat → Option (Int32)) (k1918 : (Nat → Int32) × Int32 × (Nat → Int32) × Int32 × HS × Nat → Option (Int32)) (k1945 : (Nat → Int32) × Int32 × Int32 × Int32 × Int32 × (Nat → Int32) × Int32 × HS → Option (Int32)) {q2 : Nat} {q3 : Nat} {q28 : Nat} {q30 : Nat} {q32 : Nat} {q38 : Nat} (a2 : Nat → Int32) (a3 : Nat → Int32) (x4 : Int32) (x5 : Int32) (x10 : Int32) (x25 : Int32) (x26 : Int32) (x27 : Int32) (a28 : Nat → Int32) (x29 : Int32) (a30 : Nat → Int32) (x31 : Int32) (a32 : Nat → Int32) (x33 : Int32) (x34 : Int32) (x35 : Int32) (x36 : Int32) (a38 : Nat → Int32) (x39 : Int32) (x41 : Int32) (z0 : Int32) (z1 : Int32) (σ : HS) (g : Nat) (hk85 : ∀ (p : (Nat → Int32) × Int32 × HS × Nat) (r : Int32), k85 p = some r → LR l code 45 ret lw_tbl room_1 47 5558 ad [(q0, sL, a0)] (EL r) 85 [(0, .ref q0), (1, .ref (ad 0)), (2, .ref q2), (3, .ref q3), (4, .int x4), (5, .int (p.2.1))] [] (p.2.2.1) [(q2, 44, p.1), (q3, 45, a3)] (p.2.2.2)) (hk1918 : ∀ (q32 : Nat) (p : (Nat → Int32) × Int32 × (Nat → Int32) × Int32 × HS × Nat) (r : Int32), k1918 p = some r → LR l code 45 ret lw_tbl room_1 47 5558 ad [(q0, sL, a0)] (EL r) 1918 [(0, .ref q0), (1, .ref (ad 0)), (2, .ref q2), (3, .ref q3), (4, .int x4), (5, .int x5), (10, .int x10), (25, .int x25), (26, .int x26), (27, .int x27), (28, .ref q28), (29, .int x29), (30, .ref q30), (31, .int (p.2.1)), (32, .ref q32), (33, .int (p.2.2.2.1))] [] (p.2.2.2.2.1) [(q2, 44, p.1), (q3, 45, a3), (q28, 5, a28), (q30, 5, a30), (q32, 5, p.2.2.1)] (p.2.2.2.2.2)) (hk1945 : ∀ (p : (Nat → Int32) × Int32 × Int32 × Int32 × Int32 × (Nat → Int32) × Int32 × HS) (r : Int32), k1945 p = some r → LR l code 45 ret lw_tbl room_1 47 5558 ad [(q0, sL, a0)] (EL r) 1945 [(0, .ref q0), (1, .ref (ad 0)), (2, .ref q2), (3, .ref q3), (4, .int x4), (5, .int x5), (10, .int x10), (25, .int x25), (26, .int x26), (27, .int x27), (28, .ref q28), (29, .int x29), (30, .ref q30), (31, .int x31), (32, .ref q32), (33, .int x33), (34, .int (p.2.1)), (35, .int (p.2.2.1)), (36, .int (p.2.2.2.1)), (37, .int (p.2.2.2.2.1)), (38, .ref q38), (39, .int (p.2.2.2.2.2.2.1))] [] (p.2.2.2.2.2.2.2) [(q2, 44, p.1), (q3, 45, a3), (q28, 5, a28), (q30, 5, a30), (q32, 5, a32), (q38, 5, p.2.2.2.2.2.1)] g) (r : Int32) (h : g_law_2054 sL a0 k85 k1918 k1945 a2 a3 x4 x5 x10 x25 x26 x27 a28 x29 a30 x31 a32 x33 x34 x35 x36 a38 x39 x41 z0 z1 σ g = some r) : LR l code 45 ret lw_tbl room_1 47 5558 ad [(q0, sL, a0)] (EL r) 2054 [(0, .ref q0), (1, .ref (ad 0)), (2, .ref q2), (3, .ref q3), (4, .int x4), (5, .int x5), (10, .int x10), (25, .int x25), (26, .int x26), (27, .int x27), (28, .ref q28), (29, .int x29), (30, .ref q30), (31, .int x31), (32, .ref q32), (33, .int x33), (34, .int x34), (35, .int x35), (36, .int x36), (38, .ref q38), (39, .int x39), (41, .int x41)] [.int z0, .int z1] σ [(q2, 44, a2), (q3, 45, a3), (q28, 5, a28), (q30, 5, a30), (q32, 5, a32), (q38, 5, a38)] g := by
  unfold g_law_2054 at h
  refine LR.iadd (pc := 2054) dL_law_2054 ?_
  refine LR.istore (pc := 2055) (L2 := [(37, .int (z1 + z0)), (0, .ref q0), (1, .ref (ad 0)), (2, .ref q2), (3, .ref q3), (4, .int x4), (5, .int x5), (10, .int x10), (25, .int x25), (26, .int x26), (27, .int x27), (28, .ref q28), (29, .int x29), (30, .ref q30), (31, .int x31), (32, .ref q32), (33, .int x33), (34, .int x34), (35, .int x35), (36, .int x36), (38, .ref q38), (39, .int x39), (41, .int x41)]) dL_law_2055 (by decide) rfl ?_
  refine LR.aload_n (pc := 2057) (j := 3) dL_law_2057 rfl rfl ?_
  refine LR.bipush (pc := 2058) (v := 14) dL_law_2058 (by decide) ?_
  refine LR.iload (pc := 2060) (j := 21) dL_law_2060 rfl ?_
  refine LR.iadd (pc := 2062) dL_law_2062 ?_
  obtain ⟨c1, h⟩ := gn_some h
  refine LR.iaload (pc := 2063) (j := 0) dL_law_2063 rfl c1 ?_
  refine LR.istore (pc := 2064) (L2 := [(42, .int (a2 ((14 + x39) : Int32).toNatClampNeg)), (37, .int (z1 + z0)), (0, .ref q0), (1, .ref (ad 0)), (2, .ref q2), (3, .ref q3), (4, .int x4), (5, .int x5), (10, .int x10), (25, .int x25), (26, .int x26), (27, .int x27), (28, .ref q28), (29, .int x29), (30, .ref q30), (31, .int x31), (32, .ref q32), (33, .int x33), (34, .int x34), (35, .int x35), (36, .int x36), (38, .ref q38), (39, .int x39), (41, .int x41)]) dL_law_2064 (by decide) rfl ?_
  refine LR.aload_n (pc := 2066) (j := 3) dL_law_2066 rfl rfl ?_
  refine LR.iload (pc := 2067) (j := 0) dL_law_2067 rfl ?_
  refine LR.iload (pc := 2069) (j := 23) dL_law_2069 rfl ?_
  obtain ⟨r2, h2, h⟩ := bd_some h
  refine LR.callV (pc := 2071) (As := [.int (a2 ((14 + x39) : Int32).toNatClampNeg), .int x41]) (st := []) (ci := 8) dL_law_2071 ⟨cd_X8_swap, im_X8_swap, se_X8_swap, ini_X8⟩ ml_L_62 (A8_swap (a2 ((14 + x39) : Int32).toNatClampNeg) x41 σ _ h2) rfl rfl ⟨rfl, pd_X8_swap⟩ ⟨Nat.le_of_ble_eq_true rfl, Nat.le_of_ble_eq_true rfl⟩ ⟨rfl, rfl⟩ rfl rfl rfl (Nat.le_of_ble_eq_true rfl) ?_
  refine LR.iconst (pc := 2074) (v := 1) dL_law_2074 (by decide) ?_
  refine LR.icmp_eq (pc := 2075) (tgt := 2080) dL_law_2075 (by decide) (fun c3 => ?_) (fun c3 => ?_)
  · replace h := ite_t c3 h
    refine LR.iconst (pc := 2080) (v := 0) dL_law_2080 (by decide) ?_
    refine LR.istore (pc := 2081) (L2 := [(43, .int 0), (42, .int (a2 ((14 + x39) : Int32).toNatClampNeg)), (37, .int (z1 + z0)), (0, .ref q0), (1, .ref (ad 0)), (2, .ref q2), (3, .ref q3), (4, .int x4), (5, .int x5), (10, .int x10), (25, .int x25), (26, .int x26), (27, .int x27), (28, .ref q28), (29, .int x29), (30, .ref q30), (31, .int x31), (32, .ref q32), (33, .int x33), (34, .int x34), (35, .int x35), (36, .int x36), (38, .ref q38), (39, .int x39), (41, .int x41)]) dL_law_2081 (by decide) rfl ?_
    exact LR.pick [3, 4, 5, 6, 7, 8, 9, 10, 11, 12, 13, 14, 15, 16, 17, 18, 19, 20, 21, 2, 22, 23, 24, 1, 0] rfl (G_law_2083 sL a0 k85 k1918 k1945 a3 x4 x5 x10 x25 x26 x27 a28 x29 a30 x31 a32 x33 x34 x35 x36 (z1 + z0) a38 x39 x41 (a2 ((14 + x39) : Int32).toNatClampNeg) (r2.2) g hk85 hk1918 hk1945 (a2, 0) r h)
  · replace h := ite_f c3 h
    refine LR.iconst (pc := 2078) (v := 0) dL_law_2078 (by decide) ?_
    exact LR.fin ⟨congrArg (fun z => [Value.int z]) (Option.some.inj h), dL_law_2079⟩
set_option maxHeartbeats 4000000 in
set_option maxRecDepth 100000 in
theorem G_law_1979_b {l : Launch} {ad : Nat → Nat} {q0 : Nat} (sL : Nat) (a0 : Nat → Int32) (k85 : (Nat → Int32) × Int32 × HS × Nat → Option (Int32)) (k1918 : (Nat → Int32) × Int32 × (Nat → Int32) × Int32 × HS × Nat → Option (Int32)) (k1945 : (Nat → Int32) × Int32 × Int32 × Int32 × Int32 × (Nat → Int32) × Int32 × HS → Option (Int32)) (k1979 : Int32 × Int32 → Option (Int32)) {q2 : Nat} {q3 : Nat} {q28 : Nat} {q30 : Nat} {q32 : Nat} {q38 : Nat} (a2 : Nat → Int32) (a3 : Nat → Int32) (x4 : Int32) (x5 : Int32) (x10 : Int32) (x25 : Int32) (x26 : Int32) (x27 : Int32) (a28 : Nat → Int32) (x29 : Int32) (a30 : Nat → Int32) (x31 : Int32) (a32 : Nat → Int32) (x33 : Int32) (x34 : Int32) (x35 : Int32) (x36 : Int32) (x37 : Int32) (a38 : Nat → Int32) (x39 : Int32) (x40 : Int32) (x41 : Int32) (σ : HS) (g : Nat) (hk85 : ∀ (p : (Nat → Int32) × Int32 × HS × Nat) (r : Int32), k85 p = some r → LR l code 45 ret lw_tbl room_1 47 5558 ad [(q0, sL, a0)] (EL r) 85 [(0, .ref q0), (1, .ref (ad 0)), (2, .ref q2), (3, .ref q3), (4, .int x4), (5, .int (p.2.1))] [] (p.2.2.1) [(q2, 44, p.1), (q3, 45, a3)] (p.2.2.2)) (hk1918 : ∀ (q32 : Nat) (p : (Nat → Int32) × Int32 × (Nat → Int32) × Int32 × HS × Nat) (r : Int32), k1918 p = some r → LR l code 45 ret lw_tbl room_1 47 5558 ad [(q0, sL, a0)] (EL r) 1918 [(0, .ref q0), (1, .ref (ad 0)), (2, .ref q2), (3, .ref q3), (4, .int x4), (5, .int x5), (10, .int x10), (25, .int x25), (26, .int x26), (27, .int x27), (28, .ref q28), (29, .int x29), (30, .ref q30), (31, .int (p.2.1)), (32, .ref q32), (33, .int (p.2.2.2.1))] [] (p.2.2.2.2.1) [(q2, 44, p.1), (q3, 45, a3), (q28, 5, a28), (q30, 5, a30), (q32, 5, p.2.2.1)] (p.2.2.2.2.2)) (hk1945 : ∀ (p : (Nat → Int32) × Int32 × Int32 × Int32 × Int32 × (Nat → Int32) × Int32 × HS) (r : Int32), k1945 p = some r → LR l code 45 ret lw_tbl room_1 47 5558 ad [(q0, sL, a0)] (EL r) 1945 [(0, .ref q0), (1, .ref (ad 0)), (2, .ref q2), (3, .ref q3), (4, .int x4), (5, .int x5), (10, .int x10), (25, .int x25), (26, .int x26), (27, .int x27), (28, .ref q28), (29, .int x29), (30, .ref q30), (31, .int x31), (32, .ref q32), (33, .int x33), (34, .int (p.2.1)), (35, .int (p.2.2.1)), (36, .int (p.2.2.2.1)), (37, .int (p.2.2.2.2.1)), (38, .ref q38), (39, .int (p.2.2.2.2.2.2.1))] [] (p.2.2.2.2.2.2.2) [(q2, 44, p.1), (q3, 45, a3), (q28, 5, a28), (q30, 5, a30), (q32, 5, a32), (q38, 5, p.2.2.2.2.2.1)] g) (hk1979 : ∀ (p : Int32 × Int32) (r : Int32), k1979 p = some r → LR l code 45 ret lw_tbl room_1 47 5558 ad [(q0, sL, a0)] (EL r) 1979 [(0, .ref q0), (1, .ref (ad 0)), (2, .ref q2), (3, .ref q3), (4, .int x4), (5, .int x5), (10, .int x10), (25, .int x25), (26, .int x26), (27, .int x27), (28, .ref q28), (29, .int x29), (30, .ref q30), (31, .int x31), (32, .ref q32), (33, .int x33), (34, .int x34), (35, .int x35), (36, .int x36), (37, .int x37), (38, .ref q38), (39, .int x39), (40, .int (p.1)), (41, .int (p.2))] [] σ [(q2, 44, a2), (q3, 45, a3), (q28, 5, a28), (q30, 5, a30), (q32, 5, a32), (q38, 5, a38)] g) (r : Int32) (h : g_law_1979_b sL a0 k85 k1918 k1945 k1979 a2 a3 x4 x5 x10 x25 x26 x27 a28 x29 a30 x31 a32 x33 x34 x35 x36 x37 a38 x39 x40 x41 σ g = some r) : LR l code 45 ret lw_tbl room_1 47 5558 ad [(q0, sL, a0)] (EL r) 1979 [(0, .ref q0), (1, .ref (ad 0)), (2, .ref q2), (3, .ref q3), (4, .int x4), (5, .int x5), (10, .int x10), (25, .int x25), (26, .int x26), (27, .int x27), (28, .ref q28), (29, .int x29), (30, .ref q30), (31, .int x31), (32, .ref q32), (33, .int x33), (34, .int x34), (35, .int x35), (36, .int x36), (37, .int x37), (38, .ref q38), (39, .int x39), (40, .int x40), (41, .int x41)] [] σ [(q2, 44, a2), (q3, 45, a3), (q28, 5, a28), (q30, 5, a30), (q32, 5, a32), (q38, 5, a38)] g := by
  unfold g_law_1979_b at h
  refine LR.iload (pc := 1979) (j := 18) dL_law_1979 rfl ?_
  refine LR.iload (pc := 1981) (j := 23) dL_law_1981 rfl ?_
  refine LR.ishr (pc := 1983) dL_law_1983 ?_
  refine LR.iconst (pc := 1984) (v := 1) dL_law_1984 (by decide) ?_
  refine LR.iand (pc := 1985) dL_law_1985 ?_
  refine LR.iconst (pc := 1986) (v := 1) dL_law_1986 (by decide) ?_
  refine LR.icmp_eq (pc := 1987) (tgt := 1995) dL_law_1987 (by decide) (fun c1 => ?_) (fun c1 => ?_)
  · replace h := ite_t c1 h
    exact LR.pick [0, 1, 2, 3, 4, 5, 6, 7, 8, 9, 10, 11, 12, 13, 14, 15, 16, 17, 18, 19, 20, 21, 22, 23] rfl (G_law_1995 sL a0 k85 k1918 k1945 k1979 a2 a3 x4 x5 x10 x25 x26 x27 a28 x29 a30 x31 a32 x33 x34 x35 x36 x37 a38 x39 x40 x41 σ g hk85 hk1918 hk1945 hk1979 r h)
  · replace h := ite_f c1 h
    refine LR.iload (pc := 1990) (j := 22) dL_law_1990 rfl ?_
    refine LR.if_le (pc := 1992) (tgt := 2021) dL_law_1992 (by decide) (fun c2 => ?_) (fun c2 => ?_)
    · replace h := ite_t c2 h
      refine LR.iload (pc := 2021) (j := 18) dL_law_2021 rfl ?_
      refine LR.iconst (pc := 2023) (v := 1) dL_law_2023 (by decide) ?_
      refine LR.iload (pc := 2024) (j := 23) dL_law_2024 rfl ?_
      refine LR.ishl (pc := 2026) dL_law_2026 ?_
      refine LR.ior (pc := 2027) dL_law_2027 ?_
      refine LR.istore (pc := 2028) (L2 := [(36, .int (x36 ||| (1 <<< (x41 &&& 31)))), (0, .ref q0), (1, .ref (ad 0)), (2, .ref q2), (3, .ref q3), (4, .int x4), (5, .int x5), (10, .int x10), (25, .int x25), (26, .int x26), (27, .int x27), (28, .ref q28), (29, .int x29), (30, .ref q30), (31, .int x31), (32, .ref q32), (33, .int x33), (34, .int x34), (35, .int x35), (37, .int x37), (38, .ref q38), (39, .int x39), (40, .int x40), (41, .int x41)]) dL_law_2028 (by decide) rfl ?_
      refine LR.aload (pc := 2030) (j := 20) dL_law_2030 rfl ?_
      refine LR.iload (pc := 2032) (j := 21) dL_law_2032 rfl ?_
      refine LR.iload (pc := 2034) (j := 23) dL_law_2034 rfl ?_
      obtain ⟨c3, h⟩ := gn_some h
      obtain ⟨b4, e4, h⟩ := bd_some h
      replace e4 := Option.some.inj e4
      refine LR.iastore (pc := 2036) (j := 5) (as2 := [(q2, 44, a2), (q3, 45, a3), (q28, 5, a28), (q30, 5, a30), (q32, 5, a32), (q38, 5, b4)]) dL_law_2036 rfl c3 (by subst e4; rfl) ?_
      refine LR.iload (pc := 2037) (j := 19) dL_law_2037 rfl ?_
      refine LR.iload (pc := 2039) (j := 23) dL_law_2039 rfl ?_
      refine LR.aload (pc := 2041) (j := 13) dL_law_2041 rfl ?_
      refine LR.iload (pc := 2043) (j := 21) dL_law_2043 rfl ?_
      obtain ⟨c5, h⟩ := gn_some h
      refine LR.iaload (pc := 2045) (j := 3) dL_law_2045 rfl c5 ?_
      refine LR.icmp_ne (pc := 2046) (tgt := 2053) dL_law_2046 (by decide) (fun c6 => ?_) (fun c6 => ?_)
      · replace h := ite_f c6 h
        refine LR.iconst (pc := 2053) (v := 1) dL_law_2053 (by decide) ?_
        exact LR.pick [1, 2, 3, 4, 5, 6, 7, 8, 9, 10, 11, 12, 13, 14, 15, 16, 17, 18, 0, 20, 21, 23] rfl (G_law_2054 sL a0 k85 k1918 k1945 a2 a3 x4 x5 x10 x25 x26 x27 a28 x29 a30 x31 a32 x33 x34 x35 (x36 ||| (1 <<< (x41 &&& 31))) b4 x39 x41 1 x37 σ g hk85 hk1918 hk1945 r h)
      · replace h := ite_t c6 h
        refine LR.iconst (pc := 2049) (v := 0) dL_law_2049 (by decide) ?_
        refine LR.goto (pc := 2050) (tgt := 2054) dL_law_2050 (by decide) ?_
        exact LR.pick [1, 2, 3, 4, 5, 6, 7, 8, 9, 10, 11, 12, 13, 14, 15, 16, 17, 18, 0, 20, 21, 23] rfl (G_law_2054 sL a0 k85 k1918 k1945 a2 a3 x4 x5 x10 x25 x26 x27 a28 x29 a30 x31 a32 x33 x34 x35 (x36 ||| (1 <<< (x41 &&& 31))) b4 x39 x41 0 x37 σ g hk85 hk1918 hk1945 r h)
    · replace h := ite_f c2 h
      exact LR.pick [0, 1, 2, 3, 4, 5, 6, 7, 8, 9, 10, 11, 12, 13, 14, 15, 16, 17, 18, 19, 20, 21, 22, 23] rfl (G_law_1995 sL a0 k85 k1918 k1945 k1979 a2 a3 x4 x5 x10 x25 x26 x27 a28 x29 a30 x31 a32 x33 x34 x35 x36 x37 a38 x39 x40 x41 σ g hk85 hk1918 hk1945 hk1979 r h)
theorem G_law_1979 {l : Launch} {ad : Nat → Nat} {q0 : Nat} (sL : Nat) (a0 : Nat → Int32) (k85 : (Nat → Int32) × Int32 × HS × Nat → Option (Int32)) (k1918 : (Nat → Int32) × Int32 × (Nat → Int32) × Int32 × HS × Nat → Option (Int32)) (k1945 : (Nat → Int32) × Int32 × Int32 × Int32 × Int32 × (Nat → Int32) × Int32 × HS → Option (Int32)) {q2 : Nat} {q3 : Nat} {q28 : Nat} {q30 : Nat} {q32 : Nat} {q38 : Nat} (a2 : Nat → Int32) (a3 : Nat → Int32) (x4 : Int32) (x5 : Int32) (x10 : Int32) (x25 : Int32) (x26 : Int32) (x27 : Int32) (a28 : Nat → Int32) (x29 : Int32) (a30 : Nat → Int32) (x31 : Int32) (a32 : Nat → Int32) (x33 : Int32) (x34 : Int32) (x35 : Int32) (x36 : Int32) (x37 : Int32) (a38 : Nat → Int32) (x39 : Int32) (σ : HS) (g : Nat) (hk85 : ∀ (p : (Nat → Int32) × Int32 × HS × Nat) (r : Int32), k85 p = some r → LR l code 45 ret lw_tbl room_1 47 5558 ad [(q0, sL, a0)] (EL r) 85 [(0, .ref q0), (1, .ref (ad 0)), (2, .ref q2), (3, .ref q3), (4, .int x4), (5, .int (p.2.1))] [] (p.2.2.1) [(q2, 44, p.1), (q3, 45, a3)] (p.2.2.2)) (hk1918 : ∀ (q32 : Nat) (p : (Nat → Int32) × Int32 × (Nat → Int32) × Int32 × HS × Nat) (r : Int32), k1918 p = some r → LR l code 45 ret lw_tbl room_1 47 5558 ad [(q0, sL, a0)] (EL r) 1918 [(0, .ref q0), (1, .ref (ad 0)), (2, .ref q2), (3, .ref q3), (4, .int x4), (5, .int x5), (10, .int x10), (25, .int x25), (26, .int x26), (27, .int x27), (28, .ref q28), (29, .int x29), (30, .ref q30), (31, .int (p.2.1)), (32, .ref q32), (33, .int (p.2.2.2.1))] [] (p.2.2.2.2.1) [(q2, 44, p.1), (q3, 45, a3), (q28, 5, a28), (q30, 5, a30), (q32, 5, p.2.2.1)] (p.2.2.2.2.2)) (hk1945 : ∀ (p : (Nat → Int32) × Int32 × Int32 × Int32 × Int32 × (Nat → Int32) × Int32 × HS) (r : Int32), k1945 p = some r → LR l code 45 ret lw_tbl room_1 47 5558 ad [(q0, sL, a0)] (EL r) 1945 [(0, .ref q0), (1, .ref (ad 0)), (2, .ref q2), (3, .ref q3), (4, .int x4), (5, .int x5), (10, .int x10), (25, .int x25), (26, .int x26), (27, .int x27), (28, .ref q28), (29, .int x29), (30, .ref q30), (31, .int x31), (32, .ref q32), (33, .int x33), (34, .int (p.2.1)), (35, .int (p.2.2.1)), (36, .int (p.2.2.2.1)), (37, .int (p.2.2.2.2.1)), (38, .ref q38), (39, .int (p.2.2.2.2.2.2.1))] [] (p.2.2.2.2.2.2.2) [(q2, 44, p.1), (q3, 45, a3), (q28, 5, a28), (q30, 5, a30), (q32, 5, a32), (q38, 5, p.2.2.2.2.2.1)] g) (p : Int32 × Int32) (r : Int32) (h : g_law_1979 sL a0 k85 k1918 k1945 a2 a3 x4 x5 x10 x25 x26 x27 a28 x29 a30 x31 a32 x33 x34 x35 x36 x37 a38 x39 σ g p = some r) : LR l code 45 ret lw_tbl room_1 47 5558 ad [(q0, sL, a0)] (EL r) 1979 [(0, .ref q0), (1, .ref (ad 0)), (2, .ref q2), (3, .ref q3), (4, .int x4), (5, .int x5), (10, .int x10), (25, .int x25), (26, .int x26), (27, .int x27), (28, .ref q28), (29, .int x29), (30, .ref q30), (31, .int x31), (32, .ref q32), (33, .int x33), (34, .int x34), (35, .int x35), (36, .int x36), (37, .int x37), (38, .ref q38), (39, .int x39), (40, .int (p.1)), (41, .int (p.2))] [] σ [(q2, 44, a2), (q3, 45, a3), (q28, 5, a28), (q30, 5, a30), (q32, 5, a32), (q38, 5, a38)] g := by
  unfold g_law_1979 at h
  exact wloop_run (body := fun k1979 p => g_law_1979_b sL a0 k85 k1918 k1945 k1979 a2 a3 x4 x5 x10 x25 x26 x27 a28 x29 a30 x31 a32 x33 x34 x35 x36 x37 a38 x39 p.1 p.2 σ g) (Q := (fun p r => LR l code 45 ret lw_tbl room_1 47 5558 ad [(q0, sL, a0)] (EL r) 1979 [(0, .ref q0), (1, .ref (ad 0)), (2, .ref q2), (3, .ref q3), (4, .int x4), (5, .int x5), (10, .int x10), (25, .int x25), (26, .int x26), (27, .int x27), (28, .ref q28), (29, .int x29), (30, .ref q30), (31, .int x31), (32, .ref q32), (33, .int x33), (34, .int x34), (35, .int x35), (36, .int x36), (37, .int x37), (38, .ref q38), (39, .int x39), (40, .int (p.1)), (41, .int (p.2))] [] σ [(q2, 44, a2), (q3, 45, a3), (q28, 5, a28), (q30, 5, a30), (q32, 5, a32), (q38, 5, a38)] g)) (fun k1979 hk1979 p r h => G_law_1979_b sL a0 k85 k1918 k1945 k1979 a2 a3 x4 x5 x10 x25 x26 x27 a28 x29 a30 x31 a32 x33 x34 x35 x36 x37 a38 x39 p.1 p.2 σ g hk85 hk1918 hk1945 hk1979 r h) fuelN p r h
set_option maxHeartbeats 4000000 in
set_option maxRecDepth 100000 in
theorem G_law_1945_b {l : Launch} {ad : Nat → Nat} {q0 : Nat} (sL : Nat) (a0 : Nat → Int32) (k85 : (Nat → Int32) × Int32 × HS × Nat → Option (Int32)) (k1918 : (Nat → Int32) × Int32 × (Nat → Int32) × Int32 × HS × Nat → Option (Int32)) (k1945 : (Nat → Int32) × Int32 × Int32 × Int32 × Int32 × (Nat → Int32) × Int32 × HS → Option (Int32)) {q2 : Nat} {q3 : Nat} {q28 : Nat} {q30 : Nat} {q32 : Nat} {q38 : Nat} (a2 : Nat → Int32) (a3 : Nat → Int32) (x4 : Int32) (x5 : Int32) (x10 : Int32) (x25 : Int32) (x26 : Int32) (x27 : Int32) (a28 : Nat → Int32) (x29 : Int32) (a30 : Nat → Int32) (x31 : Int32) (a32 : Nat → Int32) (x33 : Int32) (x34 : Int32) (x35 : Int32) (x36 : Int32) (x37 : Int32) (a38 : Nat → Int32) (x39 : Int32) (σ : HS) (g : Nat) (hk85 : ∀ (p : (Nat → Int32) × Int32 × HS × Nat) (r : Int32), k85 p = some r → LR l code 45 ret lw_tbl room_1 47 5558 ad [(q0, sL, a0)] (EL r) 85 [(0, .ref q0), (1, .ref (ad 0)), (2, .ref q2), (3, .ref q3), (4, .int x4), (5, .int (p.2.1))] [] (p.2.2.1) [(q2, 44, p.1), (q3, 45, a3)] (p.2.2.2)) (hk1918 : ∀ (q32 : Nat) (p : (Nat → Int32) × Int32 × (Nat → Int32) × Int32 × HS × Nat) (r : Int32), k1918 p = some r → LR l code 45 ret lw_tbl room_1 47 5558 ad [(q0, sL, a0)] (EL r) 1918 [(0, .ref q0), (1, .ref (ad 0)), (2, .ref q2), (3, .ref q3), (4, .int x4), (5, .int x5), (10, .int x10), (25, .int x25), (26, .int x26), (27, .int x27), (28, .ref q28), (29, .int x29), (30, .ref q30), (31, .int (p.2.1)), (32, .ref q32), (33, .int (p.2.2.2.1))] [] (p.2.2.2.2.1) [(q2, 44, p.1), (q3, 45, a3), (q28, 5, a28), (q30, 5, a30), (q32, 5, p.2.2.1)] (p.2.2.2.2.2)) (hk1945 : ∀ (p : (Nat → Int32) × Int32 × Int32 × Int32 × Int32 × (Nat → Int32) × Int32 × HS) (r : Int32), k1945 p = some r → LR l code 45 ret lw_tbl room_1 47 5558 ad [(q0, sL, a0)] (EL r) 1945 [(0, .ref q0), (1, .ref (ad 0)), (2, .ref q2), (3, .ref q3), (4, .int x4), (5, .int x5), (10, .int x10), (25, .int x25), (26, .int x26), (27, .int x27), (28, .ref q28), (29, .int x29), (30, .ref q30), (31, .int x31), (32, .ref q32), (33, .int x33), (34, .int (p.2.1)), (35, .int (p.2.2.1)), (36, .int (p.2.2.2.1)), (37, .int (p.2.2.2.2.1)), (38, .ref q38), (39, .int (p.2.2.2.2.2.2.1))] [] (p.2.2.2.2.2.2.2) [(q2, 44, p.1), (q3, 45, a3), (q28, 5, a28), (q30, 5, a30), (q32, 5, a32), (q38, 5, p.2.2.2.2.2.1)] g) (r : Int32) (h : g_law_1945_b sL a0 k85 k1918 k1945 a2 a3 x4 x5 x10 x25 x26 x27 a28 x29 a30 x31 a32 x33 x34 x35 x36 x37 a38 x39 σ g = some r) : LR l code 45 ret lw_tbl room_1 47 5558 ad [(q0, sL, a0)] (EL r) 1945 [(0, .ref q0), (1, .ref (ad 0)), (2, .ref q2), (3, .ref q3), (4, .int x4), (5, .int x5), (10, .int x10), (25, .int x25), (26, .int x26), (27, .int x27), (28, .ref q28), (29, .int x29), (30, .ref q30), (31, .int x31), (32, .ref q32), (33, .int x33), (34, .int x34), (35, .int x35), (36, .int x36), (37, .int x37), (38, .ref q38), (39, .int x39)] [] σ [(q2, 44, a2), (q3, 45, a3), (q28, 5, a28), (q30, 5, a30), (q32, 5, a32), (q38, 5, a38)] g := by
  unfold g_law_1945_b at h
  refine LR.iload (pc := 1945) (j := 21) dL_law_1945 rfl ?_
  refine LR.iload (pc := 1947) (j := 4) dL_law_1947 rfl ?_
  refine LR.icmp_ge (pc := 1949) (tgt := 2144) dL_law_1949 (by decide) (fun c1 => ?_) (fun c1 => ?_)
  · replace h := ite_t c1 h
    refine LR.iconst (pc := 2144) (v := 0) dL_law_2144 (by decide) ?_
    refine LR.istore (pc := 2145) (L2 := [(39, .int 0), (0, .ref q0), (1, .ref (ad 0)), (2, .ref q2), (3, .ref q3), (4, .int x4), (5, .int x5), (10, .int x10), (25, .int x25), (26, .int x26), (27, .int x27), (28, .ref q28), (29, .int x29), (30, .ref q30), (31, .int x31), (32, .ref q32), (33, .int x33), (34, .int x34), (35, .int x35), (36, .int x36), (37, .int x37), (38, .ref q38)]) dL_law_2145 (by decide) rfl ?_
    refine LR.iconst (pc := 2147) (v := 0) dL_law_2147 (by decide) ?_
    refine LR.istore (pc := 2148) (L2 := [(40, .int 0), (39, .int 0), (0, .ref q0), (1, .ref (ad 0)), (2, .ref q2), (3, .ref q3), (4, .int x4), (5, .int x5), (10, .int x10), (25, .int x25), (26, .int x26), (27, .int x27), (28, .ref q28), (29, .int x29), (30, .ref q30), (31, .int x31), (32, .ref q32), (33, .int x33), (34, .int x34), (35, .int x35), (36, .int x36), (37, .int x37), (38, .ref q38)]) dL_law_2148 (by decide) rfl ?_
    exact LR.pick [2, 3, 4, 5, 6, 7, 8, 9, 10, 11, 12, 13, 14, 15, 16, 17, 21, 22, 1, 0] rfl (G_law_2150 sL a0 k85 k1918 a2 a3 x4 x5 x10 x25 x26 x27 a28 x29 a30 x31 a32 x33 x37 a38 g hk85 hk1918 (0, 0, σ) r h)
  · replace h := ite_f c1 h
    refine LR.iload (pc := 1952) (j := 17) dL_law_1952 rfl ?_
    refine LR.iload (pc := 1954) (j := 4) dL_law_1954 rfl ?_
    refine LR.iload (pc := 1956) (j := 21) dL_law_1956 rfl ?_
    refine LR.isub (pc := 1958) dL_law_1958 ?_
    obtain ⟨c2, h⟩ := gn_some h
    refine LR.idiv (pc := 1959) dL_law_1959 c2 ?_
    refine LR.istore (pc := 1960) (L2 := [(35, .int (x35 / (x4 - x39))), (0, .ref q0), (1, .ref (ad 0)), (2, .ref q2), (3, .ref q3), (4, .int x4), (5, .int x5), (10, .int x10), (25, .int x25), (26, .int x26), (27, .int x27), (28, .ref q28), (29, .int x29), (30, .ref q30), (31, .int x31), (32, .ref q32), (33, .int x33), (34, .int x34), (36, .int x36), (37, .int x37), (38, .ref q38), (39, .int x39)]) dL_law_1960 (by decide) rfl ?_
    refine LR.iload (pc := 1962) (j := 17) dL_law_1962 rfl ?_
    refine LR.iload (pc := 1964) (j := 0) dL_law_1964 rfl ?_
    obtain ⟨c3, h⟩ := gn_some h
    refine LR.idiv (pc := 1966) dL_law_1966 c3 ?_
    refine LR.istore (pc := 1967) (L2 := [(40, .int (x34 / (x35 / (x4 - x39)))), (35, .int (x35 / (x4 - x39))), (0, .ref q0), (1, .ref (ad 0)), (2, .ref q2), (3, .ref q3), (4, .int x4), (5, .int x5), (10, .int x10), (25, .int x25), (26, .int x26), (27, .int x27), (28, .ref q28), (29, .int x29), (30, .ref q30), (31, .int x31), (32, .ref q32), (33, .int x33), (34, .int x34), (36, .int x36), (37, .int x37), (38, .ref q38), (39, .int x39)]) dL_law_1967 (by decide) rfl ?_
    refine LR.iload (pc := 1969) (j := 18) dL_law_1969 rfl ?_
    refine LR.iload (pc := 1971) (j := 1) dL_law_1971 rfl ?_
    obtain ⟨c4, h⟩ := gn_some h
    refine LR.irem (pc := 1973) dL_law_1973 c4 ?_
    refine LR.istore (pc := 1974) (L2 := [(34, .int (x34 - x34 / (x35 / (x4 - x39)) * (x35 / (x4 - x39)))), (40, .int (x34 / (x35 / (x4 - x39)))), (35, .int (x35 / (x4 - x39))), (0, .ref q0), (1, .ref (ad 0)), (2, .ref q2), (3, .ref q3), (4, .int x4), (5, .int x5), (10, .int x10), (25, .int x25), (26, .int x26), (27, .int x27), (28, .ref q28), (29, .int x29), (30, .ref q30), (31, .int x31), (32, .ref q32), (33, .int x33), (36, .int x36), (37, .int x37), (38, .ref q38), (39, .int x39)]) dL_law_1974 (by decide) rfl ?_
    refine LR.iconst (pc := 1976) (v := 0) dL_law_1976 (by decide) ?_
    refine LR.istore (pc := 1977) (L2 := [(41, .int 0), (34, .int (x34 - x34 / (x35 / (x4 - x39)) * (x35 / (x4 - x39)))), (40, .int (x34 / (x35 / (x4 - x39)))), (35, .int (x35 / (x4 - x39))), (0, .ref q0), (1, .ref (ad 0)), (2, .ref q2), (3, .ref q3), (4, .int x4), (5, .int x5), (10, .int x10), (25, .int x25), (26, .int x26), (27, .int x27), (28, .ref q28), (29, .int x29), (30, .ref q30), (31, .int x31), (32, .ref q32), (33, .int x33), (36, .int x36), (37, .int x37), (38, .ref q38), (39, .int x39)]) dL_law_1977 (by decide) rfl ?_
    exact LR.pick [4, 5, 6, 7, 8, 9, 10, 11, 12, 13, 14, 15, 16, 17, 18, 19, 1, 3, 20, 21, 22, 23, 2, 0] rfl (G_law_1979 sL a0 k85 k1918 k1945 a2 a3 x4 x5 x10 x25 x26 x27 a28 x29 a30 x31 a32 x33 (x34 - x34 / (x35 / (x4 - x39)) * (x35 / (x4 - x39))) (x35 / (x4 - x39)) x36 x37 a38 x39 σ g hk85 hk1918 hk1945 ((x34 / (x35 / (x4 - x39))), 0) r h)
theorem G_law_1945 {l : Launch} {ad : Nat → Nat} {q0 : Nat} (sL : Nat) (a0 : Nat → Int32) (k85 : (Nat → Int32) × Int32 × HS × Nat → Option (Int32)) (k1918 : (Nat → Int32) × Int32 × (Nat → Int32) × Int32 × HS × Nat → Option (Int32)) {q2 : Nat} {q3 : Nat} {q28 : Nat} {q30 : Nat} {q32 : Nat} {q38 : Nat} (a3 : Nat → Int32) (x4 : Int32) (x5 : Int32) (x10 : Int32) (x25 : Int32) (x26 : Int32) (x27 : Int32) (a28 : Nat → Int32) (x29 : Int32) (a30 : Nat → Int32) (x31 : Int32) (a32 : Nat → Int32) (x33 : Int32) (g : Nat) (hk85 : ∀ (p : (Nat → Int32) × Int32 × HS × Nat) (r : Int32), k85 p = some r → LR l code 45 ret lw_tbl room_1 47 5558 ad [(q0, sL, a0)] (EL r) 85 [(0, .ref q0), (1, .ref (ad 0)), (2, .ref q2), (3, .ref q3), (4, .int x4), (5, .int (p.2.1))] [] (p.2.2.1) [(q2, 44, p.1), (q3, 45, a3)] (p.2.2.2)) (hk1918 : ∀ (q32 : Nat) (p : (Nat → Int32) × Int32 × (Nat → Int32) × Int32 × HS × Nat) (r : Int32), k1918 p = some r → LR l code 45 ret lw_tbl room_1 47 5558 ad [(q0, sL, a0)] (EL r) 1918 [(0, .ref q0), (1, .ref (ad 0)), (2, .ref q2), (3, .ref q3), (4, .int x4), (5, .int x5), (10, .int x10), (25, .int x25), (26, .int x26), (27, .int x27), (28, .ref q28), (29, .int x29), (30, .ref q30), (31, .int (p.2.1)), (32, .ref q32), (33, .int (p.2.2.2.1))] [] (p.2.2.2.2.1) [(q2, 44, p.1), (q3, 45, a3), (q28, 5, a28), (q30, 5, a30), (q32, 5, p.2.2.1)] (p.2.2.2.2.2)) (p : (Nat → Int32) × Int32 × Int32 × Int32 × Int32 × (Nat → Int32) × Int32 × HS) (r : Int32) (h : g_law_1945 sL a0 k85 k1918 a3 x4 x5 x10 x25 x26 x27 a28 x29 a30 x31 a32 x33 g p = some r) : LR l code 45 ret lw_tbl room_1 47 5558 ad [(q0, sL, a0)] (EL r) 1945 [(0, .ref q0), (1, .ref (ad 0)), (2, .ref q2), (3, .ref q3), (4, .int x4), (5, .int x5), (10, .int x10), (25, .int x25), (26, .int x26), (27, .int x27), (28, .ref q28), (29, .int x29), (30, .ref q30), (31, .int x31), (32, .ref q32), (33, .int x33), (34, .int (p.2.1)), (35, .int (p.2.2.1)), (36, .int (p.2.2.2.1)), (37, .int (p.2.2.2.2.1)), (38, .ref q38), (39, .int (p.2.2.2.2.2.2.1))] [] (p.2.2.2.2.2.2.2) [(q2, 44, p.1), (q3, 45, a3), (q28, 5, a28), (q30, 5, a30), (q32, 5, a32), (q38, 5, p.2.2.2.2.2.1)] g := by
  unfold g_law_1945 at h
  exact wloop_run (body := fun k1945 p => g_law_1945_b sL a0 k85 k1918 k1945 p.1 a3 x4 x5 x10 x25 x26 x27 a28 x29 a30 x31 a32 x33 p.2.1 p.2.2.1 p.2.2.2.1 p.2.2.2.2.1 p.2.2.2.2.2.1 p.2.2.2.2.2.2.1 p.2.2.2.2.2.2.2 g) (Q := (fun p r => LR l code 45 ret lw_tbl room_1 47 5558 ad [(q0, sL, a0)] (EL r) 1945 [(0, .ref q0), (1, .ref (ad 0)), (2, .ref q2), (3, .ref q3), (4, .int x4), (5, .int x5), (10, .int x10), (25, .int x25), (26, .int x26), (27, .int x27), (28, .ref q28), (29, .int x29), (30, .ref q30), (31, .int x31), (32, .ref q32), (33, .int x33), (34, .int (p.2.1)), (35, .int (p.2.2.1)), (36, .int (p.2.2.2.1)), (37, .int (p.2.2.2.2.1)), (38, .ref q38), (39, .int (p.2.2.2.2.2.2.1))] [] (p.2.2.2.2.2.2.2) [(q2, 44, p.1), (q3, 45, a3), (q28, 5, a28), (q30, 5, a30), (q32, 5, a32), (q38, 5, p.2.2.2.2.2.1)] g)) (fun k1945 hk1945 p r h => G_law_1945_b sL a0 k85 k1918 k1945 p.1 a3 x4 x5 x10 x25 x26 x27 a28 x29 a30 x31 a32 x33 p.2.1 p.2.2.1 p.2.2.2.1 p.2.2.2.2.1 p.2.2.2.2.2.1 p.2.2.2.2.2.2.1 p.2.2.2.2.2.2.2 g hk85 hk1918 hk1945 r h) fuelN p r h
set_option maxHeartbeats 4000000 in
set_option maxRecDepth 100000 in
theorem G_law_1918_b {l : Launch} {ad : Nat → Nat} {q0 : Nat} (sL : Nat) (a0 : Nat → Int32) (k85 : (Nat → Int32) × Int32 × HS × Nat → Option (Int32)) (k1918 : (Nat → Int32) × Int32 × (Nat → Int32) × Int32 × HS × Nat → Option (Int32)) {q2 : Nat} {q3 : Nat} {q28 : Nat} {q30 : Nat} {q32 : Nat} (a2 : Nat → Int32) (a3 : Nat → Int32) (x4 : Int32) (x5 : Int32) (x10 : Int32) (x25 : Int32) (x26 : Int32) (x27 : Int32) (a28 : Nat → Int32) (x29 : Int32) (a30 : Nat → Int32) (x31 : Int32) (a32 : Nat → Int32) (x33 : Int32) (σ : HS) (g : Nat) (hk85 : ∀ (p : (Nat → Int32) × Int32 × HS × Nat) (r : Int32), k85 p = some r → LR l code 45 ret lw_tbl room_1 47 5558 ad [(q0, sL, a0)] (EL r) 85 [(0, .ref q0), (1, .ref (ad 0)), (2, .ref q2), (3, .ref q3), (4, .int x4), (5, .int (p.2.1))] [] (p.2.2.1) [(q2, 44, p.1), (q3, 45, a3)] (p.2.2.2)) (hk1918 : ∀ (q32 : Nat) (p : (Nat → Int32) × Int32 × (Nat → Int32) × Int32 × HS × Nat) (r : Int32), k1918 p = some r → LR l code 45 ret lw_tbl room_1 47 5558 ad [(q0, sL, a0)] (EL r) 1918 [(0, .ref q0), (1, .ref (ad 0)), (2, .ref q2), (3, .ref q3), (4, .int x4), (5, .int x5), (10, .int x10), (25, .int x25), (26, .int x26), (27, .int x27), (28, .ref q28), (29, .int x29), (30, .ref q30), (31, .int (p.2.1)), (32, .ref q32), (33, .int (p.2.2.2.1))] [] (p.2.2.2.2.1) [(q2, 44, p.1), (q3, 45, a3), (q28, 5, a28), (q30, 5, a30), (q32, 5, p.2.2.1)] (p.2.2.2.2.2)) (r : Int32) (h : g_law_1918_b sL a0 k85 k1918 a2 a3 x4 x5 x10 x25 x26 x27 a28 x29 a30 x31 a32 x33 σ g = some r) : LR l code 45 ret lw_tbl room_1 47 5558 ad [(q0, sL, a0)] (EL r) 1918 [(0, .ref q0), (1, .ref (ad 0)), (2, .ref q2), (3, .ref q3), (4, .int x4), (5, .int x5), (10, .int x10), (25, .int x25), (26, .int x26), (27, .int x27), (28, .ref q28), (29, .int x29), (30, .ref q30), (31, .int x31), (32, .ref q32), (33, .int x33)] [] σ [(q2, 44, a2), (q3, 45, a3), (q28, 5, a28), (q30, 5, a30), (q32, 5, a32)] g := by
  unfold g_law_1918_b at h
  refine LR.iload (pc := 1918) (j := 15) dL_law_1918 rfl ?_
  refine LR.if_lt (pc := 1920) (tgt := 2223) dL_law_1920 (by decide) (fun c1 => ?_) (fun c1 => ?_)
  · replace h := ite_t c1 h
    refine LR.iload (pc := 2223) (j := 9) dL_law_2223 rfl ?_
    refine LR.iload (pc := 2225) (j := 13) dL_law_2225 rfl ?_
    refine LR.bipush (pc := 2227) (v := 99) dL_law_2227 (by decide) ?_
    refine LR.icmp_ne (pc := 2229) (tgt := 2237) dL_law_2229 (by decide) (fun c2 => ?_) (fun c2 => ?_)
    · replace h := ite_f c2 h
      refine LR.iload (pc := 2237) (j := 13) dL_law_2237 rfl ?_
      exact LR.pick [0, 1, 2, 3, 4, 5, 10, 13, 14] rfl (LR.sub (as2 := [(q2, 44, a2), (q3, 45, a3), (q28, 5, a28), (q32, 5, a32)]) [0, 1, 2, 4] rfl rfl (G_law_2239 sL a0 k85 a2 a3 x4 x5 a28 x31 a32 x31 x27 σ g hk85 r h))
    · replace h := ite_t c2 h
      refine LR.bipush (pc := 2232) (v := (-9)) dL_law_2232 (by decide) ?_
      refine LR.goto (pc := 2234) (tgt := 2239) dL_law_2234 (by decide) ?_
      exact LR.pick [0, 1, 2, 3, 4, 5, 10, 13, 14] rfl (LR.sub (as2 := [(q2, 44, a2), (q3, 45, a3), (q28, 5, a28), (q32, 5, a32)]) [0, 1, 2, 4] rfl rfl (G_law_2239 sL a0 k85 a2 a3 x4 x5 a28 x31 a32 (-9) x27 σ g hk85 r h))
  · replace h := ite_f c1 h
    refine LR.iload (pc := 1923) (j := 15) dL_law_1923 rfl ?_
    refine LR.istore (pc := 1925) (L2 := [(34, .int x33), (0, .ref q0), (1, .ref (ad 0)), (2, .ref q2), (3, .ref q3), (4, .int x4), (5, .int x5), (10, .int x10), (25, .int x25), (26, .int x26), (27, .int x27), (28, .ref q28), (29, .int x29), (30, .ref q30), (31, .int x31), (32, .ref q32), (33, .int x33)]) dL_law_1925 (by decide) rfl ?_
    refine LR.iload (pc := 1927) (j := 12) dL_law_1927 rfl ?_
    refine LR.istore (pc := 1929) (L2 := [(35, .int x29), (34, .int x33), (0, .ref q0), (1, .ref (ad 0)), (2, .ref q2), (3, .ref q3), (4, .int x4), (5, .int x5), (10, .int x10), (25, .int x25), (26, .int x26), (27, .int x27), (28, .ref q28), (29, .int x29), (30, .ref q30), (31, .int x31), (32, .ref q32), (33, .int x33)]) dL_law_1929 (by decide) rfl ?_
    refine LR.iconst (pc := 1931) (v := 0) dL_law_1931 (by decide) ?_
    refine LR.istore (pc := 1932) (L2 := [(36, .int 0), (35, .int x29), (34, .int x33), (0, .ref q0), (1, .ref (ad 0)), (2, .ref q2), (3, .ref q3), (4, .int x4), (5, .int x5), (10, .int x10), (25, .int x25), (26, .int x26), (27, .int x27), (28, .ref q28), (29, .int x29), (30, .ref q30), (31, .int x31), (32, .ref q32), (33, .int x33)]) dL_law_1932 (by decide) rfl ?_
    refine LR.iconst (pc := 1934) (v := 0) dL_law_1934 (by decide) ?_
    refine LR.istore (pc := 1935) (L2 := [(37, .int 0), (36, .int 0), (35, .int x29), (34, .int x33), (0, .ref q0), (1, .ref (ad 0)), (2, .ref q2), (3, .ref q3), (4, .int x4), (5, .int x5), (10, .int x10), (25, .int x25), (26, .int x26), (27, .int x27), (28, .ref q28), (29, .int x29), (30, .ref q30), (31, .int x31), (32, .ref q32), (33, .int x33)]) dL_law_1935 (by decide) rfl ?_
    refine LR.iconst (pc := 1937) (v := 5) dL_law_1937 (by decide) ?_
    obtain ⟨c3, h⟩ := gn_some h
    refine LR.newa (pc := 1938) (N := 5) dL_law_1938 (by decide) (by decide) (by decide) (groom c3) (fun qn3 => ?_)
    show LR l code 45 ret lw_tbl room_1 47 5558 ad [(q0, sL, a0)] (EL r) 1940 [(37, .int 0), (36, .int 0), (35, .int x29), (34, .int x33), (0, .ref q0), (1, .ref (ad 0)), (2, .ref q2), (3, .ref q3), (4, .int x4), (5, .int x5), (10, .int x10), (25, .int x25), (26, .int x26), (27, .int x27), (28, .ref q28), (29, .int x29), (30, .ref q30), (31, .int x31), (32, .ref q32), (33, .int x33)] [.ref qn3] σ [(q2, 44, a2), (q3, 45, a3), (q28, 5, a28), (q30, 5, a30), (q32, 5, a32), (qn3, 5, (fun _ => 0))] (g + 1)
    refine LR.astore (pc := 1940) (L2 := [(38, .ref qn3), (37, .int 0), (36, .int 0), (35, .int x29), (34, .int x33), (0, .ref q0), (1, .ref (ad 0)), (2, .ref q2), (3, .ref q3), (4, .int x4), (5, .int x5), (10, .int x10), (25, .int x25), (26, .int x26), (27, .int x27), (28, .ref q28), (29, .int x29), (30, .ref q30), (31, .int x31), (32, .ref q32), (33, .int x33)]) dL_law_1940 (by decide) rfl ?_
    refine LR.iconst (pc := 1942) (v := 0) dL_law_1942 (by decide) ?_
    refine LR.istore (pc := 1943) (L2 := [(39, .int 0), (38, .ref qn3), (37, .int 0), (36, .int 0), (35, .int x29), (34, .int x33), (0, .ref q0), (1, .ref (ad 0)), (2, .ref q2), (3, .ref q3), (4, .int x4), (5, .int x5), (10, .int x10), (25, .int x25), (26, .int x26), (27, .int x27), (28, .ref q28), (29, .int x29), (30, .ref q30), (31, .int x31), (32, .ref q32), (33, .int x33)]) dL_law_1943 (by decide) rfl ?_
    exact LR.pick [6, 7, 8, 9, 10, 11, 12, 13, 14, 15, 16, 17, 18, 19, 20, 21, 5, 4, 3, 2, 1, 0] rfl (G_law_1945 sL a0 k85 k1918 a3 x4 x5 x10 x25 x26 x27 a28 x29 a30 x31 a32 x33 (g + 1) hk85 hk1918 (a2, x33, x29, 0, 0, (fun _ => 0), 0, σ) r h)
theorem G_law_1918 {l : Launch} {ad : Nat → Nat} {q0 : Nat} (sL : Nat) (a0 : Nat → Int32) (k85 : (Nat → Int32) × Int32 × HS × Nat → Option (Int32)) {q2 : Nat} {q3 : Nat} {q28 : Nat} {q30 : Nat} (a3 : Nat → Int32) (x4 : Int32) (x5 : Int32) (x10 : Int32) (x25 : Int32) (x26 : Int32) (x27 : Int32) (a28 : Nat → Int32) (x29 : Int32) (a30 : Nat → Int32) (hk85 : ∀ (p : (Nat → Int32) × Int32 × HS × Nat) (r : Int32), k85 p = some r → LR l code 45 ret lw_tbl room_1 47 5558 ad [(q0, sL, a0)] (EL r) 85 [(0, .ref q0), (1, .ref (ad 0)), (2, .ref q2), (3, .ref q3), (4, .int x4), (5, .int (p.2.1))] [] (p.2.2.1) [(q2, 44, p.1), (q3, 45, a3)] (p.2.2.2)) (q32 : Nat) (p : (Nat → Int32) × Int32 × (Nat → Int32) × Int32 × HS × Nat) (r : Int32) (h : g_law_1918 sL a0 k85 a3 x4 x5 x10 x25 x26 x27 a28 x29 a30 p = some r) : LR l code 45 ret lw_tbl room_1 47 5558 ad [(q0, sL, a0)] (EL r) 1918 [(0, .ref q0), (1, .ref (ad 0)), (2, .ref q2), (3, .ref q3), (4, .int x4), (5, .int x5), (10, .int x10), (25, .int x25), (26, .int x26), (27, .int x27), (28, .ref q28), (29, .int x29), (30, .ref q30), (31, .int (p.2.1)), (32, .ref q32), (33, .int (p.2.2.2.1))] [] (p.2.2.2.2.1) [(q2, 44, p.1), (q3, 45, a3), (q28, 5, a28), (q30, 5, a30), (q32, 5, p.2.2.1)] (p.2.2.2.2.2) := by
  unfold g_law_1918 at h
  exact wloop_run (body := fun k1918 p => g_law_1918_b sL a0 k85 k1918 p.1 a3 x4 x5 x10 x25 x26 x27 a28 x29 a30 p.2.1 p.2.2.1 p.2.2.2.1 p.2.2.2.2.1 p.2.2.2.2.2) (Q := (fun p r => ∀ (q32 : Nat), LR l code 45 ret lw_tbl room_1 47 5558 ad [(q0, sL, a0)] (EL r) 1918 [(0, .ref q0), (1, .ref (ad 0)), (2, .ref q2), (3, .ref q3), (4, .int x4), (5, .int x5), (10, .int x10), (25, .int x25), (26, .int x26), (27, .int x27), (28, .ref q28), (29, .int x29), (30, .ref q30), (31, .int (p.2.1)), (32, .ref q32), (33, .int (p.2.2.2.1))] [] (p.2.2.2.2.1) [(q2, 44, p.1), (q3, 45, a3), (q28, 5, a28), (q30, 5, a30), (q32, 5, p.2.2.1)] (p.2.2.2.2.2))) (fun k1918 hk1918 p r h q32 => G_law_1918_b sL a0 k85 k1918 p.1 a3 x4 x5 x10 x25 x26 x27 a28 x29 a30 p.2.1 p.2.2.1 p.2.2.2.1 p.2.2.2.2.1 p.2.2.2.2.2 hk85 (fun q32 p r z => hk1918 p r z q32) r h) fuelN p r h q32
set_option maxHeartbeats 4000000 in
set_option maxRecDepth 100000 in
theorem G_law_1878_b {l : Launch} {ad : Nat → Nat} {q0 : Nat} (sL : Nat) (a0 : Nat → Int32) (k85 : (Nat → Int32) × Int32 × HS × Nat → Option (Int32)) (k1878 : (Nat → Int32) × Int32 → Option (Int32)) {q2 : Nat} {q3 : Nat} {q28 : Nat} {q30 : Nat} (a2 : Nat → Int32) (a3 : Nat → Int32) (x4 : Int32) (x5 : Int32) (x10 : Int32) (x25 : Int32) (x26 : Int32) (x27 : Int32) (a28 : Nat → Int32) (x29 : Int32) (a30 : Nat → Int32) (x31 : Int32) (σ : HS) (g : Nat) (hk85 : ∀ (p : (Nat → Int32) × Int32 × HS × Nat) (r : Int32), k85 p = some r → LR l code 45 ret lw_tbl room_1 47 5558 ad [(q0, sL, a0)] (EL r) 85 [(0, .ref q0), (1, .ref (ad 0)), (2, .ref q2), (3, .ref q3), (4, .int x4), (5, .int (p.2.1))] [] (p.2.2.1) [(q2, 44, p.1), (q3, 45, a3)] (p.2.2.2)) (hk1878 : ∀ (p : (Nat → Int32) × Int32) (r : Int32), k1878 p = some r → LR l code 45 ret lw_tbl room_1 47 5558 ad [(q0, sL, a0)] (EL r) 1878 [(0, .ref q0), (1, .ref (ad 0)), (2, .ref q2), (3, .ref q3), (4, .int x4), (5, .int x5), (10, .int x10), (25, .int x25), (26, .int x26), (27, .int x27), (28, .ref q28), (29, .int x29), (30, .ref q30), (31, .int (p.2))] [] σ [(q2, 44, a2), (q3, 45, a3), (q28, 5, a28), (q30, 5, p.1)] g) (r : Int32) (h : g_law_1878_b sL a0 k85 k1878 a2 a3 x4 x5 x10 x25 x26 x27 a28 x29 a30 x31 σ g = some r) : LR l code 45 ret lw_tbl room_1 47 5558 ad [(q0, sL, a0)] (EL r) 1878 [(0, .ref q0), (1, .ref (ad 0)), (2, .ref q2), (3, .ref q3), (4, .int x4), (5, .int x5), (10, .int x10), (25, .int x25), (26, .int x26), (27, .int x27), (28, .ref q28), (29, .int x29), (30, .ref q30), (31, .int x31)] [] σ [(q2, 44, a2), (q3, 45, a3), (q28, 5, a28), (q30, 5, a30)] g := by
  unfold g_law_1878_b at h
  refine LR.iload (pc := 1878) (j := 13) dL_law_1878 rfl ?_
  refine LR.iload (pc := 1880) (j := 4) dL_law_1880 rfl ?_
  refine LR.icmp_ge (pc := 1882) (tgt := 1903) dL_law_1882 (by decide) (fun c1 => ?_) (fun c1 => ?_)
  · replace h := ite_t c1 h
    refine LR.bipush (pc := 1903) (v := 99) dL_law_1903 (by decide) ?_
    refine LR.istore (pc := 1905) (L2 := [(31, .int 99), (0, .ref q0), (1, .ref (ad 0)), (2, .ref q2), (3, .ref q3), (4, .int x4), (5, .int x5), (10, .int x10), (25, .int x25), (26, .int x26), (27, .int x27), (28, .ref q28), (29, .int x29), (30, .ref q30)]) dL_law_1905 (by decide) rfl ?_
    refine LR.iconst (pc := 1907) (v := 5) dL_law_1907 (by decide) ?_
    obtain ⟨c2, h⟩ := gn_some h
    refine LR.newa (pc := 1908) (N := 5) dL_law_1908 (by decide) (by decide) (by decide) (groom c2) (fun qn2 => ?_)
    show LR l code 45 ret lw_tbl room_1 47 5558 ad [(q0, sL, a0)] (EL r) 1910 [(31, .int 99), (0, .ref q0), (1, .ref (ad 0)), (2, .ref q2), (3, .ref q3), (4, .int x4), (5, .int x5), (10, .int x10), (25, .int x25), (26, .int x26), (27, .int x27), (28, .ref q28), (29, .int x29), (30, .ref q30)] [.ref qn2] σ [(q2, 44, a2), (q3, 45, a3), (q28, 5, a28), (q30, 5, a30), (qn2, 5, (fun _ => 0))] (g + 1)
    refine LR.astore (pc := 1910) (L2 := [(32, .ref qn2), (31, .int 99), (0, .ref q0), (1, .ref (ad 0)), (2, .ref q2), (3, .ref q3), (4, .int x4), (5, .int x5), (10, .int x10), (25, .int x25), (26, .int x26), (27, .int x27), (28, .ref q28), (29, .int x29), (30, .ref q30)]) dL_law_1910 (by decide) rfl ?_
    refine LR.iload (pc := 1912) (j := 13) dL_law_1912 rfl ?_
    refine LR.iconst (pc := 1914) (v := 1) dL_law_1914 (by decide) ?_
    refine LR.isub (pc := 1915) dL_law_1915 ?_
    refine LR.istore (pc := 1916) (L2 := [(33, .int (x29 - 1)), (32, .ref qn2), (31, .int 99), (0, .ref q0), (1, .ref (ad 0)), (2, .ref q2), (3, .ref q3), (4, .int x4), (5, .int x5), (10, .int x10), (25, .int x25), (26, .int x26), (27, .int x27), (28, .ref q28), (29, .int x29), (30, .ref q30)]) dL_law_1916 (by decide) rfl ?_
    exact LR.pick [3, 4, 5, 6, 7, 8, 9, 10, 11, 12, 13, 14, 15, 2, 1, 0] rfl (G_law_1918 sL a0 k85 a3 x4 x5 x10 x25 x26 x27 a28 x29 a30 hk85 qn2 (a2, 99, (fun _ => 0), (x29 - 1), σ, (g + 1)) r h)
  · replace h := ite_f c1 h
    refine LR.aload (pc := 1885) (j := 12) dL_law_1885 rfl ?_
    refine LR.iload (pc := 1887) (j := 13) dL_law_1887 rfl ?_
    refine LR.aload_n (pc := 1889) (j := 2) dL_law_1889 rfl rfl ?_
    refine LR.bipush (pc := 1890) (v := 14) dL_law_1890 (by decide) ?_
    refine LR.iload (pc := 1892) (j := 13) dL_law_1892 rfl ?_
    refine LR.iadd (pc := 1894) dL_law_1894 ?_
    obtain ⟨c3, h⟩ := gn_some h
    refine LR.iaload (pc := 1895) (j := 0) dL_law_1895 rfl c3 ?_
    obtain ⟨c4, h⟩ := gn_some h
    obtain ⟨b5, e5, h⟩ := bd_some h
    replace e5 := Option.some.inj e5
    refine LR.iastore (pc := 1896) (j := 3) (as2 := [(q2, 44, a2), (q3, 45, a3), (q28, 5, a28), (q30, 5, b5)]) dL_law_1896 rfl c4 (by subst e5; rfl) ?_
    refine LR.iinc (pc := 1897) (j := 13) (v := (x31 + 1)) (L2 := [(31, .int (x31 + 1)), (0, .ref q0), (1, .ref (ad 0)), (2, .ref q2), (3, .ref q3), (4, .int x4), (5, .int x5), (10, .int x10), (25, .int x25), (26, .int x26), (27, .int x27), (28, .ref q28), (29, .int x29), (30, .ref q30)]) dL_law_1897 rfl rfl (by decide) rfl ?_
    refine LR.goto (pc := 1900) (tgt := 1878) dL_law_1900 (by decide) ?_
    exact LR.pick [1, 2, 3, 4, 5, 6, 7, 8, 9, 10, 11, 12, 13, 0] rfl (hk1878 (b5, (x31 + 1)) r h)
theorem G_law_1878 {l : Launch} {ad : Nat → Nat} {q0 : Nat} (sL : Nat) (a0 : Nat → Int32) (k85 : (Nat → Int32) × Int32 × HS × Nat → Option (Int32)) {q2 : Nat} {q3 : Nat} {q28 : Nat} {q30 : Nat} (a2 : Nat → Int32) (a3 : Nat → Int32) (x4 : Int32) (x5 : Int32) (x10 : Int32) (x25 : Int32) (x26 : Int32) (x27 : Int32) (a28 : Nat → Int32) (x29 : Int32) (σ : HS) (g : Nat) (hk85 : ∀ (p : (Nat → Int32) × Int32 × HS × Nat) (r : Int32), k85 p = some r → LR l code 45 ret lw_tbl room_1 47 5558 ad [(q0, sL, a0)] (EL r) 85 [(0, .ref q0), (1, .ref (ad 0)), (2, .ref q2), (3, .ref q3), (4, .int x4), (5, .int (p.2.1))] [] (p.2.2.1) [(q2, 44, p.1), (q3, 45, a3)] (p.2.2.2)) (p : (Nat → Int32) × Int32) (r : Int32) (h : g_law_1878 sL a0 k85 a2 a3 x4 x5 x10 x25 x26 x27 a28 x29 σ g p = some r) : LR l code 45 ret lw_tbl room_1 47 5558 ad [(q0, sL, a0)] (EL r) 1878 [(0, .ref q0), (1, .ref (ad 0)), (2, .ref q2), (3, .ref q3), (4, .int x4), (5, .int x5), (10, .int x10), (25, .int x25), (26, .int x26), (27, .int x27), (28, .ref q28), (29, .int x29), (30, .ref q30), (31, .int (p.2))] [] σ [(q2, 44, a2), (q3, 45, a3), (q28, 5, a28), (q30, 5, p.1)] g := by
  unfold g_law_1878 at h
  exact wloop_run (body := fun k1878 p => g_law_1878_b sL a0 k85 k1878 a2 a3 x4 x5 x10 x25 x26 x27 a28 x29 p.1 p.2 σ g) (Q := (fun p r => LR l code 45 ret lw_tbl room_1 47 5558 ad [(q0, sL, a0)] (EL r) 1878 [(0, .ref q0), (1, .ref (ad 0)), (2, .ref q2), (3, .ref q3), (4, .int x4), (5, .int x5), (10, .int x10), (25, .int x25), (26, .int x26), (27, .int x27), (28, .ref q28), (29, .int x29), (30, .ref q30), (31, .int (p.2))] [] σ [(q2, 44, a2), (q3, 45, a3), (q28, 5, a28), (q30, 5, p.1)] g)) (fun k1878 hk1878 p r h => G_law_1878_b sL a0 k85 k1878 a2 a3 x4 x5 x10 x25 x26 x27 a28 x29 p.1 p.2 σ g hk85 hk1878 r h) fuelN p r h
set_option maxHeartbeats 4000000 in
set_option maxRecDepth 100000 in
theorem G_law_1850_b {l : Launch} {ad : Nat → Nat} {q0 : Nat} (sL : Nat) (a0 : Nat → Int32) (k85 : (Nat → Int32) × Int32 × HS × Nat → Option (Int32)) (k1850 : Int32 × Int32 → Option (Int32)) {q2 : Nat} {q3 : Nat} {q28 : Nat} (a2 : Nat → Int32) (a3 : Nat → Int32) (x4 : Int32) (x5 : Int32) (x10 : Int32) (x25 : Int32) (x26 : Int32) (x27 : Int32) (a28 : Nat → Int32) (x29 : Int32) (x30 : Int32) (σ : HS) (g : Nat) (hk85 : ∀ (p : (Nat → Int32) × Int32 × HS × Nat) (r : Int32), k85 p = some r → LR l code 45 ret lw_tbl room_1 47 5558 ad [(q0, sL, a0)] (EL r) 85 [(0, .ref q0), (1, .ref (ad 0)), (2, .ref q2), (3, .ref q3), (4, .int x4), (5, .int (p.2.1))] [] (p.2.2.1) [(q2, 44, p.1), (q3, 45, a3)] (p.2.2.2)) (hk1850 : ∀ (p : Int32 × Int32) (r : Int32), k1850 p = some r → LR l code 45 ret lw_tbl room_1 47 5558 ad [(q0, sL, a0)] (EL r) 1850 [(0, .ref q0), (1, .ref (ad 0)), (2, .ref q2), (3, .ref q3), (4, .int x4), (5, .int x5), (10, .int x10), (25, .int x25), (26, .int x26), (27, .int x27), (28, .ref q28), (29, .int (p.1)), (30, .int (p.2))] [] σ [(q2, 44, a2), (q3, 45, a3), (q28, 5, a28)] g) (r : Int32) (h : g_law_1850_b sL a0 k85 k1850 a2 a3 x4 x5 x10 x25 x26 x27 a28 x29 x30 σ g = some r) : LR l code 45 ret lw_tbl room_1 47 5558 ad [(q0, sL, a0)] (EL r) 1850 [(0, .ref q0), (1, .ref (ad 0)), (2, .ref q2), (3, .ref q3), (4, .int x4), (5, .int x5), (10, .int x10), (25, .int x25), (26, .int x26), (27, .int x27), (28, .ref q28), (29, .int x29), (30, .int x30)] [] σ [(q2, 44, a2), (q3, 45, a3), (q28, 5, a28)] g := by
  unfold g_law_1850_b at h
  refine LR.iload (pc := 1850) (j := 12) dL_law_1850 rfl ?_
  refine LR.iload (pc := 1852) (j := 4) dL_law_1852 rfl ?_
  refine LR.icmp_gt (pc := 1854) (tgt := 1870) dL_law_1854 (by decide) (fun c1 => ?_) (fun c1 => ?_)
  · replace h := ite_t c1 h
    refine LR.iconst (pc := 1870) (v := 5) dL_law_1870 (by decide) ?_
    obtain ⟨c2, h⟩ := gn_some h
    refine LR.newa (pc := 1871) (N := 5) dL_law_1871 (by decide) (by decide) (by decide) (groom c2) (fun qn2 => ?_)
    show LR l code 45 ret lw_tbl room_1 47 5558 ad [(q0, sL, a0)] (EL r) 1873 [(0, .ref q0), (1, .ref (ad 0)), (2, .ref q2), (3, .ref q3), (4, .int x4), (5, .int x5), (10, .int x10), (25, .int x25), (26, .int x26), (27, .int x27), (28, .ref q28), (29, .int x29), (30, .int x30)] [.ref qn2] σ [(q2, 44, a2), (q3, 45, a3), (q28, 5, a28), (qn2, 5, (fun _ => 0))] (g + 1)
    refine LR.astore (pc := 1873) (L2 := [(30, .ref qn2), (0, .ref q0), (1, .ref (ad 0)), (2, .ref q2), (3, .ref q3), (4, .int x4), (5, .int x5), (10, .int x10), (25, .int x25), (26, .int x26), (27, .int x27), (28, .ref q28), (29, .int x29)]) dL_law_1873 (by decide) rfl ?_
    refine LR.iconst (pc := 1875) (v := 0) dL_law_1875 (by decide) ?_
    refine LR.istore (pc := 1876) (L2 := [(31, .int 0), (30, .ref qn2), (0, .ref q0), (1, .ref (ad 0)), (2, .ref q2), (3, .ref q3), (4, .int x4), (5, .int x5), (10, .int x10), (25, .int x25), (26, .int x26), (27, .int x27), (28, .ref q28), (29, .int x29)]) dL_law_1876 (by decide) rfl ?_
    exact LR.pick [2, 3, 4, 5, 6, 7, 8, 9, 10, 11, 12, 13, 1, 0] rfl (G_law_1878 sL a0 k85 a2 a3 x4 x5 x10 x25 x26 x27 a28 x29 σ (g + 1) hk85 ((fun _ => 0), 0) r h)
  · replace h := ite_f c1 h
    refine LR.iload (pc := 1857) (j := 11) dL_law_1857 rfl ?_
    refine LR.iload (pc := 1859) (j := 12) dL_law_1859 rfl ?_
    refine LR.imul (pc := 1861) dL_law_1861 ?_
    refine LR.istore (pc := 1862) (L2 := [(29, .int (x29 * x30)), (0, .ref q0), (1, .ref (ad 0)), (2, .ref q2), (3, .ref q3), (4, .int x4), (5, .int x5), (10, .int x10), (25, .int x25), (26, .int x26), (27, .int x27), (28, .ref q28), (30, .int x30)]) dL_law_1862 (by decide) rfl ?_
    refine LR.iinc (pc := 1864) (j := 12) (v := (x30 + 1)) (L2 := [(30, .int (x30 + 1)), (29, .int (x29 * x30)), (0, .ref q0), (1, .ref (ad 0)), (2, .ref q2), (3, .ref q3), (4, .int x4), (5, .int x5), (10, .int x10), (25, .int x25), (26, .int x26), (27, .int x27), (28, .ref q28)]) dL_law_1864 rfl rfl (by decide) rfl ?_
    refine LR.goto (pc := 1867) (tgt := 1850) dL_law_1867 (by decide) ?_
    exact LR.pick [2, 3, 4, 5, 6, 7, 8, 9, 10, 11, 12, 1, 0] rfl (hk1850 ((x29 * x30), (x30 + 1)) r h)
theorem G_law_1850 {l : Launch} {ad : Nat → Nat} {q0 : Nat} (sL : Nat) (a0 : Nat → Int32) (k85 : (Nat → Int32) × Int32 × HS × Nat → Option (Int32)) {q2 : Nat} {q3 : Nat} {q28 : Nat} (a2 : Nat → Int32) (a3 : Nat → Int32) (x4 : Int32) (x5 : Int32) (x10 : Int32) (x25 : Int32) (x26 : Int32) (x27 : Int32) (a28 : Nat → Int32) (σ : HS) (g : Nat) (hk85 : ∀ (p : (Nat → Int32) × Int32 × HS × Nat) (r : Int32), k85 p = some r → LR l code 45 ret lw_tbl room_1 47 5558 ad [(q0, sL, a0)] (EL r) 85 [(0, .ref q0), (1, .ref (ad 0)), (2, .ref q2), (3, .ref q3), (4, .int x4), (5, .int (p.2.1))] [] (p.2.2.1) [(q2, 44, p.1), (q3, 45, a3)] (p.2.2.2)) (p : Int32 × Int32) (r : Int32) (h : g_law_1850 sL a0 k85 a2 a3 x4 x5 x10 x25 x26 x27 a28 σ g p = some r) : LR l code 45 ret lw_tbl room_1 47 5558 ad [(q0, sL, a0)] (EL r) 1850 [(0, .ref q0), (1, .ref (ad 0)), (2, .ref q2), (3, .ref q3), (4, .int x4), (5, .int x5), (10, .int x10), (25, .int x25), (26, .int x26), (27, .int x27), (28, .ref q28), (29, .int (p.1)), (30, .int (p.2))] [] σ [(q2, 44, a2), (q3, 45, a3), (q28, 5, a28)] g := by
  unfold g_law_1850 at h
  exact wloop_run (body := fun k1850 p => g_law_1850_b sL a0 k85 k1850 a2 a3 x4 x5 x10 x25 x26 x27 a28 p.1 p.2 σ g) (Q := (fun p r => LR l code 45 ret lw_tbl room_1 47 5558 ad [(q0, sL, a0)] (EL r) 1850 [(0, .ref q0), (1, .ref (ad 0)), (2, .ref q2), (3, .ref q3), (4, .int x4), (5, .int x5), (10, .int x10), (25, .int x25), (26, .int x26), (27, .int x27), (28, .ref q28), (29, .int (p.1)), (30, .int (p.2))] [] σ [(q2, 44, a2), (q3, 45, a3), (q28, 5, a28)] g)) (fun k1850 hk1850 p r h => G_law_1850_b sL a0 k85 k1850 a2 a3 x4 x5 x10 x25 x26 x27 a28 p.1 p.2 σ g hk85 hk1850 r h) fuelN p r h
set_option maxHeartbeats 4000000 in
set_option maxRecDepth 100000 in
theorem G_law_1773_b {l : Launch} {ad : Nat → Nat} {q0 : Nat} (sL : Nat) (a0 : Nat → Int32) (k85 : (Nat → Int32) × Int32 × HS × Nat → Option (Int32)) (k1773 : (Nat → Int32) × Int32 × HS → Option (Int32)) {q2 : Nat} {q3 : Nat} {q28 : Nat} (a2 : Nat → Int32) (a3 : Nat → Int32) (x4 : Int32) (x5 : Int32) (x10 : Int32) (x25 : Int32) (x26 : Int32) (x27 : Int32) (a28 : Nat → Int32) (x29 : Int32) (σ : HS) (g : Nat) (hk85 : ∀ (p : (Nat → Int32) × Int32 × HS × Nat) (r : Int32), k85 p = some r → LR l code 45 ret lw_tbl room_1 47 5558 ad [(q0, sL, a0)] (EL r) 85 [(0, .ref q0), (1, .ref (ad 0)), (2, .ref q2), (3, .ref q3), (4, .int x4), (5, .int (p.2.1))] [] (p.2.2.1) [(q2, 44, p.1), (q3, 45, a3)] (p.2.2.2)) (hk1773 : ∀ (p : (Nat → Int32) × Int32 × HS) (r : Int32), k1773 p = some r → LR l code 45 ret lw_tbl room_1 47 5558 ad [(q0, sL, a0)] (EL r) 1773 [(0, .ref q0), (1, .ref (ad 0)), (2, .ref q2), (3, .ref q3), (4, .int x4), (5, .int x5), (10, .int x10), (25, .int x25), (26, .int x26), (27, .int x27), (28, .ref q28), (29, .int (p.2.1))] [] (p.2.2) [(q2, 44, a2), (q3, 45, a3), (q28, 5, p.1)] g) (r : Int32) (h : g_law_1773_b sL a0 k85 k1773 a2 a3 x4 x5 x10 x25 x26 x27 a28 x29 σ g = some r) : LR l code 45 ret lw_tbl room_1 47 5558 ad [(q0, sL, a0)] (EL r) 1773 [(0, .ref q0), (1, .ref (ad 0)), (2, .ref q2), (3, .ref q3), (4, .int x4), (5, .int x5), (10, .int x10), (25, .int x25), (26, .int x26), (27, .int x27), (28, .ref q28), (29, .int x29)] [] σ [(q2, 44, a2), (q3, 45, a3), (q28, 5, a28)] g := by
  unfold g_law_1773_b at h
  refine LR.iload (pc := 1773) (j := 11) dL_law_1773 rfl ?_
  refine LR.iload (pc := 1775) (j := 4) dL_law_1775 rfl ?_
  refine LR.icmp_ge (pc := 1777) (tgt := 1801) dL_law_1777 (by decide) (fun c1 => ?_) (fun c1 => ?_)
  · replace h := ite_t c1 h
    refine LR.aload_n (pc := 1801) (j := 1) dL_law_1801 rfl rfl ?_
    refine LR.iload (pc := 1802) (j := 7) dL_law_1802 rfl ?_
    refine LR.iload (pc := 1804) (j := 8) dL_law_1804 rfl ?_
    refine LR.iload (pc := 1806) (j := 4) dL_law_1806 rfl ?_
    obtain ⟨r2, h2, h⟩ := bd_some h
    refine LR.callV (pc := 1808) (As := [.int x25, .int x26, .int x4]) (st := []) (ci := 8) dL_law_1808 ⟨cd_X8_motion, im_X8_motion, se_X8_motion, ini_X8⟩ ml_L_124 (A8_motion x25 x26 x4 σ _ h2) rfl rfl ⟨rfl, pd_X8_motion⟩ ⟨Nat.le_of_ble_eq_true rfl, Nat.le_of_ble_eq_true rfl⟩ ⟨rfl, rfl⟩ rfl rfl rfl (Nat.le_of_ble_eq_true rfl) ?_
    refine LR.iconst (pc := 1811) (v := (-1)) dL_law_1811 (by decide) ?_
    refine LR.icmp_ne (pc := 1812) (tgt := 1842) dL_law_1812 (by decide) (fun c3 => ?_) (fun c3 => ?_)
    · replace h := ite_f c3 h
      refine LR.iconst (pc := 1842) (v := 0) dL_law_1842 (by decide) ?_
      exact LR.fin ⟨congrArg (fun z => [Value.int z]) (Option.some.inj h), dL_law_1843⟩
    · replace h := ite_t c3 h
      refine LR.aload_n (pc := 1815) (j := 1) dL_law_1815 rfl rfl ?_
      refine LR.iload (pc := 1816) (j := 7) dL_law_1816 rfl ?_
      refine LR.aload_n (pc := 1818) (j := 2) dL_law_1818 rfl rfl ?_
      refine LR.bipush (pc := 1819) (v := 9) dL_law_1819 (by decide) ?_
      refine LR.iload (pc := 1821) (j := 7) dL_law_1821 rfl ?_
      refine LR.iadd (pc := 1823) dL_law_1823 ?_
      obtain ⟨c4, h⟩ := gn_some h
      refine LR.iaload (pc := 1824) (j := 0) dL_law_1824 rfl c4 ?_
      refine LR.iconst (pc := 1825) (v := 0) dL_law_1825 (by decide) ?_
      obtain ⟨r5, h5, h⟩ := bd_some h
      refine LR.callV (pc := 1826) (As := [.int x25, .int (a2 ((9 + x25) : Int32).toNatClampNeg), .int 0]) (st := []) (ci := 8) dL_law_1826 ⟨cd_X8_motion, im_X8_motion, se_X8_motion, ini_X8⟩ ml_L_124 (A8_motion x25 (a2 ((9 + x25) : Int32).toNatClampNeg) 0 (r2.2) _ h5) rfl rfl ⟨rfl, pd_X8_motion⟩ ⟨Nat.le_of_ble_eq_true rfl, Nat.le_of_ble_eq_true rfl⟩ ⟨rfl, rfl⟩ rfl rfl rfl (Nat.le_of_ble_eq_true rfl) ?_
      refine LR.iconst (pc := 1829) (v := (-1)) dL_law_1829 (by decide) ?_
      refine LR.icmp_ne (pc := 1830) (tgt := 1842) dL_law_1830 (by decide) (fun c6 => ?_) (fun c6 => ?_)
      · replace h := ite_f c6 h
        refine LR.iconst (pc := 1842) (v := 0) dL_law_1842 (by decide) ?_
        exact LR.fin ⟨congrArg (fun z => [Value.int z]) (Option.some.inj h), dL_law_1843⟩
      · replace h := ite_t c6 h
        refine LR.aload_n (pc := 1833) (j := 1) dL_law_1833 rfl rfl ?_
        refine LR.iconst (pc := 1834) (v := 5) dL_law_1834 (by decide) ?_
        obtain ⟨r7, h7, h⟩ := bd_some h
        refine LR.callV (pc := 1835) (As := [.int 5]) (st := []) (ci := 8) dL_law_1835 ⟨cd_X8_many, im_X8_many, se_X8_many, ini_X8⟩ ml_L_113 (A8_many 5 (r5.2) _ h7) rfl rfl ⟨rfl, pd_X8_many⟩ ⟨Nat.le_of_ble_eq_true rfl, Nat.le_of_ble_eq_true rfl⟩ ⟨rfl, rfl⟩ rfl rfl rfl (Nat.le_of_ble_eq_true rfl) ?_
        refine LR.iconst (pc := 1838) (v := 4) dL_law_1838 (by decide) ?_
        refine LR.icmp_eq (pc := 1839) (tgt := 1844) dL_law_1839 (by decide) (fun c8 => ?_) (fun c8 => ?_)
        · replace h := ite_t c8 h
          refine LR.iconst (pc := 1844) (v := 1) dL_law_1844 (by decide) ?_
          refine LR.istore (pc := 1845) (L2 := [(29, .int 1), (0, .ref q0), (1, .ref (ad 0)), (2, .ref q2), (3, .ref q3), (4, .int x4), (5, .int x5), (10, .int x10), (25, .int x25), (26, .int x26), (27, .int x27), (28, .ref q28)]) dL_law_1845 (by decide) rfl ?_
          refine LR.iconst (pc := 1847) (v := 2) dL_law_1847 (by decide) ?_
          refine LR.istore (pc := 1848) (L2 := [(30, .int 2), (29, .int 1), (0, .ref q0), (1, .ref (ad 0)), (2, .ref q2), (3, .ref q3), (4, .int x4), (5, .int x5), (10, .int x10), (25, .int x25), (26, .int x26), (27, .int x27), (28, .ref q28)]) dL_law_1848 (by decide) rfl ?_
          exact LR.pick [2, 3, 4, 5, 6, 7, 8, 9, 10, 11, 12, 1, 0] rfl (G_law_1850 sL a0 k85 a2 a3 x4 x5 x10 x25 x26 x27 a28 (r7.2) g hk85 (1, 2) r h)
        · replace h := ite_f c8 h
          refine LR.iconst (pc := 1842) (v := 0) dL_law_1842 (by decide) ?_
          exact LR.fin ⟨congrArg (fun z => [Value.int z]) (Option.some.inj h), dL_law_1843⟩
  · replace h := ite_f c1 h
    refine LR.aload (pc := 1780) (j := 10) dL_law_1780 rfl ?_
    refine LR.iload (pc := 1782) (j := 11) dL_law_1782 rfl ?_
    refine LR.aload_n (pc := 1784) (j := 1) dL_law_1784 rfl rfl ?_
    refine LR.iload (pc := 1785) (j := 7) dL_law_1785 rfl ?_
    refine LR.iload (pc := 1787) (j := 8) dL_law_1787 rfl ?_
    refine LR.iload (pc := 1789) (j := 11) dL_law_1789 rfl ?_
    obtain ⟨r9, h9, h⟩ := bd_some h
    refine LR.callV (pc := 1791) (As := [.int x25, .int x26, .int x29]) (st := [.int x29, .ref q28]) (ci := 8) dL_law_1791 ⟨cd_X8_motion, im_X8_motion, se_X8_motion, ini_X8⟩ ml_L_124 (A8_motion x25 x26 x29 σ _ h9) rfl rfl ⟨rfl, pd_X8_motion⟩ ⟨Nat.le_of_ble_eq_true rfl, Nat.le_of_ble_eq_true rfl⟩ ⟨rfl, rfl⟩ rfl rfl rfl (Nat.le_of_ble_eq_true rfl) ?_
    obtain ⟨c10, h⟩ := gn_some h
    obtain ⟨b11, e11, h⟩ := bd_some h
    replace e11 := Option.some.inj e11
    refine LR.iastore (pc := 1794) (j := 2) (as2 := [(q2, 44, a2), (q3, 45, a3), (q28, 5, b11)]) dL_law_1794 rfl c10 (by subst e11; rfl) ?_
    refine LR.iinc (pc := 1795) (j := 11) (v := (x29 + 1)) (L2 := [(29, .int (x29 + 1)), (0, .ref q0), (1, .ref (ad 0)), (2, .ref q2), (3, .ref q3), (4, .int x4), (5, .int x5), (10, .int x10), (25, .int x25), (26, .int x26), (27, .int x27), (28, .ref q28)]) dL_law_1795 rfl rfl (by decide) rfl ?_
    refine LR.goto (pc := 1798) (tgt := 1773) dL_law_1798 (by decide) ?_
    exact LR.pick [1, 2, 3, 4, 5, 6, 7, 8, 9, 10, 11, 0] rfl (hk1773 (b11, (x29 + 1), r9.2) r h)
theorem G_law_1773 {l : Launch} {ad : Nat → Nat} {q0 : Nat} (sL : Nat) (a0 : Nat → Int32) (k85 : (Nat → Int32) × Int32 × HS × Nat → Option (Int32)) {q2 : Nat} {q3 : Nat} {q28 : Nat} (a2 : Nat → Int32) (a3 : Nat → Int32) (x4 : Int32) (x5 : Int32) (x10 : Int32) (x25 : Int32) (x26 : Int32) (x27 : Int32) (g : Nat) (hk85 : ∀ (p : (Nat → Int32) × Int32 × HS × Nat) (r : Int32), k85 p = some r → LR l code 45 ret lw_tbl room_1 47 5558 ad [(q0, sL, a0)] (EL r) 85 [(0, .ref q0), (1, .ref (ad 0)), (2, .ref q2), (3, .ref q3), (4, .int x4), (5, .int (p.2.1))] [] (p.2.2.1) [(q2, 44, p.1), (q3, 45, a3)] (p.2.2.2)) (p : (Nat → Int32) × Int32 × HS) (r : Int32) (h : g_law_1773 sL a0 k85 a2 a3 x4 x5 x10 x25 x26 x27 g p = some r) : LR l code 45 ret lw_tbl room_1 47 5558 ad [(q0, sL, a0)] (EL r) 1773 [(0, .ref q0), (1, .ref (ad 0)), (2, .ref q2), (3, .ref q3), (4, .int x4), (5, .int x5), (10, .int x10), (25, .int x25), (26, .int x26), (27, .int x27), (28, .ref q28), (29, .int (p.2.1))] [] (p.2.2) [(q2, 44, a2), (q3, 45, a3), (q28, 5, p.1)] g := by
  unfold g_law_1773 at h
  exact wloop_run (body := fun k1773 p => g_law_1773_b sL a0 k85 k1773 a2 a3 x4 x5 x10 x25 x26 x27 p.1 p.2.1 p.2.2 g) (Q := (fun p r => LR l code 45 ret lw_tbl room_1 47 5558 ad [(q0, sL, a0)] (EL r) 1773 [(0, .ref q0), (1, .ref (ad 0)), (2, .ref q2), (3, .ref q3), (4, .int x4), (5, .int x5), (10, .int x10), (25, .int x25), (26, .int x26), (27, .int x27), (28, .ref q28), (29, .int (p.2.1))] [] (p.2.2) [(q2, 44, a2), (q3, 45, a3), (q28, 5, p.1)] g)) (fun k1773 hk1773 p r h => G_law_1773_b sL a0 k85 k1773 a2 a3 x4 x5 x10 x25 x26 x27 p.1 p.2.1 p.2.2 g hk85 hk1773 r h) fuelN p r h
set_option maxHeartbeats 4000000 in
set_option maxRecDepth 100000 in
theorem G_law_1650 {l : Launch} {ad : Nat → Nat} {q0 : Nat} (sL : Nat) (a0 : Nat → Int32) (k85 : (Nat → Int32) × Int32 × HS × Nat → Option (Int32)) (k1512 : Int32 × Int32 × Int32 × Nat → Option (Int32)) {q2 : Nat} {q3 : Nat} {q21 : Nat} {q22 : Nat} (a2 : Nat → Int32) (a3 : Nat → Int32) (x4 : Int32) (x5 : Int32) (x10 : Int32) (a21 : Nat → Int32) (a22 : Nat → Int32) (x23 : Int32) (x25 : Int32) (z0 : Int32) (σ : HS) (g : Nat) (hk85 : ∀ (p : (Nat → Int32) × Int32 × HS × Nat) (r : Int32), k85 p = some r → LR l code 45 ret lw_tbl room_1 47 5558 ad [(q0, sL, a0)] (EL r) 85 [(0, .ref q0), (1, .ref (ad 0)), (2, .ref q2), (3, .ref q3), (4, .int x4), (5, .int (p.2.1))] [] (p.2.2.1) [(q2, 44, p.1), (q3, 45, a3)] (p.2.2.2)) (hk1512 : ∀ (p : Int32 × Int32 × Int32 × Nat) (r : Int32), k1512 p = some r → LR l code 45 ret lw_tbl room_1 47 5558 ad [(q0, sL, a0)] (EL r) 1512 [(0, .ref q0), (1, .ref (ad 0)), (2, .ref q2), (3, .ref q3), (4, .int x4), (5, .int x5), (10, .int x10), (21, .ref q21), (22, .ref q22), (23, .int (p.1)), (24, .int (p.2.1)), (25, .int (p.2.2.1))] [] σ [(q2, 44, a2), (q3, 45, a3), (q21, 4, a21), (q22, 24, a22)] (p.2.2.2)) (r : Int32) (h : g_law_1650 sL a0 k85 k1512 a2 a3 x4 x5 x10 a21 a22 x23 x25 z0 σ g = some r) : LR l code 45 ret lw_tbl room_1 47 5558 ad [(q0, sL, a0)] (EL r) 1650 [(0, .ref q0), (1, .ref (ad 0)), (2, .ref q2), (3, .ref q3), (4, .int x4), (5, .int x5), (10, .int x10), (21, .ref q21), (22, .ref q22), (23, .int x23), (25, .int x25)] [.int z0] σ [(q2, 44, a2), (q3, 45, a3), (q21, 4, a21), (q22, 24, a22)] g := by
  unfold g_law_1650 at h
  refine LR.istore (pc := 1650) (L2 := [(24, .int z0), (0, .ref q0), (1, .ref (ad 0)), (2, .ref q2), (3, .ref q3), (4, .int x4), (5, .int x5), (10, .int x10), (21, .ref q21), (22, .ref q22), (23, .int x23), (25, .int x25)]) dL_law_1650 (by decide) rfl ?_
  refine LR.iinc (pc := 1652) (j := 11) (v := (x25 + (-1))) (L2 := [(25, .int (x25 + (-1))), (24, .int z0), (0, .ref q0), (1, .ref (ad 0)), (2, .ref q2), (3, .ref q3), (4, .int x4), (5, .int x5), (10, .int x10), (21, .ref q21), (22, .ref q22), (23, .int x23)]) dL_law_1652 rfl rfl (by decide) rfl ?_
  refine LR.goto (pc := 1655) (tgt := 1512) dL_law_1655 (by decide) ?_
  exact LR.pick [2, 3, 4, 5, 6, 7, 8, 9, 10, 11, 1, 0] rfl (hk1512 (x23, z0, (x25 + (-1)), g) r h)
set_option maxHeartbeats 4000000 in
set_option maxRecDepth 100000 in
theorem G_law_1635 {l : Launch} {ad : Nat → Nat} {q0 : Nat} (sL : Nat) (a0 : Nat → Int32) (k85 : (Nat → Int32) × Int32 × HS × Nat → Option (Int32)) (k1512 : Int32 × Int32 × Int32 × Nat → Option (Int32)) {q2 : Nat} {q3 : Nat} {q21 : Nat} {q22 : Nat} (a2 : Nat → Int32) (a3 : Nat → Int32) (x4 : Int32) (x5 : Int32) (x10 : Int32) (a21 : Nat → Int32) (a22 : Nat → Int32) (x24 : Int32) (x25 : Int32) (x26 : Int32) (z0 : Int32) (z1 : Int32) (σ : HS) (g : Nat) (hk85 : ∀ (p : (Nat → Int32) × Int32 × HS × Nat) (r : Int32), k85 p = some r → LR l code 45 ret lw_tbl room_1 47 5558 ad [(q0, sL, a0)] (EL r) 85 [(0, .ref q0), (1, .ref (ad 0)), (2, .ref q2), (3, .ref q3), (4, .int x4), (5, .int (p.2.1))] [] (p.2.2.1) [(q2, 44, p.1), (q3, 45, a3)] (p.2.2.2)) (hk1512 : ∀ (p : Int32 × Int32 × Int32 × Nat) (r : Int32), k1512 p = some r → LR l code 45 ret lw_tbl room_1 47 5558 ad [(q0, sL, a0)] (EL r) 1512 [(0, .ref q0), (1, .ref (ad 0)), (2, .ref q2), (3, .ref q3), (4, .int x4), (5, .int x5), (10, .int x10), (21, .ref q21), (22, .ref q22), (23, .int (p.1)), (24, .int (p.2.1)), (25, .int (p.2.2.1))] [] σ [(q2, 44, a2), (q3, 45, a3), (q21, 4, a21), (q22, 24, a22)] (p.2.2.2)) (r : Int32) (h : g_law_1635 sL a0 k85 k1512 a2 a3 x4 x5 x10 a21 a22 x24 x25 x26 z0 z1 σ g = some r) : LR l code 45 ret lw_tbl room_1 47 5558 ad [(q0, sL, a0)] (EL r) 1635 [(0, .ref q0), (1, .ref (ad 0)), (2, .ref q2), (3, .ref q3), (4, .int x4), (5, .int x5), (10, .int x10), (21, .ref q21), (22, .ref q22), (24, .int x24), (25, .int x25), (26, .int x26)] [.int z0, .int z1] σ [(q2, 44, a2), (q3, 45, a3), (q21, 4, a21), (q22, 24, a22)] g := by
  unfold g_law_1635 at h
  refine LR.iadd (pc := 1635) dL_law_1635 ?_
  refine LR.istore (pc := 1636) (L2 := [(23, .int (z1 + z0)), (0, .ref q0), (1, .ref (ad 0)), (2, .ref q2), (3, .ref q3), (4, .int x4), (5, .int x5), (10, .int x10), (21, .ref q21), (22, .ref q22), (24, .int x24), (25, .int x25), (26, .int x26)]) dL_law_1636 (by decide) rfl ?_
  refine LR.iload (pc := 1638) (j := 12) dL_law_1638 rfl ?_
  refine LR.if_eq (pc := 1640) (tgt := 1648) dL_law_1640 (by decide) (fun c1 => ?_) (fun c1 => ?_)
  · replace h := ite_t c1 h
    refine LR.iload (pc := 1648) (j := 10) dL_law_1648 rfl ?_
    exact LR.pick [1, 2, 3, 4, 5, 6, 7, 8, 9, 0, 11] rfl (G_law_1650 sL a0 k85 k1512 a2 a3 x4 x5 x10 a21 a22 (z1 + z0) x25 x24 σ g hk85 hk1512 r h)
  · replace h := ite_f c1 h
    refine LR.iload (pc := 1643) (j := 11) dL_law_1643 rfl ?_
    refine LR.goto (pc := 1645) (tgt := 1650) dL_law_1645 (by decide) ?_
    exact LR.pick [1, 2, 3, 4, 5, 6, 7, 8, 9, 0, 11] rfl (G_law_1650 sL a0 k85 k1512 a2 a3 x4 x5 x10 a21 a22 (z1 + z0) x25 x25 σ g hk85 hk1512 r h)
set_option maxHeartbeats 4000000 in
set_option maxRecDepth 100000 in
theorem G_law_1615 {l : Launch} {ad : Nat → Nat} {q0 : Nat} (sL : Nat) (a0 : Nat → Int32) (k85 : (Nat → Int32) × Int32 × HS × Nat → Option (Int32)) (k1512 : Int32 × Int32 × Int32 × Nat → Option (Int32)) (k1523 : Int32 × Int32 × Nat → Option (Int32)) {q2 : Nat} {q3 : Nat} {q21 : Nat} {q22 : Nat} (a2 : Nat → Int32) (a3 : Nat → Int32) (x4 : Int32) (x5 : Int32) (x10 : Int32) (a21 : Nat → Int32) (a22 : Nat → Int32) (x23 : Int32) (x24 : Int32) (x25 : Int32) (x27 : Int32) (z0 : Int32) (σ : HS) (g : Nat) (hk85 : ∀ (p : (Nat → Int32) × Int32 × HS × Nat) (r : Int32), k85 p = some r → LR l code 45 ret lw_tbl room_1 47 5558 ad [(q0, sL, a0)] (EL r) 85 [(0, .ref q0), (1, .ref (ad 0)), (2, .ref q2), (3, .ref q3), (4, .int x4), (5, .int (p.2.1))] [] (p.2.2.1) [(q2, 44, p.1), (q3, 45, a3)] (p.2.2.2)) (hk1512 : ∀ (p : Int32 × Int32 × Int32 × Nat) (r : Int32), k1512 p = some r → LR l code 45 ret lw_tbl room_1 47 5558 ad [(q0, sL, a0)] (EL r) 1512 [(0, .ref q0), (1, .ref (ad 0)), (2, .ref q2), (3, .ref q3), (4, .int x4), (5, .int x5), (10, .int x10), (21, .ref q21), (22, .ref q22), (23, .int (p.1)), (24, .int (p.2.1)), (25, .int (p.2.2.1))] [] σ [(q2, 44, a2), (q3, 45, a3), (q21, 4, a21), (q22, 24, a22)] (p.2.2.2)) (hk1523 : ∀ (p : Int32 × Int32 × Nat) (r : Int32), k1523 p = some r → LR l code 45 ret lw_tbl room_1 47 5558 ad [(q0, sL, a0)] (EL r) 1523 [(0, .ref q0), (1, .ref (ad 0)), (2, .ref q2), (3, .ref q3), (4, .int x4), (5, .int x5), (10, .int x10), (21, .ref q21), (22, .ref q22), (23, .int x23), (24, .int x24), (25, .int x25), (26, .int (p.1)), (27, .int (p.2.1))] [] σ [(q2, 44, a2), (q3, 45, a3), (q21, 4, a21), (q22, 24, a22)] (p.2.2)) (r : Int32) (h : g_law_1615 sL a0 k85 k1512 k1523 a2 a3 x4 x5 x10 a21 a22 x23 x24 x25 x27 z0 σ g = some r) : LR l code 45 ret lw_tbl room_1 47 5558 ad [(q0, sL, a0)] (EL r) 1615 [(0, .ref q0), (1, .ref (ad 0)), (2, .ref q2), (3, .ref q3), (4, .int x4), (5, .int x5), (10, .int x10), (21, .ref q21), (22, .ref q22), (23, .int x23), (24, .int x24), (25, .int x25), (27, .int x27)] [.int z0] σ [(q2, 44, a2), (q3, 45, a3), (q21, 4, a21), (q22, 24, a22)] g := by
  unfold g_law_1615 at h
  refine LR.istore (pc := 1615) (L2 := [(26, .int z0), (0, .ref q0), (1, .ref (ad 0)), (2, .ref q2), (3, .ref q3), (4, .int x4), (5, .int x5), (10, .int x10), (21, .ref q21), (22, .ref q22), (23, .int x23), (24, .int x24), (25, .int x25), (27, .int x27)]) dL_law_1615 (by decide) rfl ?_
  refine LR.iinc (pc := 1617) (j := 13) (v := (x27 + 1)) (L2 := [(27, .int (x27 + 1)), (26, .int z0), (0, .ref q0), (1, .ref (ad 0)), (2, .ref q2), (3, .ref q3), (4, .int x4), (5, .int x5), (10, .int x10), (21, .ref q21), (22, .ref q22), (23, .int x23), (24, .int x24), (25, .int x25)]) dL_law_1617 rfl rfl (by decide) rfl ?_
  refine LR.goto (pc := 1620) (tgt := 1523) dL_law_1620 (by decide) ?_
  exact LR.pick [2, 3, 4, 5, 6, 7, 8, 9, 10, 11, 12, 13, 1, 0] rfl (hk1523 (z0, (x27 + 1), g) r h)
set_option maxHeartbeats 4000000 in
set_option maxRecDepth 100000 in
theorem G_law_1614 {l : Launch} {ad : Nat → Nat} {q0 : Nat} (sL : Nat) (a0 : Nat → Int32) (k85 : (Nat → Int32) × Int32 × HS × Nat → Option (Int32)) (k1512 : Int32 × Int32 × Int32 × Nat → Option (Int32)) (k1523 : Int32 × Int32 × Nat → Option (Int32)) {q2 : Nat} {q3 : Nat} {q21 : Nat} {q22 : Nat} (a2 : Nat → Int32) (a3 : Nat → Int32) (x4 : Int32) (x5 : Int32) (x10 : Int32) (a21 : Nat → Int32) (a22 : Nat → Int32) (x23 : Int32) (x24 : Int32) (x25 : Int32) (x27 : Int32) (σ : HS) (g : Nat) (hk85 : ∀ (p : (Nat → Int32) × Int32 × HS × Nat) (r : Int32), k85 p = some r → LR l code 45 ret lw_tbl room_1 47 5558 ad [(q0, sL, a0)] (EL r) 85 [(0, .ref q0), (1, .ref (ad 0)), (2, .ref q2), (3, .ref q3), (4, .int x4), (5, .int (p.2.1))] [] (p.2.2.1) [(q2, 44, p.1), (q3, 45, a3)] (p.2.2.2)) (hk1512 : ∀ (p : Int32 × Int32 × Int32 × Nat) (r : Int32), k1512 p = some r → LR l code 45 ret lw_tbl room_1 47 5558 ad [(q0, sL, a0)] (EL r) 1512 [(0, .ref q0), (1, .ref (ad 0)), (2, .ref q2), (3, .ref q3), (4, .int x4), (5, .int x5), (10, .int x10), (21, .ref q21), (22, .ref q22), (23, .int (p.1)), (24, .int (p.2.1)), (25, .int (p.2.2.1))] [] σ [(q2, 44, a2), (q3, 45, a3), (q21, 4, a21), (q22, 24, a22)] (p.2.2.2)) (hk1523 : ∀ (p : Int32 × Int32 × Nat) (r : Int32), k1523 p = some r → LR l code 45 ret lw_tbl room_1 47 5558 ad [(q0, sL, a0)] (EL r) 1523 [(0, .ref q0), (1, .ref (ad 0)), (2, .ref q2), (3, .ref q3), (4, .int x4), (5, .int x5), (10, .int x10), (21, .ref q21), (22, .ref q22), (23, .int x23), (24, .int x24), (25, .int x25), (26, .int (p.1)), (27, .int (p.2.1))] [] σ [(q2, 44, a2), (q3, 45, a3), (q21, 4, a21), (q22, 24, a22)] (p.2.2)) (r : Int32) (h : g_law_1614 sL a0 k85 k1512 k1523 a2 a3 x4 x5 x10 a21 a22 x23 x24 x25 x27 σ g = some r) : LR l code 45 ret lw_tbl room_1 47 5558 ad [(q0, sL, a0)] (EL r) 1614 [(0, .ref q0), (1, .ref (ad 0)), (2, .ref q2), (3, .ref q3), (4, .int x4), (5, .int x5), (10, .int x10), (21, .ref q21), (22, .ref q22), (23, .int x23), (24, .int x24), (25, .int x25), (27, .int x27)] [] σ [(q2, 44, a2), (q3, 45, a3), (q21, 4, a21), (q22, 24, a22)] g := by
  unfold g_law_1614 at h
  refine LR.iconst (pc := 1614) (v := 0) dL_law_1614 (by decide) ?_
  exact LR.pick [0, 1, 2, 3, 4, 5, 6, 7, 8, 9, 10, 11, 12] rfl (G_law_1615 sL a0 k85 k1512 k1523 a2 a3 x4 x5 x10 a21 a22 x23 x24 x25 x27 0 σ g hk85 hk1512 hk1523 r h)
set_option maxHeartbeats 4000000 in
set_option maxRecDepth 100000 in
theorem G_law_1597 {l : Launch} {ad : Nat → Nat} {q0 : Nat} (sL : Nat) (a0 : Nat → Int32) (k85 : (Nat → Int32) × Int32 × HS × Nat → Option (Int32)) (k1512 : Int32 × Int32 × Int32 × Nat → Option (Int32)) (k1523 : Int32 × Int32 × Nat → Option (Int32)) {q2 : Nat} {q3 : Nat} {q21 : Nat} {q22 : Nat} {qz2 : Nat} (a2 : Nat → Int32) (a3 : Nat → Int32) (x4 : Int32) (x5 : Int32) (x10 : Int32) (a21 : Nat → Int32) (a22 : Nat → Int32) (x23 : Int32) (x24 : Int32) (x25 : Int32) (x27 : Int32) (z0 : Int32) (z1 : Int32) (az2 : Nat → Int32) (σ : HS) (g : Nat) (hk85 : ∀ (p : (Nat → Int32) × Int32 × HS × Nat) (r : Int32), k85 p = some r → LR l code 45 ret lw_tbl room_1 47 5558 ad [(q0, sL, a0)] (EL r) 85 [(0, .ref q0), (1, .ref (ad 0)), (2, .ref q2), (3, .ref q3), (4, .int x4), (5, .int (p.2.1))] [] (p.2.2.1) [(q2, 44, p.1), (q3, 45, a3)] (p.2.2.2)) (hk1512 : ∀ (p : Int32 × Int32 × Int32 × Nat) (r : Int32), k1512 p = some r → LR l code 45 ret lw_tbl room_1 47 5558 ad [(q0, sL, a0)] (EL r) 1512 [(0, .ref q0), (1, .ref (ad 0)), (2, .ref q2), (3, .ref q3), (4, .int x4), (5, .int x5), (10, .int x10), (21, .ref q21), (22, .ref q22), (23, .int (p.1)), (24, .int (p.2.1)), (25, .int (p.2.2.1))] [] σ [(q2, 44, a2), (q3, 45, a3), (q21, 4, a21), (q22, 24, a22)] (p.2.2.2)) (hk1523 : ∀ (p : Int32 × Int32 × Nat) (r : Int32), k1523 p = some r → LR l code 45 ret lw_tbl room_1 47 5558 ad [(q0, sL, a0)] (EL r) 1523 [(0, .ref q0), (1, .ref (ad 0)), (2, .ref q2), (3, .ref q3), (4, .int x4), (5, .int x5), (10, .int x10), (21, .ref q21), (22, .ref q22), (23, .int x23), (24, .int x24), (25, .int x25), (26, .int (p.1)), (27, .int (p.2.1))] [] σ [(q2, 44, a2), (q3, 45, a3), (q21, 4, a21), (q22, 24, a22)] (p.2.2)) (r : Int32) (h : g_law_1597 sL a0 k85 k1512 k1523 a2 a3 x4 x5 x10 a21 a22 x23 x24 x25 x27 z0 z1 az2 σ g = some r) : LR l code 45 ret lw_tbl room_1 47 5558 ad [(q0, sL, a0)] (EL r) 1597 [(0, .ref q0), (1, .ref (ad 0)), (2, .ref q2), (3, .ref q3), (4, .int x4), (5, .int x5), (10, .int x10), (21, .ref q21), (22, .ref q22), (23, .int x23), (24, .int x24), (25, .int x25), (27, .int x27)] [.int z0, .int z1, .ref qz2, .ref q3, .ref q2] σ [(q2, 44, a2), (q3, 45, a3), (q21, 4, a21), (q22, 24, a22), (qz2, 6, az2)] g := by
  unfold g_law_1597 at h
  obtain ⟨r1, h1, h⟩ := bd_some h
  obtain ⟨c2, h⟩ := gn_some h
  refine LR.callS (pc := 1597) (As := [.ref q2, .ref q3, .ref qz2, .int z1, .int z0]) (st := []) (as2 := []) (asR := [(q2, 44, a2), (q3, 45, a3), (q21, 4, a21), (q22, 24, a22), (qz2, 6, az2)]) (ro2 := [(q2, 44, a2), (q3, 45, a3), (qz2, 6, az2)]) (mg := 1) (FIN := (FA 16 σ r1)) [] [0, 1, 2, 3, 4] dL_law_1597 ⟨cd_L_day, sm_L_day, ini_L⟩ ml_L_77 (G_day a2 a3 az2 z1 z0 r1 h1) ⟨rfl, pd_L_day⟩ ⟨Nat.le_of_ble_eq_true rfl, Nat.le_of_ble_eq_true rfl⟩ ⟨rfl, rfl⟩ (groom c2) rfl rfl rfl rfl (by decide) (Or.inr ⟨[0, 1, 4], rfl, by decide⟩) rfl (Nat.le_of_ble_eq_true rfl) (fun v9 σ9 as9 hF9 => ?_)
  obtain ⟨qn1, rfl, e9, rfl⟩ := hF9; replace e9 := e9.symm; subst e9
  show LR l code 45 ret lw_tbl room_1 47 5558 ad [(q0, sL, a0)] (EL r) 1600 [(0, .ref q0), (1, .ref (ad 0)), (2, .ref q2), (3, .ref q3), (4, .int x4), (5, .int x5), (10, .int x10), (21, .ref q21), (22, .ref q22), (23, .int x23), (24, .int x24), (25, .int x25), (27, .int x27)] [.ref qn1] σ [(q2, 44, a2), (q3, 45, a3), (q21, 4, a21), (q22, 24, a22), (qz2, 6, az2), (qn1, 16, r1)] (g + 1)
  refine LR.iconst (pc := 1600) (v := 2) dL_law_1600 (by decide) ?_
  refine LR.iaload (pc := 1601) (j := 5) dL_law_1601 rfl (by decide) ?_
  refine LR.aload (pc := 1602) (j := 7) dL_law_1602 rfl ?_
  refine LR.iload (pc := 1604) (j := 12) dL_law_1604 rfl ?_
  obtain ⟨c3, h⟩ := gn_some h
  refine LR.iaload (pc := 1606) (j := 2) dL_law_1606 rfl c3 ?_
  refine LR.icmp_ne (pc := 1607) (tgt := 1614) dL_law_1607 (by decide) (fun c4 => ?_) (fun c4 => ?_)
  · replace h := ite_f c4 h
    exact LR.pick [0, 1, 2, 3, 4, 5, 6, 7, 8, 9, 10, 11, 12] rfl (LR.sub (as2 := [(q2, 44, a2), (q3, 45, a3), (q21, 4, a21), (q22, 24, a22)]) [0, 1, 2, 3] rfl rfl (G_law_1614 sL a0 k85 k1512 k1523 a2 a3 x4 x5 x10 a21 a22 x23 x24 x25 x27 σ (g + 1) hk85 hk1512 hk1523 r h))
  · replace h := ite_t c4 h
    refine LR.iconst (pc := 1610) (v := 1) dL_law_1610 (by decide) ?_
    refine LR.goto (pc := 1611) (tgt := 1615) dL_law_1611 (by decide) ?_
    exact LR.pick [0, 1, 2, 3, 4, 5, 6, 7, 8, 9, 10, 11, 12] rfl (LR.sub (as2 := [(q2, 44, a2), (q3, 45, a3), (q21, 4, a21), (q22, 24, a22)]) [0, 1, 2, 3] rfl rfl (G_law_1615 sL a0 k85 k1512 k1523 a2 a3 x4 x5 x10 a21 a22 x23 x24 x25 x27 1 σ (g + 1) hk85 hk1512 hk1523 r h))
set_option maxHeartbeats 4000000 in
set_option maxRecDepth 100000 in
theorem G_law_1538_b {l : Launch} {ad : Nat → Nat} {q0 : Nat} (sL : Nat) (a0 : Nat → Int32) (k85 : (Nat → Int32) × Int32 × HS × Nat → Option (Int32)) (k1512 : Int32 × Int32 × Int32 × Nat → Option (Int32)) (k1523 : Int32 × Int32 × Nat → Option (Int32)) (k1538 : (Nat → Int32) × Int32 → Option (Int32)) {q2 : Nat} {q3 : Nat} {q21 : Nat} {q22 : Nat} {q28 : Nat} (a2 : Nat → Int32) (a3 : Nat → Int32) (x4 : Int32) (x5 : Int32) (x10 : Int32) (a21 : Nat → Int32) (a22 : Nat → Int32) (x23 : Int32) (x24 : Int32) (x25 : Int32) (x26 : Int32) (x27 : Int32) (a28 : Nat → Int32) (x29 : Int32) (σ : HS) (g : Nat) (hk85 : ∀ (p : (Nat → Int32) × Int32 × HS × Nat) (r : Int32), k85 p = some r → LR l code 45 ret lw_tbl room_1 47 5558 ad [(q0, sL, a0)] (EL r) 85 [(0, .ref q0), (1, .ref (ad 0)), (2, .ref q2), (3, .ref q3), (4, .int x4), (5, .int (p.2.1))] [] (p.2.2.1) [(q2, 44, p.1), (q3, 45, a3)] (p.2.2.2)) (hk1512 : ∀ (p : Int32 × Int32 × Int32 × Nat) (r : Int32), k1512 p = some r → LR l code 45 ret lw_tbl room_1 47 5558 ad [(q0, sL, a0)] (EL r) 1512 [(0, .ref q0), (1, .ref (ad 0)), (2, .ref q2), (3, .ref q3), (4, .int x4), (5, .int x5), (10, .int x10), (21, .ref q21), (22, .ref q22), (23, .int (p.1)), (24, .int (p.2.1)), (25, .int (p.2.2.1))] [] σ [(q2, 44, a2), (q3, 45, a3), (q21, 4, a21), (q22, 24, a22)] (p.2.2.2)) (hk1523 : ∀ (p : Int32 × Int32 × Nat) (r : Int32), k1523 p = some r → LR l code 45 ret lw_tbl room_1 47 5558 ad [(q0, sL, a0)] (EL r) 1523 [(0, .ref q0), (1, .ref (ad 0)), (2, .ref q2), (3, .ref q3), (4, .int x4), (5, .int x5), (10, .int x10), (21, .ref q21), (22, .ref q22), (23, .int x23), (24, .int x24), (25, .int x25), (26, .int (p.1)), (27, .int (p.2.1))] [] σ [(q2, 44, a2), (q3, 45, a3), (q21, 4, a21), (q22, 24, a22)] (p.2.2)) (hk1538 : ∀ (p : (Nat → Int32) × Int32) (r : Int32), k1538 p = some r → LR l code 45 ret lw_tbl room_1 47 5558 ad [(q0, sL, a0)] (EL r) 1538 [(0, .ref q0), (1, .ref (ad 0)), (2, .ref q2), (3, .ref q3), (4, .int x4), (5, .int x5), (10, .int x10), (21, .ref q21), (22, .ref q22), (23, .int x23), (24, .int x24), (25, .int x25), (26, .int x26), (27, .int x27), (28, .ref q28), (29, .int (p.2))] [] σ [(q2, 44, a2), (q3, 45, a3), (q21, 4, a21), (q22, 24, a22), (q28, 6, p.1)] g) (r : Int32) (h : g_law_1538_b sL a0 k85 k1512 k1523 k1538 a2 a3 x4 x5 x10 a21 a22 x23 x24 x25 x26 x27 a28 x29 σ g = some r) : LR l code 45 ret lw_tbl room_1 47 5558 ad [(q0, sL, a0)] (EL r) 1538 [(0, .ref q0), (1, .ref (ad 0)), (2, .ref q2), (3, .ref q3), (4, .int x4), (5, .int x5), (10, .int x10), (21, .ref q21), (22, .ref q22), (23, .int x23), (24, .int x24), (25, .int x25), (26, .int x26), (27, .int x27), (28, .ref q28), (29, .int x29)] [] σ [(q2, 44, a2), (q3, 45, a3), (q21, 4, a21), (q22, 24, a22), (q28, 6, a28)] g := by
  unfold g_law_1538_b at h
  refine LR.iload (pc := 1538) (j := 15) dL_law_1538 rfl ?_
  refine LR.iload (pc := 1540) (j := 6) dL_law_1540 rfl ?_
  refine LR.icmp_ge (pc := 1542) (tgt := 1567) dL_law_1542 (by decide) (fun c1 => ?_) (fun c1 => ?_)
  · replace h := ite_t c1 h
    refine LR.iload (pc := 1567) (j := 12) dL_law_1567 rfl ?_
    refine LR.if_eq (pc := 1569) (tgt := 1614) dL_law_1569 (by decide) (fun c2 => ?_) (fun c2 => ?_)
    · replace h := ite_t c2 h
      exact LR.pick [0, 1, 2, 3, 4, 5, 6, 7, 8, 9, 10, 11, 13] rfl (LR.sub (as2 := [(q2, 44, a2), (q3, 45, a3), (q21, 4, a21), (q22, 24, a22)]) [0, 1, 2, 3] rfl rfl (G_law_1614 sL a0 k85 k1512 k1523 a2 a3 x4 x5 x10 a21 a22 x23 x24 x25 x27 σ g hk85 hk1512 hk1523 r h))
    · replace h := ite_f c2 h
      refine LR.aload_n (pc := 1572) (j := 2) dL_law_1572 rfl rfl ?_
      refine LR.aload_n (pc := 1573) (j := 3) dL_law_1573 rfl rfl ?_
      refine LR.aload (pc := 1574) (j := 14) dL_law_1574 rfl ?_
      refine LR.iload (pc := 1576) (j := 6) dL_law_1576 rfl ?_
      refine LR.iload (pc := 1578) (j := 13) dL_law_1578 rfl ?_
      refine LR.iload (pc := 1580) (j := 11) dL_law_1580 rfl ?_
      refine LR.bipush (pc := 1582) (v := 10) dL_law_1582 (by decide) ?_
      refine LR.idiv (pc := 1584) dL_law_1584 (by decide) ?_
      refine LR.icmp_ge (pc := 1585) (tgt := 1592) dL_law_1585 (by decide) (fun c3 => ?_) (fun c3 => ?_)
      · replace h := ite_t c3 h
        refine LR.iload (pc := 1592) (j := 11) dL_law_1592 rfl ?_
        refine LR.bipush (pc := 1594) (v := 10) dL_law_1594 (by decide) ?_
        refine LR.irem (pc := 1596) dL_law_1596 (by decide) ?_
        exact LR.pick [0, 1, 2, 3, 4, 5, 6, 7, 8, 9, 10, 11, 13] rfl (G_law_1597 sL a0 k85 k1512 k1523 a2 a3 x4 x5 x10 a21 a22 x23 x24 x25 x27 (x25 - x25 / 10 * 10) x10 a28 σ g hk85 hk1512 hk1523 r h)
      · replace h := ite_f c3 h
        refine LR.iconst (pc := 1588) (v := 0) dL_law_1588 (by decide) ?_
        refine LR.goto (pc := 1589) (tgt := 1597) dL_law_1589 (by decide) ?_
        exact LR.pick [0, 1, 2, 3, 4, 5, 6, 7, 8, 9, 10, 11, 13] rfl (G_law_1597 sL a0 k85 k1512 k1523 a2 a3 x4 x5 x10 a21 a22 x23 x24 x25 x27 0 x10 a28 σ g hk85 hk1512 hk1523 r h)
  · replace h := ite_f c1 h
    refine LR.aload (pc := 1545) (j := 14) dL_law_1545 rfl ?_
    refine LR.iload (pc := 1547) (j := 15) dL_law_1547 rfl ?_
    refine LR.aload (pc := 1549) (j := 8) dL_law_1549 rfl ?_
    refine LR.bipush (pc := 1551) (v := 6) dL_law_1551 (by decide) ?_
    refine LR.iload (pc := 1553) (j := 13) dL_law_1553 rfl ?_
    refine LR.imul (pc := 1555) dL_law_1555 ?_
    refine LR.iload (pc := 1556) (j := 15) dL_law_1556 rfl ?_
    refine LR.iadd (pc := 1558) dL_law_1558 ?_
    obtain ⟨c4, h⟩ := gn_some h
    refine LR.iaload (pc := 1559) (j := 3) dL_law_1559 rfl c4 ?_
    obtain ⟨c5, h⟩ := gn_some h
    obtain ⟨b6, e6, h⟩ := bd_some h
    replace e6 := Option.some.inj e6
    refine LR.iastore (pc := 1560) (j := 4) (as2 := [(q2, 44, a2), (q3, 45, a3), (q21, 4, a21), (q22, 24, a22), (q28, 6, b6)]) dL_law_1560 rfl c5 (by subst e6; rfl) ?_
    refine LR.iinc (pc := 1561) (j := 15) (v := (x29 + 1)) (L2 := [(29, .int (x29 + 1)), (0, .ref q0), (1, .ref (ad 0)), (2, .ref q2), (3, .ref q3), (4, .int x4), (5, .int x5), (10, .int x10), (21, .ref q21), (22, .ref q22), (23, .int x23), (24, .int x24), (25, .int x25), (26, .int x26), (27, .int x27), (28, .ref q28)]) dL_law_1561 rfl rfl (by decide) rfl ?_
    refine LR.goto (pc := 1564) (tgt := 1538) dL_law_1564 (by decide) ?_
    exact LR.pick [1, 2, 3, 4, 5, 6, 7, 8, 9, 10, 11, 12, 13, 14, 15, 0] rfl (hk1538 (b6, (x29 + 1)) r h)
theorem G_law_1538 {l : Launch} {ad : Nat → Nat} {q0 : Nat} (sL : Nat) (a0 : Nat → Int32) (k85 : (Nat → Int32) × Int32 × HS × Nat → Option (Int32)) (k1512 : Int32 × Int32 × Int32 × Nat → Option (Int32)) (k1523 : Int32 × Int32 × Nat → Option (Int32)) {q2 : Nat} {q3 : Nat} {q21 : Nat} {q22 : Nat} {q28 : Nat} (a2 : Nat → Int32) (a3 : Nat → Int32) (x4 : Int32) (x5 : Int32) (x10 : Int32) (a21 : Nat → Int32) (a22 : Nat → Int32) (x23 : Int32) (x24 : Int32) (x25 : Int32) (x26 : Int32) (x27 : Int32) (σ : HS) (g : Nat) (hk85 : ∀ (p : (Nat → Int32) × Int32 × HS × Nat) (r : Int32), k85 p = some r → LR l code 45 ret lw_tbl room_1 47 5558 ad [(q0, sL, a0)] (EL r) 85 [(0, .ref q0), (1, .ref (ad 0)), (2, .ref q2), (3, .ref q3), (4, .int x4), (5, .int (p.2.1))] [] (p.2.2.1) [(q2, 44, p.1), (q3, 45, a3)] (p.2.2.2)) (hk1512 : ∀ (p : Int32 × Int32 × Int32 × Nat) (r : Int32), k1512 p = some r → LR l code 45 ret lw_tbl room_1 47 5558 ad [(q0, sL, a0)] (EL r) 1512 [(0, .ref q0), (1, .ref (ad 0)), (2, .ref q2), (3, .ref q3), (4, .int x4), (5, .int x5), (10, .int x10), (21, .ref q21), (22, .ref q22), (23, .int (p.1)), (24, .int (p.2.1)), (25, .int (p.2.2.1))] [] σ [(q2, 44, a2), (q3, 45, a3), (q21, 4, a21), (q22, 24, a22)] (p.2.2.2)) (hk1523 : ∀ (p : Int32 × Int32 × Nat) (r : Int32), k1523 p = some r → LR l code 45 ret lw_tbl room_1 47 5558 ad [(q0, sL, a0)] (EL r) 1523 [(0, .ref q0), (1, .ref (ad 0)), (2, .ref q2), (3, .ref q3), (4, .int x4), (5, .int x5), (10, .int x10), (21, .ref q21), (22, .ref q22), (23, .int x23), (24, .int x24), (25, .int x25), (26, .int (p.1)), (27, .int (p.2.1))] [] σ [(q2, 44, a2), (q3, 45, a3), (q21, 4, a21), (q22, 24, a22)] (p.2.2)) (p : (Nat → Int32) × Int32) (r : Int32) (h : g_law_1538 sL a0 k85 k1512 k1523 a2 a3 x4 x5 x10 a21 a22 x23 x24 x25 x26 x27 σ g p = some r) : LR l code 45 ret lw_tbl room_1 47 5558 ad [(q0, sL, a0)] (EL r) 1538 [(0, .ref q0), (1, .ref (ad 0)), (2, .ref q2), (3, .ref q3), (4, .int x4), (5, .int x5), (10, .int x10), (21, .ref q21), (22, .ref q22), (23, .int x23), (24, .int x24), (25, .int x25), (26, .int x26), (27, .int x27), (28, .ref q28), (29, .int (p.2))] [] σ [(q2, 44, a2), (q3, 45, a3), (q21, 4, a21), (q22, 24, a22), (q28, 6, p.1)] g := by
  unfold g_law_1538 at h
  exact wloop_run (body := fun k1538 p => g_law_1538_b sL a0 k85 k1512 k1523 k1538 a2 a3 x4 x5 x10 a21 a22 x23 x24 x25 x26 x27 p.1 p.2 σ g) (Q := (fun p r => LR l code 45 ret lw_tbl room_1 47 5558 ad [(q0, sL, a0)] (EL r) 1538 [(0, .ref q0), (1, .ref (ad 0)), (2, .ref q2), (3, .ref q3), (4, .int x4), (5, .int x5), (10, .int x10), (21, .ref q21), (22, .ref q22), (23, .int x23), (24, .int x24), (25, .int x25), (26, .int x26), (27, .int x27), (28, .ref q28), (29, .int (p.2))] [] σ [(q2, 44, a2), (q3, 45, a3), (q21, 4, a21), (q22, 24, a22), (q28, 6, p.1)] g)) (fun k1538 hk1538 p r h => G_law_1538_b sL a0 k85 k1512 k1523 k1538 a2 a3 x4 x5 x10 a21 a22 x23 x24 x25 x26 x27 p.1 p.2 σ g hk85 hk1512 hk1523 hk1538 r h) fuelN p r h
set_option maxHeartbeats 4000000 in
set_option maxRecDepth 100000 in
theorem G_law_1523_b {l : Launch} {ad : Nat → Nat} {q0 : Nat} (sL : Nat) (a0 : Nat → Int32) (k85 : (Nat → Int32) × Int32 × HS × Nat → Option (Int32)) (k1512 : Int32 × Int32 × Int32 × Nat → Option (Int32)) (k1523 : Int32 × Int32 × Nat → Option (Int32)) {q2 : Nat} {q3 : Nat} {q21 : Nat} {q22 : Nat} (a2 : Nat → Int32) (a3 : Nat → Int32) (x4 : Int32) (x5 : Int32) (x10 : Int32) (a21 : Nat → Int32) (a22 : Nat → Int32) (x23 : Int32) (x24 : Int32) (x25 : Int32) (x26 : Int32) (x27 : Int32) (σ : HS) (g : Nat) (hk85 : ∀ (p : (Nat → Int32) × Int32 × HS × Nat) (r : Int32), k85 p = some r → LR l code 45 ret lw_tbl room_1 47 5558 ad [(q0, sL, a0)] (EL r) 85 [(0, .ref q0), (1, .ref (ad 0)), (2, .ref q2), (3, .ref q3), (4, .int x4), (5, .int (p.2.1))] [] (p.2.2.1) [(q2, 44, p.1), (q3, 45, a3)] (p.2.2.2)) (hk1512 : ∀ (p : Int32 × Int32 × Int32 × Nat) (r : Int32), k1512 p = some r → LR l code 45 ret lw_tbl room_1 47 5558 ad [(q0, sL, a0)] (EL r) 1512 [(0, .ref q0), (1, .ref (ad 0)), (2, .ref q2), (3, .ref q3), (4, .int x4), (5, .int x5), (10, .int x10), (21, .ref q21), (22, .ref q22), (23, .int (p.1)), (24, .int (p.2.1)), (25, .int (p.2.2.1))] [] σ [(q2, 44, a2), (q3, 45, a3), (q21, 4, a21), (q22, 24, a22)] (p.2.2.2)) (hk1523 : ∀ (p : Int32 × Int32 × Nat) (r : Int32), k1523 p = some r → LR l code 45 ret lw_tbl room_1 47 5558 ad [(q0, sL, a0)] (EL r) 1523 [(0, .ref q0), (1, .ref (ad 0)), (2, .ref q2), (3, .ref q3), (4, .int x4), (5, .int x5), (10, .int x10), (21, .ref q21), (22, .ref q22), (23, .int x23), (24, .int x24), (25, .int x25), (26, .int (p.1)), (27, .int (p.2.1))] [] σ [(q2, 44, a2), (q3, 45, a3), (q21, 4, a21), (q22, 24, a22)] (p.2.2)) (r : Int32) (h : g_law_1523_b sL a0 k85 k1512 k1523 a2 a3 x4 x5 x10 a21 a22 x23 x24 x25 x26 x27 σ g = some r) : LR l code 45 ret lw_tbl room_1 47 5558 ad [(q0, sL, a0)] (EL r) 1523 [(0, .ref q0), (1, .ref (ad 0)), (2, .ref q2), (3, .ref q3), (4, .int x4), (5, .int x5), (10, .int x10), (21, .ref q21), (22, .ref q22), (23, .int x23), (24, .int x24), (25, .int x25), (26, .int x26), (27, .int x27)] [] σ [(q2, 44, a2), (q3, 45, a3), (q21, 4, a21), (q22, 24, a22)] g := by
  unfold g_law_1523_b at h
  refine LR.iload (pc := 1523) (j := 13) dL_law_1523 rfl ?_
  refine LR.iconst (pc := 1525) (v := 4) dL_law_1525 (by decide) ?_
  refine LR.icmp_ge (pc := 1526) (tgt := 1623) dL_law_1526 (by decide) (fun c1 => ?_) (fun c1 => ?_)
  · replace h := ite_t c1 h
    refine LR.iload (pc := 1623) (j := 9) dL_law_1623 rfl ?_
    refine LR.iload (pc := 1625) (j := 12) dL_law_1625 rfl ?_
    refine LR.if_eq (pc := 1627) (tgt := 1634) dL_law_1627 (by decide) (fun c2 => ?_) (fun c2 => ?_)
    · replace h := ite_t c2 h
      refine LR.iconst (pc := 1634) (v := 0) dL_law_1634 (by decide) ?_
      exact LR.pick [0, 1, 2, 3, 4, 5, 6, 7, 8, 10, 11, 12] rfl (G_law_1635 sL a0 k85 k1512 a2 a3 x4 x5 x10 a21 a22 x24 x25 x26 0 x23 σ g hk85 hk1512 r h)
    · replace h := ite_f c2 h
      refine LR.iconst (pc := 1630) (v := 1) dL_law_1630 (by decide) ?_
      refine LR.goto (pc := 1631) (tgt := 1635) dL_law_1631 (by decide) ?_
      exact LR.pick [0, 1, 2, 3, 4, 5, 6, 7, 8, 10, 11, 12] rfl (G_law_1635 sL a0 k85 k1512 a2 a3 x4 x5 x10 a21 a22 x24 x25 x26 1 x23 σ g hk85 hk1512 r h)
  · replace h := ite_f c1 h
    refine LR.bipush (pc := 1529) (v := 6) dL_law_1529 (by decide) ?_
    obtain ⟨c3, h⟩ := gn_some h
    refine LR.newa (pc := 1531) (N := 6) dL_law_1531 (by decide) (by decide) (by decide) (groom c3) (fun qn3 => ?_)
    show LR l code 45 ret lw_tbl room_1 47 5558 ad [(q0, sL, a0)] (EL r) 1533 [(0, .ref q0), (1, .ref (ad 0)), (2, .ref q2), (3, .ref q3), (4, .int x4), (5, .int x5), (10, .int x10), (21, .ref q21), (22, .ref q22), (23, .int x23), (24, .int x24), (25, .int x25), (26, .int x26), (27, .int x27)] [.ref qn3] σ [(q2, 44, a2), (q3, 45, a3), (q21, 4, a21), (q22, 24, a22), (qn3, 6, (fun _ => 0))] (g + 1)
    refine LR.astore (pc := 1533) (L2 := [(28, .ref qn3), (0, .ref q0), (1, .ref (ad 0)), (2, .ref q2), (3, .ref q3), (4, .int x4), (5, .int x5), (10, .int x10), (21, .ref q21), (22, .ref q22), (23, .int x23), (24, .int x24), (25, .int x25), (26, .int x26), (27, .int x27)]) dL_law_1533 (by decide) rfl ?_
    refine LR.iconst (pc := 1535) (v := 0) dL_law_1535 (by decide) ?_
    refine LR.istore (pc := 1536) (L2 := [(29, .int 0), (28, .ref qn3), (0, .ref q0), (1, .ref (ad 0)), (2, .ref q2), (3, .ref q3), (4, .int x4), (5, .int x5), (10, .int x10), (21, .ref q21), (22, .ref q22), (23, .int x23), (24, .int x24), (25, .int x25), (26, .int x26), (27, .int x27)]) dL_law_1536 (by decide) rfl ?_
    exact LR.pick [2, 3, 4, 5, 6, 7, 8, 9, 10, 11, 12, 13, 14, 15, 1, 0] rfl (G_law_1538 sL a0 k85 k1512 k1523 a2 a3 x4 x5 x10 a21 a22 x23 x24 x25 x26 x27 σ (g + 1) hk85 hk1512 hk1523 ((fun _ => 0), 0) r h)
theorem G_law_1523 {l : Launch} {ad : Nat → Nat} {q0 : Nat} (sL : Nat) (a0 : Nat → Int32) (k85 : (Nat → Int32) × Int32 × HS × Nat → Option (Int32)) (k1512 : Int32 × Int32 × Int32 × Nat → Option (Int32)) {q2 : Nat} {q3 : Nat} {q21 : Nat} {q22 : Nat} (a2 : Nat → Int32) (a3 : Nat → Int32) (x4 : Int32) (x5 : Int32) (x10 : Int32) (a21 : Nat → Int32) (a22 : Nat → Int32) (x23 : Int32) (x24 : Int32) (x25 : Int32) (σ : HS) (hk85 : ∀ (p : (Nat → Int32) × Int32 × HS × Nat) (r : Int32), k85 p = some r → LR l code 45 ret lw_tbl room_1 47 5558 ad [(q0, sL, a0)] (EL r) 85 [(0, .ref q0), (1, .ref (ad 0)), (2, .ref q2), (3, .ref q3), (4, .int x4), (5, .int (p.2.1))] [] (p.2.2.1) [(q2, 44, p.1), (q3, 45, a3)] (p.2.2.2)) (hk1512 : ∀ (p : Int32 × Int32 × Int32 × Nat) (r : Int32), k1512 p = some r → LR l code 45 ret lw_tbl room_1 47 5558 ad [(q0, sL, a0)] (EL r) 1512 [(0, .ref q0), (1, .ref (ad 0)), (2, .ref q2), (3, .ref q3), (4, .int x4), (5, .int x5), (10, .int x10), (21, .ref q21), (22, .ref q22), (23, .int (p.1)), (24, .int (p.2.1)), (25, .int (p.2.2.1))] [] σ [(q2, 44, a2), (q3, 45, a3), (q21, 4, a21), (q22, 24, a22)] (p.2.2.2)) (p : Int32 × Int32 × Nat) (r : Int32) (h : g_law_1523 sL a0 k85 k1512 a2 a3 x4 x5 x10 a21 a22 x23 x24 x25 σ p = some r) : LR l code 45 ret lw_tbl room_1 47 5558 ad [(q0, sL, a0)] (EL r) 1523 [(0, .ref q0), (1, .ref (ad 0)), (2, .ref q2), (3, .ref q3), (4, .int x4), (5, .int x5), (10, .int x10), (21, .ref q21), (22, .ref q22), (23, .int x23), (24, .int x24), (25, .int x25), (26, .int (p.1)), (27, .int (p.2.1))] [] σ [(q2, 44, a2), (q3, 45, a3), (q21, 4, a21), (q22, 24, a22)] (p.2.2) := by
  unfold g_law_1523 at h
  exact wloop_run (body := fun k1523 p => g_law_1523_b sL a0 k85 k1512 k1523 a2 a3 x4 x5 x10 a21 a22 x23 x24 x25 p.1 p.2.1 σ p.2.2) (Q := (fun p r => LR l code 45 ret lw_tbl room_1 47 5558 ad [(q0, sL, a0)] (EL r) 1523 [(0, .ref q0), (1, .ref (ad 0)), (2, .ref q2), (3, .ref q3), (4, .int x4), (5, .int x5), (10, .int x10), (21, .ref q21), (22, .ref q22), (23, .int x23), (24, .int x24), (25, .int x25), (26, .int (p.1)), (27, .int (p.2.1))] [] σ [(q2, 44, a2), (q3, 45, a3), (q21, 4, a21), (q22, 24, a22)] (p.2.2))) (fun k1523 hk1523 p r h => G_law_1523_b sL a0 k85 k1512 k1523 a2 a3 x4 x5 x10 a21 a22 x23 x24 x25 p.1 p.2.1 σ p.2.2 hk85 hk1512 hk1523 r h) fuelN p r h
set_option maxHeartbeats 4000000 in
set_option maxRecDepth 100000 in
theorem G_law_1512_b {l : Launch} {ad : Nat → Nat} {q0 : Nat} (sL : Nat) (a0 : Nat → Int32) (k85 : (Nat → Int32) × Int32 × HS × Nat → Option (Int32)) (k1512 : Int32 × Int32 × Int32 × Nat → Option (Int32)) {q2 : Nat} {q3 : Nat} {q21 : Nat} {q22 : Nat} (a2 : Nat → Int32) (a3 : Nat → Int32) (x4 : Int32) (x5 : Int32) (x10 : Int32) (a21 : Nat → Int32) (a22 : Nat → Int32) (x23 : Int32) (x24 : Int32) (x25 : Int32) (σ : HS) (g : Nat) (hk85 : ∀ (p : (Nat → Int32) × Int32 × HS × Nat) (r : Int32), k85 p = some r → LR l code 45 ret lw_tbl room_1 47 5558 ad [(q0, sL, a0)] (EL r) 85 [(0, .ref q0), (1, .ref (ad 0)), (2, .ref q2), (3, .ref q3), (4, .int x4), (5, .int (p.2.1))] [] (p.2.2.1) [(q2, 44, p.1), (q3, 45, a3)] (p.2.2.2)) (hk1512 : ∀ (p : Int32 × Int32 × Int32 × Nat) (r : Int32), k1512 p = some r → LR l code 45 ret lw_tbl room_1 47 5558 ad [(q0, sL, a0)] (EL r) 1512 [(0, .ref q0), (1, .ref (ad 0)), (2, .ref q2), (3, .ref q3), (4, .int x4), (5, .int x5), (10, .int x10), (21, .ref q21), (22, .ref q22), (23, .int (p.1)), (24, .int (p.2.1)), (25, .int (p.2.2.1))] [] σ [(q2, 44, a2), (q3, 45, a3), (q21, 4, a21), (q22, 24, a22)] (p.2.2.2)) (r : Int32) (h : g_law_1512_b sL a0 k85 k1512 a2 a3 x4 x5 x10 a21 a22 x23 x24 x25 σ g = some r) : LR l code 45 ret lw_tbl room_1 47 5558 ad [(q0, sL, a0)] (EL r) 1512 [(0, .ref q0), (1, .ref (ad 0)), (2, .ref q2), (3, .ref q3), (4, .int x4), (5, .int x5), (10, .int x10), (21, .ref q21), (22, .ref q22), (23, .int x23), (24, .int x24), (25, .int x25)] [] σ [(q2, 44, a2), (q3, 45, a3), (q21, 4, a21), (q22, 24, a22)] g := by
  unfold g_law_1512_b at h
  refine LR.iload (pc := 1512) (j := 11) dL_law_1512 rfl ?_
  refine LR.if_lt (pc := 1514) (tgt := 1658) dL_law_1514 (by decide) (fun c1 => ?_) (fun c1 => ?_)
  · replace h := ite_t c1 h
    refine LR.aload_n (pc := 1658) (j := 1) dL_law_1658 rfl rfl ?_
    refine LR.iconst (pc := 1659) (v := 0) dL_law_1659 (by decide) ?_
    obtain ⟨r2, h2, h⟩ := bd_some h
    refine LR.callV (pc := 1660) (As := [.int 0]) (st := []) (ci := 8) dL_law_1660 ⟨cd_X8_guess, im_X8_guess, se_X8_guess, ini_X8⟩ ml_L_118 (A8_guess 0 σ _ h2) rfl rfl ⟨rfl, pd_X8_guess⟩ ⟨Nat.le_of_ble_eq_true rfl, Nat.le_of_ble_eq_true rfl⟩ ⟨rfl, rfl⟩ rfl rfl rfl (Nat.le_of_ble_eq_true rfl) ?_
    refine LR.iload (pc := 1663) (j := 9) dL_law_1663 rfl ?_
    refine LR.icmp_ne (pc := 1665) (tgt := 1713) dL_law_1665 (by decide) (fun c3 => ?_) (fun c3 => ?_)
    · replace h := ite_f c3 h
      refine LR.iconst (pc := 1713) (v := 0) dL_law_1713 (by decide) ?_
      exact LR.fin ⟨congrArg (fun z => [Value.int z]) (Option.some.inj h), dL_law_1714⟩
    · replace h := ite_t c3 h
      refine LR.aload_n (pc := 1668) (j := 1) dL_law_1668 rfl rfl ?_
      refine LR.iconst (pc := 1669) (v := 1) dL_law_1669 (by decide) ?_
      obtain ⟨r4, h4, h⟩ := bd_some h
      refine LR.callV (pc := 1670) (As := [.int 1]) (st := []) (ci := 8) dL_law_1670 ⟨cd_X8_guess, im_X8_guess, se_X8_guess, ini_X8⟩ ml_L_118 (A8_guess 1 (r2.2) _ h4) rfl rfl ⟨rfl, pd_X8_guess⟩ ⟨Nat.le_of_ble_eq_true rfl, Nat.le_of_ble_eq_true rfl⟩ ⟨rfl, rfl⟩ rfl rfl rfl (Nat.le_of_ble_eq_true rfl) ?_
      refine LR.iload (pc := 1673) (j := 10) dL_law_1673 rfl ?_
      refine LR.icmp_ne (pc := 1675) (tgt := 1713) dL_law_1675 (by decide) (fun c5 => ?_) (fun c5 => ?_)
      · replace h := ite_f c5 h
        refine LR.iconst (pc := 1713) (v := 0) dL_law_1713 (by decide) ?_
        exact LR.fin ⟨congrArg (fun z => [Value.int z]) (Option.some.inj h), dL_law_1714⟩
      · replace h := ite_t c5 h
        refine LR.iload (pc := 1678) (j := 9) dL_law_1678 rfl ?_
        refine LR.iconst (pc := 1680) (v := 1) dL_law_1680 (by decide) ?_
        refine LR.icmp_lt (pc := 1681) (tgt := 1713) dL_law_1681 (by decide) (fun c6 => ?_) (fun c6 => ?_)
        · replace h := ite_t c6 h
          refine LR.iconst (pc := 1713) (v := 0) dL_law_1713 (by decide) ?_
          exact LR.fin ⟨congrArg (fun z => [Value.int z]) (Option.some.inj h), dL_law_1714⟩
        · replace h := ite_f c6 h
          refine LR.aload_n (pc := 1684) (j := 1) dL_law_1684 rfl rfl ?_
          refine LR.iconst (pc := 1685) (v := 2) dL_law_1685 (by decide) ?_
          obtain ⟨r7, h7, h⟩ := bd_some h
          refine LR.callV (pc := 1686) (As := [.int 2]) (st := []) (ci := 8) dL_law_1686 ⟨cd_X8_guess, im_X8_guess, se_X8_guess, ini_X8⟩ ml_L_118 (A8_guess 2 (r4.2) _ h7) rfl rfl ⟨rfl, pd_X8_guess⟩ ⟨Nat.le_of_ble_eq_true rfl, Nat.le_of_ble_eq_true rfl⟩ ⟨rfl, rfl⟩ rfl rfl rfl (Nat.le_of_ble_eq_true rfl) ?_
          refine LR.bipush (pc := 1689) (v := (-2)) dL_law_1689 (by decide) ?_
          refine LR.icmp_ne (pc := 1691) (tgt := 1713) dL_law_1691 (by decide) (fun c8 => ?_) (fun c8 => ?_)
          · replace h := ite_f c8 h
            refine LR.iconst (pc := 1713) (v := 0) dL_law_1713 (by decide) ?_
            exact LR.fin ⟨congrArg (fun z => [Value.int z]) (Option.some.inj h), dL_law_1714⟩
          · replace h := ite_t c8 h
            refine LR.aload_n (pc := 1694) (j := 1) dL_law_1694 rfl rfl ?_
            refine LR.iconst (pc := 1695) (v := 5) dL_law_1695 (by decide) ?_
            obtain ⟨r9, h9, h⟩ := bd_some h
            refine LR.callV (pc := 1696) (As := [.int 5]) (st := []) (ci := 8) dL_law_1696 ⟨cd_X8_many, im_X8_many, se_X8_many, ini_X8⟩ ml_L_113 (A8_many 5 (r7.2) _ h9) rfl rfl ⟨rfl, pd_X8_many⟩ ⟨Nat.le_of_ble_eq_true rfl, Nat.le_of_ble_eq_true rfl⟩ ⟨rfl, rfl⟩ rfl rfl rfl (Nat.le_of_ble_eq_true rfl) ?_
            refine LR.iconst (pc := 1699) (v := 4) dL_law_1699 (by decide) ?_
            refine LR.icmp_ne (pc := 1700) (tgt := 1713) dL_law_1700 (by decide) (fun c10 => ?_) (fun c10 => ?_)
            · replace h := ite_f c10 h
              refine LR.iconst (pc := 1713) (v := 0) dL_law_1713 (by decide) ?_
              exact LR.fin ⟨congrArg (fun z => [Value.int z]) (Option.some.inj h), dL_law_1714⟩
            · replace h := ite_t c10 h
              refine LR.aload_n (pc := 1703) (j := 1) dL_law_1703 rfl rfl ?_
              refine LR.iconst (pc := 1704) (v := 5) dL_law_1704 (by decide) ?_
              obtain ⟨r11, h11, h⟩ := bd_some h
              refine LR.callV (pc := 1705) (As := [.int 5]) (st := []) (ci := 8) dL_law_1705 ⟨cd_X8_back, im_X8_back, se_X8_back, ini_X8⟩ ml_L_121 (A8_back 5 (r9.2) _ h11) rfl rfl ⟨rfl, pd_X8_back⟩ ⟨Nat.le_of_ble_eq_true rfl, Nat.le_of_ble_eq_true rfl⟩ ⟨rfl, rfl⟩ rfl rfl rfl (Nat.le_of_ble_eq_true rfl) ?_
              refine LR.bipush (pc := 1708) (v := (-2)) dL_law_1708 (by decide) ?_
              refine LR.icmp_eq (pc := 1710) (tgt := 1715) dL_law_1710 (by decide) (fun c12 => ?_) (fun c12 => ?_)
              · replace h := ite_t c12 h
                refine LR.aload_n (pc := 1715) (j := 0) dL_law_1715 rfl rfl ?_
                refine LR.bipush (pc := 1716) (v := 24) dL_law_1716 (by decide) ?_
                refine LR.iload (pc := 1718) (j := 5) dL_law_1718 rfl ?_
                refine LR.iadd (pc := 1720) dL_law_1720 ?_
                obtain ⟨r13, h13, h⟩ := bd_some h
                refine LR.callS0 (pc := 1721) (As := [.ref q0, .int (24 + x5)]) (st := []) (as2 := []) (asR := [(q2, 44, a2), (q3, 45, a3), (q21, 4, a21), (q22, 24, a22)]) (ro2 := [(q0, sL, a0)]) (mg := 0) (FIN := (FI (r11.2) r13)) [] [0, 1, 2, 3] dL_law_1721 ⟨cd_L_cell, sm_L_cell, ini_L⟩ ml_L_9 (G_cell sL a0 (24 + x5) r13 h13) ⟨rfl, pd_L_cell⟩ ⟨Nat.le_of_ble_eq_true rfl, Nat.le_of_ble_eq_true rfl⟩ ⟨rfl, rfl⟩ rfl rfl rfl rfl rfl (by decide) (Or.inl ⟨[0], rfl⟩) rfl (Nat.le_of_ble_eq_true rfl) (fun v9 σ9 as9 hF9 => ?_)
                obtain ⟨rfl, e9, rfl⟩ := hF9; replace e9 := e9.symm; subst e9
                show LR l code 45 ret lw_tbl room_1 47 5558 ad [(q0, sL, a0)] (EL r) 1724 [(0, .ref q0), (1, .ref (ad 0)), (2, .ref q2), (3, .ref q3), (4, .int x4), (5, .int x5), (10, .int x10), (21, .ref q21), (22, .ref q22), (23, .int x23), (24, .int x24), (25, .int x25)] [.int r13] (r11.2) [(q2, 44, a2), (q3, 45, a3), (q21, 4, a21), (q22, 24, a22)] g
                refine LR.iload (pc := 1724) (j := 4) dL_law_1724 rfl ?_
                obtain ⟨r14, h14, h⟩ := bd_some h
                refine LR.callS0 (pc := 1726) (As := [.int r13, .int x4]) (st := []) (as2 := []) (asR := [(q2, 44, a2), (q3, 45, a3), (q21, 4, a21), (q22, 24, a22)]) (ro2 := []) (mg := 0) (FIN := (FI (r11.2) r14)) [] [0, 1, 2, 3] dL_law_1726 ⟨cd_L_low, sm_L_low, ini_L⟩ ml_L_15 (G_low r13 x4 r14 h14) ⟨rfl, pd_L_low⟩ ⟨Nat.le_of_ble_eq_true rfl, Nat.le_of_ble_eq_true rfl⟩ ⟨rfl, rfl⟩ rfl rfl rfl rfl rfl (by decide) (Or.inl ⟨[], rfl⟩) rfl (Nat.le_of_ble_eq_true rfl) (fun v9 σ9 as9 hF9 => ?_)
                obtain ⟨rfl, e9, rfl⟩ := hF9; replace e9 := e9.symm; subst e9
                show LR l code 45 ret lw_tbl room_1 47 5558 ad [(q0, sL, a0)] (EL r) 1729 [(0, .ref q0), (1, .ref (ad 0)), (2, .ref q2), (3, .ref q3), (4, .int x4), (5, .int x5), (10, .int x10), (21, .ref q21), (22, .ref q22), (23, .int x23), (24, .int x24), (25, .int x25)] [.int r14] (r11.2) [(q2, 44, a2), (q3, 45, a3), (q21, 4, a21), (q22, 24, a22)] g
                refine LR.istore (pc := 1729) (L2 := [(25, .int r14), (0, .ref q0), (1, .ref (ad 0)), (2, .ref q2), (3, .ref q3), (4, .int x4), (5, .int x5), (10, .int x10), (21, .ref q21), (22, .ref q22), (23, .int x23), (24, .int x24)]) dL_law_1729 (by decide) rfl ?_
                refine LR.aload_n (pc := 1731) (j := 1) dL_law_1731 rfl rfl ?_
                refine LR.bipush (pc := 1732) (v := 24) dL_law_1732 (by decide) ?_
                refine LR.iload (pc := 1734) (j := 6) dL_law_1734 rfl ?_
                refine LR.iadd (pc := 1736) dL_law_1736 ?_
                obtain ⟨r15, h15, h⟩ := bd_some h
                refine LR.callS0 (pc := 1737) (As := [.ref q0, .int (24 + x5)]) (st := []) (as2 := []) (asR := [(q2, 44, a2), (q3, 45, a3), (q21, 4, a21), (q22, 24, a22)]) (ro2 := [(q0, sL, a0)]) (mg := 0) (FIN := (FI (r11.2) r15)) [] [0, 1, 2, 3] dL_law_1737 ⟨cd_L_cell, sm_L_cell, ini_L⟩ ml_L_9 (G_cell sL a0 (24 + x5) r15 h15) ⟨rfl, pd_L_cell⟩ ⟨Nat.le_of_ble_eq_true rfl, Nat.le_of_ble_eq_true rfl⟩ ⟨rfl, rfl⟩ rfl rfl rfl rfl rfl (by decide) (Or.inl ⟨[0], rfl⟩) rfl (Nat.le_of_ble_eq_true rfl) (fun v9 σ9 as9 hF9 => ?_)
                obtain ⟨rfl, e9, rfl⟩ := hF9; replace e9 := e9.symm; subst e9
                show LR l code 45 ret lw_tbl room_1 47 5558 ad [(q0, sL, a0)] (EL r) 1740 [(25, .int r14), (0, .ref q0), (1, .ref (ad 0)), (2, .ref q2), (3, .ref q3), (4, .int x4), (5, .int x5), (10, .int x10), (21, .ref q21), (22, .ref q22), (23, .int x23), (24, .int x24)] [.int r15] (r11.2) [(q2, 44, a2), (q3, 45, a3), (q21, 4, a21), (q22, 24, a22)] g
                refine LR.iconst (pc := 1740) (v := 3) dL_law_1740 (by decide) ?_
                refine LR.ishr (pc := 1741) dL_law_1741 ?_
                refine LR.aload_n (pc := 1742) (j := 3) dL_law_1742 rfl rfl ?_
                refine LR.bipush (pc := 1743) (v := 9) dL_law_1743 (by decide) ?_
                refine LR.iload (pc := 1745) (j := 0) dL_law_1745 rfl ?_
                refine LR.iadd (pc := 1747) dL_law_1747 ?_
                obtain ⟨c16, h⟩ := gn_some h
                refine LR.iaload (pc := 1748) (j := 0) dL_law_1748 rfl c16 ?_
                obtain ⟨r17, h17, h⟩ := bd_some h
                refine LR.callS0 (pc := 1749) (As := [.int (r15 >>> (3 &&& 31)), .int (a2 ((9 + r14) : Int32).toNatClampNeg)]) (st := []) (as2 := []) (asR := [(q2, 44, a2), (q3, 45, a3), (q21, 4, a21), (q22, 24, a22)]) (ro2 := []) (mg := 0) (FIN := (FI (r11.2) r17)) [] [0, 1, 2, 3] dL_law_1749 ⟨cd_L_low, sm_L_low, ini_L⟩ ml_L_15 (G_low (r15 >>> (3 &&& 31)) (a2 ((9 + r14) : Int32).toNatClampNeg) r17 h17) ⟨rfl, pd_L_low⟩ ⟨Nat.le_of_ble_eq_true rfl, Nat.le_of_ble_eq_true rfl⟩ ⟨rfl, rfl⟩ rfl rfl rfl rfl rfl (by decide) (Or.inl ⟨[], rfl⟩) rfl (Nat.le_of_ble_eq_true rfl) (fun v9 σ9 as9 hF9 => ?_)
                obtain ⟨rfl, e9, rfl⟩ := hF9; replace e9 := e9.symm; subst e9
                show LR l code 45 ret lw_tbl room_1 47 5558 ad [(q0, sL, a0)] (EL r) 1752 [(25, .int r14), (0, .ref q0), (1, .ref (ad 0)), (2, .ref q2), (3, .ref q3), (4, .int x4), (5, .int x5), (10, .int x10), (21, .ref q21), (22, .ref q22), (23, .int x23), (24, .int x24)] [.int r17] (r11.2) [(q2, 44, a2), (q3, 45, a3), (q21, 4, a21), (q22, 24, a22)] g
                refine LR.istore (pc := 1752) (L2 := [(26, .int r17), (25, .int r14), (0, .ref q0), (1, .ref (ad 0)), (2, .ref q2), (3, .ref q3), (4, .int x4), (5, .int x5), (10, .int x10), (21, .ref q21), (22, .ref q22), (23, .int x23), (24, .int x24)]) dL_law_1752 (by decide) rfl ?_
                refine LR.aload_n (pc := 1754) (j := 3) dL_law_1754 rfl rfl ?_
                refine LR.iload (pc := 1755) (j := 1) dL_law_1755 rfl ?_
                refine LR.iload (pc := 1757) (j := 0) dL_law_1757 rfl ?_
                refine LR.iconst (pc := 1759) (v := (-1)) dL_law_1759 (by decide) ?_
                obtain ⟨r18, h18, h⟩ := bd_some h
                refine LR.callV (pc := 1760) (As := [.int r14, .int r17, .int (-1)]) (st := []) (ci := 8) dL_law_1760 ⟨cd_X8_motion, im_X8_motion, se_X8_motion, ini_X8⟩ ml_L_124 (A8_motion r14 r17 (-1) (r11.2) _ h18) rfl rfl ⟨rfl, pd_X8_motion⟩ ⟨Nat.le_of_ble_eq_true rfl, Nat.le_of_ble_eq_true rfl⟩ ⟨rfl, rfl⟩ rfl rfl rfl (Nat.le_of_ble_eq_true rfl) ?_
                refine LR.istore (pc := 1763) (L2 := [(27, .int (r18.1)), (26, .int r17), (25, .int r14), (0, .ref q0), (1, .ref (ad 0)), (2, .ref q2), (3, .ref q3), (4, .int x4), (5, .int x5), (10, .int x10), (21, .ref q21), (22, .ref q22), (23, .int x23), (24, .int x24)]) dL_law_1763 (by decide) rfl ?_
                refine LR.iconst (pc := 1765) (v := 5) dL_law_1765 (by decide) ?_
                obtain ⟨c19, h⟩ := gn_some h
                refine LR.newa (pc := 1766) (N := 5) dL_law_1766 (by decide) (by decide) (by decide) (groom c19) (fun qn19 => ?_)
                show LR l code 45 ret lw_tbl room_1 47 5558 ad [(q0, sL, a0)] (EL r) 1768 [(27, .int (r18.1)), (26, .int r17), (25, .int r14), (0, .ref q0), (1, .ref (ad 0)), (2, .ref q2), (3, .ref q3), (4, .int x4), (5, .int x5), (10, .int x10), (21, .ref q21), (22, .ref q22), (23, .int x23), (24, .int x24)] [.ref qn19] (r18.2) [(q2, 44, a2), (q3, 45, a3), (q21, 4, a21), (q22, 24, a22), (qn19, 5, (fun _ => 0))] (g + 1)
                refine LR.astore (pc := 1768) (L2 := [(28, .ref qn19), (27, .int (r18.1)), (26, .int r17), (25, .int r14), (0, .ref q0), (1, .ref (ad 0)), (2, .ref q2), (3, .ref q3), (4, .int x4), (5, .int x5), (10, .int x10), (21, .ref q21), (22, .ref q22), (23, .int x23), (24, .int x24)]) dL_law_1768 (by decide) rfl ?_
                refine LR.iconst (pc := 1770) (v := 0) dL_law_1770 (by decide) ?_
                refine LR.istore (pc := 1771) (L2 := [(29, .int 0), (28, .ref qn19), (27, .int (r18.1)), (26, .int r17), (25, .int r14), (0, .ref q0), (1, .ref (ad 0)), (2, .ref q2), (3, .ref q3), (4, .int x4), (5, .int x5), (10, .int x10), (21, .ref q21), (22, .ref q22), (23, .int x23), (24, .int x24)]) dL_law_1771 (by decide) rfl ?_
                exact LR.pick [5, 6, 7, 8, 9, 10, 11, 4, 3, 2, 1, 0] rfl (LR.sub (as2 := [(q2, 44, a2), (q3, 45, a3), (qn19, 5, (fun _ => 0))]) [0, 1, 4] rfl rfl (G_law_1773 sL a0 k85 a2 a3 x4 x5 x10 r14 r17 (r18.1) (g + 1) hk85 ((fun _ => 0), 0, r18.2) r h))
              · replace h := ite_f c12 h
                refine LR.iconst (pc := 1713) (v := 0) dL_law_1713 (by decide) ?_
                exact LR.fin ⟨congrArg (fun z => [Value.int z]) (Option.some.inj h), dL_law_1714⟩
  · replace h := ite_f c1 h
    refine LR.iconst (pc := 1517) (v := 1) dL_law_1517 (by decide) ?_
    refine LR.istore (pc := 1518) (L2 := [(26, .int 1), (0, .ref q0), (1, .ref (ad 0)), (2, .ref q2), (3, .ref q3), (4, .int x4), (5, .int x5), (10, .int x10), (21, .ref q21), (22, .ref q22), (23, .int x23), (24, .int x24), (25, .int x25)]) dL_law_1518 (by decide) rfl ?_
    refine LR.iconst (pc := 1520) (v := 0) dL_law_1520 (by decide) ?_
    refine LR.istore (pc := 1521) (L2 := [(27, .int 0), (26, .int 1), (0, .ref q0), (1, .ref (ad 0)), (2, .ref q2), (3, .ref q3), (4, .int x4), (5, .int x5), (10, .int x10), (21, .ref q21), (22, .ref q22), (23, .int x23), (24, .int x24), (25, .int x25)]) dL_law_1521 (by decide) rfl ?_
    exact LR.pick [2, 3, 4, 5, 6, 7, 8, 9, 10, 11, 12, 13, 1, 0] rfl (G_law_1523 sL a0 k85 k1512 a2 a3 x4 x5 x10 a21 a22 x23 x24 x25 σ hk85 hk1512 (1, 0, g) r h)
theorem G_law_1512 {l : Launch} {ad : Nat → Nat} {q0 : Nat} (sL : Nat) (a0 : Nat → Int32) (k85 : (Nat → Int32) × Int32 × HS × Nat → Option (Int32)) {q2 : Nat} {q3 : Nat} {q21 : Nat} {q22 : Nat} (a2 : Nat → Int32) (a3 : Nat → Int32) (x4 : Int32) (x5 : Int32) (x10 : Int32) (a21 : Nat → Int32) (a22 : Nat → Int32) (σ : HS) (hk85 : ∀ (p : (Nat → Int32) × Int32 × HS × Nat) (r : Int32), k85 p = some r → LR l code 45 ret lw_tbl room_1 47 5558 ad [(q0, sL, a0)] (EL r) 85 [(0, .ref q0), (1, .ref (ad 0)), (2, .ref q2), (3, .ref q3), (4, .int x4), (5, .int (p.2.1))] [] (p.2.2.1) [(q2, 44, p.1), (q3, 45, a3)] (p.2.2.2)) (p : Int32 × Int32 × Int32 × Nat) (r : Int32) (h : g_law_1512 sL a0 k85 a2 a3 x4 x5 x10 a21 a22 σ p = some r) : LR l code 45 ret lw_tbl room_1 47 5558 ad [(q0, sL, a0)] (EL r) 1512 [(0, .ref q0), (1, .ref (ad 0)), (2, .ref q2), (3, .ref q3), (4, .int x4), (5, .int x5), (10, .int x10), (21, .ref q21), (22, .ref q22), (23, .int (p.1)), (24, .int (p.2.1)), (25, .int (p.2.2.1))] [] σ [(q2, 44, a2), (q3, 45, a3), (q21, 4, a21), (q22, 24, a22)] (p.2.2.2) := by
  unfold g_law_1512 at h
  exact wloop_run (body := fun k1512 p => g_law_1512_b sL a0 k85 k1512 a2 a3 x4 x5 x10 a21 a22 p.1 p.2.1 p.2.2.1 σ p.2.2.2) (Q := (fun p r => LR l code 45 ret lw_tbl room_1 47 5558 ad [(q0, sL, a0)] (EL r) 1512 [(0, .ref q0), (1, .ref (ad 0)), (2, .ref q2), (3, .ref q3), (4, .int x4), (5, .int x5), (10, .int x10), (21, .ref q21), (22, .ref q22), (23, .int (p.1)), (24, .int (p.2.1)), (25, .int (p.2.2.1))] [] σ [(q2, 44, a2), (q3, 45, a3), (q21, 4, a21), (q22, 24, a22)] (p.2.2.2))) (fun k1512 hk1512 p r h => G_law_1512_b sL a0 k85 k1512 a2 a3 x4 x5 x10 a21 a22 p.1 p.2.1 p.2.2.1 σ p.2.2.2 hk85 hk1512 r h) fuelN p r h
set_option maxHeartbeats 4000000 in
set_option maxRecDepth 100000 in
theorem G_law_1429 {l : Launch} {ad : Nat → Nat} {q0 : Nat} (sL : Nat) (a0 : Nat → Int32) (k85 : (Nat → Int32) × Int32 × HS × Nat → Option (Int32)) (k1291 : (Nat → Int32) × (Nat → Int32) × Int32 × HS × Nat → Option (Int32)) {q2 : Nat} {q3 : Nat} {q21 : Nat} {q22 : Nat} {qz2 : Nat} (a2 : Nat → Int32) (a3 : Nat → Int32) (x4 : Int32) (x5 : Int32) (x10 : Int32) (x19 : Int32) (x20 : Int32) (a21 : Nat → Int32) (a22 : Nat → Int32) (x23 : Int32) (z0 : Int32) (z1 : Int32) (az2 : Nat → Int32) (z5 : Int32) (σ : HS) (g : Nat) (hk85 : ∀ (p : (Nat → Int32) × Int32 × HS × Nat) (r : Int32), k85 p = some r → LR l code 45 ret lw_tbl room_1 47 5558 ad [(q0, sL, a0)] (EL r) 85 [(0, .ref q0), (1, .ref (ad 0)), (2, .ref q2), (3, .ref q3), (4, .int x4), (5, .int (p.2.1))] [] (p.2.2.1) [(q2, 44, p.1), (q3, 45, a3)] (p.2.2.2)) (hk1291 : ∀ (p : (Nat → Int32) × (Nat → Int32) × Int32 × HS × Nat) (r : Int32), k1291 p = some r → LR l code 45 ret lw_tbl room_1 47 5558 ad [(q0, sL, a0)] (EL r) 1291 [(0, .ref q0), (1, .ref (ad 0)), (2, .ref q2), (3, .ref q3), (4, .int x4), (5, .int x5), (10, .int x10), (19, .int x19), (20, .int x20), (21, .ref q21), (22, .ref q22), (23, .int (p.2.2.1))] [] (p.2.2.2.1) [(q2, 44, a2), (q3, 45, a3), (q21, 4, p.1), (q22, 24, p.2.1)] (p.2.2.2.2)) (r : Int32) (h : g_law_1429 sL a0 k85 k1291 a2 a3 x4 x5 x10 x19 x20 a21 a22 x23 z0 z1 az2 z5 σ g = some r) : LR l code 45 ret lw_tbl room_1 47 5558 ad [(q0, sL, a0)] (EL r) 1429 [(0, .ref q0), (1, .ref (ad 0)), (2, .ref q2), (3, .ref q3), (4, .int x4), (5, .int x5), (10, .int x10), (19, .int x19), (20, .int x20), (21, .ref q21), (22, .ref q22), (23, .int x23)] [.int z0, .int z1, .ref qz2, .ref q3, .ref q2, .int z5, .ref q21] σ [(q2, 44, a2), (q3, 45, a3), (q21, 4, a21), (q22, 24, a22), (qz2, 6, az2)] g := by
  unfold g_law_1429 at h
  obtain ⟨r1, h1, h⟩ := bd_some h
  obtain ⟨c2, h⟩ := gn_some h
  refine LR.callS (pc := 1429) (As := [.ref q2, .ref q3, .ref qz2, .int z1, .int z0]) (st := [.int z5, .ref q21]) (as2 := []) (asR := [(q2, 44, a2), (q3, 45, a3), (q21, 4, a21), (q22, 24, a22), (qz2, 6, az2)]) (ro2 := [(q2, 44, a2), (q3, 45, a3), (qz2, 6, az2)]) (mg := 1) (FIN := (FA 16 σ r1)) [] [0, 1, 2, 3, 4] dL_law_1429 ⟨cd_L_day, sm_L_day, ini_L⟩ ml_L_77 (G_day a2 a3 az2 z1 z0 r1 h1) ⟨rfl, pd_L_day⟩ ⟨Nat.le_of_ble_eq_true rfl, Nat.le_of_ble_eq_true rfl⟩ ⟨rfl, rfl⟩ (groom c2) rfl rfl rfl rfl (by decide) (Or.inr ⟨[0, 1, 4], rfl, by decide⟩) rfl (Nat.le_of_ble_eq_true rfl) (fun v9 σ9 as9 hF9 => ?_)
  obtain ⟨qn1, rfl, e9, rfl⟩ := hF9; replace e9 := e9.symm; subst e9
  show LR l code 45 ret lw_tbl room_1 47 5558 ad [(q0, sL, a0)] (EL r) 1432 [(0, .ref q0), (1, .ref (ad 0)), (2, .ref q2), (3, .ref q3), (4, .int x4), (5, .int x5), (10, .int x10), (19, .int x19), (20, .int x20), (21, .ref q21), (22, .ref q22), (23, .int x23)] [.ref qn1, .int z5, .ref q21] σ [(q2, 44, a2), (q3, 45, a3), (q21, 4, a21), (q22, 24, a22), (qz2, 6, az2), (qn1, 16, r1)] (g + 1)
  refine LR.iconst (pc := 1432) (v := 2) dL_law_1432 (by decide) ?_
  refine LR.iaload (pc := 1433) (j := 5) dL_law_1433 rfl (by decide) ?_
  obtain ⟨c3, h⟩ := gn_some h
  obtain ⟨b4, e4, h⟩ := bd_some h
  replace e4 := Option.some.inj e4
  refine LR.iastore (pc := 1434) (j := 2) (as2 := [(q2, 44, a2), (q3, 45, a3), (q21, 4, b4), (q22, 24, a22), (qz2, 6, az2), (qn1, 16, r1)]) dL_law_1434 rfl c3 (by subst e4; rfl) ?_
  refine LR.aload_n (pc := 1435) (j := 1) dL_law_1435 rfl rfl ?_
  refine LR.iconst (pc := 1436) (v := 1) dL_law_1436 (by decide) ?_
  refine LR.iconst (pc := 1437) (v := 1) dL_law_1437 (by decide) ?_
  refine LR.iconst (pc := 1438) (v := 0) dL_law_1438 (by decide) ?_
  refine LR.aload (pc := 1439) (j := 9) dL_law_1439 rfl ?_
  refine LR.iload (pc := 1441) (j := 11) dL_law_1441 rfl ?_
  obtain ⟨c5, h⟩ := gn_some h
  refine LR.iaload (pc := 1443) (j := 2) dL_law_1443 rfl c5 ?_
  obtain ⟨r6, h6, h⟩ := bd_some h
  refine LR.callV (pc := 1444) (As := [.int 1, .int 1, .int 0, .int (b4 (x23 : Int32).toNatClampNeg)]) (st := []) (ci := 8) dL_law_1444 ⟨cd_X8_day, im_X8_day, se_X8_day, ini_X8⟩ ml_L_116 (A8_day 1 1 0 (b4 (x23 : Int32).toNatClampNeg) σ _ h6) rfl rfl ⟨rfl, pd_X8_day⟩ ⟨Nat.le_of_ble_eq_true rfl, Nat.le_of_ble_eq_true rfl⟩ ⟨rfl, rfl⟩ rfl rfl rfl (Nat.le_of_ble_eq_true rfl) ?_
  refine LR.iload (pc := 1447) (j := 11) dL_law_1447 rfl ?_
  refine LR.icmp_ne (pc := 1449) (tgt := 1493) dL_law_1449 (by decide) (fun c7 => ?_) (fun c7 => ?_)
  · replace h := ite_f c7 h
    refine LR.iconst (pc := 1493) (v := 0) dL_law_1493 (by decide) ?_
    exact LR.fin ⟨congrArg (fun z => [Value.int z]) (Option.some.inj h), dL_law_1494⟩
  · replace h := ite_t c7 h
    refine LR.aload_n (pc := 1452) (j := 1) dL_law_1452 rfl rfl ?_
    refine LR.iconst (pc := 1453) (v := 1) dL_law_1453 (by decide) ?_
    refine LR.iconst (pc := 1454) (v := 1) dL_law_1454 (by decide) ?_
    refine LR.iconst (pc := 1455) (v := 0) dL_law_1455 (by decide) ?_
    refine LR.bipush (pc := 1456) (v := 100) dL_law_1456 (by decide) ?_
    obtain ⟨r8, h8, h⟩ := bd_some h
    refine LR.callV (pc := 1458) (As := [.int 1, .int 1, .int 0, .int 100]) (st := []) (ci := 8) dL_law_1458 ⟨cd_X8_day, im_X8_day, se_X8_day, ini_X8⟩ ml_L_116 (A8_day 1 1 0 100 (r6.2) _ h8) rfl rfl ⟨rfl, pd_X8_day⟩ ⟨Nat.le_of_ble_eq_true rfl, Nat.le_of_ble_eq_true rfl⟩ ⟨rfl, rfl⟩ rfl rfl rfl (Nat.le_of_ble_eq_true rfl) ?_
    refine LR.bipush (pc := 1461) (v := (-2)) dL_law_1461 (by decide) ?_
    refine LR.icmp_ne (pc := 1463) (tgt := 1493) dL_law_1463 (by decide) (fun c9 => ?_) (fun c9 => ?_)
    · replace h := ite_f c9 h
      refine LR.iconst (pc := 1493) (v := 0) dL_law_1493 (by decide) ?_
      exact LR.fin ⟨congrArg (fun z => [Value.int z]) (Option.some.inj h), dL_law_1494⟩
    · replace h := ite_t c9 h
      refine LR.aload_n (pc := 1466) (j := 1) dL_law_1466 rfl rfl ?_
      refine LR.iconst (pc := 1467) (v := 1) dL_law_1467 (by decide) ?_
      refine LR.iconst (pc := 1468) (v := 0) dL_law_1468 (by decide) ?_
      refine LR.iconst (pc := 1469) (v := 0) dL_law_1469 (by decide) ?_
      refine LR.iconst (pc := 1470) (v := 0) dL_law_1470 (by decide) ?_
      obtain ⟨r10, h10, h⟩ := bd_some h
      refine LR.callV (pc := 1471) (As := [.int 1, .int 0, .int 0, .int 0]) (st := []) (ci := 8) dL_law_1471 ⟨cd_X8_day, im_X8_day, se_X8_day, ini_X8⟩ ml_L_116 (A8_day 1 0 0 0 (r8.2) _ h10) rfl rfl ⟨rfl, pd_X8_day⟩ ⟨Nat.le_of_ble_eq_true rfl, Nat.le_of_ble_eq_true rfl⟩ ⟨rfl, rfl⟩ rfl rfl rfl (Nat.le_of_ble_eq_true rfl) ?_
      refine LR.bipush (pc := 1474) (v := (-12)) dL_law_1474 (by decide) ?_
      refine LR.icmp_ne (pc := 1476) (tgt := 1493) dL_law_1476 (by decide) (fun c11 => ?_) (fun c11 => ?_)
      · replace h := ite_f c11 h
        refine LR.iconst (pc := 1493) (v := 0) dL_law_1493 (by decide) ?_
        exact LR.fin ⟨congrArg (fun z => [Value.int z]) (Option.some.inj h), dL_law_1494⟩
      · replace h := ite_t c11 h
        refine LR.aload_n (pc := 1479) (j := 1) dL_law_1479 rfl rfl ?_
        refine LR.iconst (pc := 1480) (v := 1) dL_law_1480 (by decide) ?_
        refine LR.iconst (pc := 1481) (v := 1) dL_law_1481 (by decide) ?_
        refine LR.bipush (pc := 1482) (v := 6) dL_law_1482 (by decide) ?_
        refine LR.iconst (pc := 1484) (v := 0) dL_law_1484 (by decide) ?_
        obtain ⟨r12, h12, h⟩ := bd_some h
        refine LR.callV (pc := 1485) (As := [.int 1, .int 1, .int 6, .int 0]) (st := []) (ci := 8) dL_law_1485 ⟨cd_X8_day, im_X8_day, se_X8_day, ini_X8⟩ ml_L_116 (A8_day 1 1 6 0 (r10.2) _ h12) rfl rfl ⟨rfl, pd_X8_day⟩ ⟨Nat.le_of_ble_eq_true rfl, Nat.le_of_ble_eq_true rfl⟩ ⟨rfl, rfl⟩ rfl rfl rfl (Nat.le_of_ble_eq_true rfl) ?_
        refine LR.bipush (pc := 1488) (v := (-13)) dL_law_1488 (by decide) ?_
        refine LR.icmp_eq (pc := 1490) (tgt := 1495) dL_law_1490 (by decide) (fun c13 => ?_) (fun c13 => ?_)
        · replace h := ite_t c13 h
          refine LR.iinc (pc := 1495) (j := 11) (v := (x23 + 1)) (L2 := [(23, .int (x23 + 1)), (0, .ref q0), (1, .ref (ad 0)), (2, .ref q2), (3, .ref q3), (4, .int x4), (5, .int x5), (10, .int x10), (19, .int x19), (20, .int x20), (21, .ref q21), (22, .ref q22)]) dL_law_1495 rfl rfl (by decide) rfl ?_
          refine LR.goto (pc := 1498) (tgt := 1291) dL_law_1498 (by decide) ?_
          exact LR.pick [1, 2, 3, 4, 5, 6, 7, 8, 9, 10, 11, 0] rfl (LR.sub (as2 := [(q2, 44, a2), (q3, 45, a3), (q21, 4, b4), (q22, 24, a22)]) [0, 1, 2, 3] rfl rfl (hk1291 (b4, a22, (x23 + 1), r12.2, (g + 1)) r h))
        · replace h := ite_f c13 h
          refine LR.iconst (pc := 1493) (v := 0) dL_law_1493 (by decide) ?_
          exact LR.fin ⟨congrArg (fun z => [Value.int z]) (Option.some.inj h), dL_law_1494⟩
set_option maxHeartbeats 4000000 in
set_option maxRecDepth 100000 in
theorem G_law_1365 {l : Launch} {ad : Nat → Nat} {q0 : Nat} (sL : Nat) (a0 : Nat → Int32) (k85 : (Nat → Int32) × Int32 × HS × Nat → Option (Int32)) (k1291 : (Nat → Int32) × (Nat → Int32) × Int32 × HS × Nat → Option (Int32)) (k1306 : (Nat → Int32) × (Nat → Int32) × Int32 × HS → Option (Int32)) {q2 : Nat} {q3 : Nat} {q21 : Nat} {q22 : Nat} {q24 : Nat} (a2 : Nat → Int32) (a3 : Nat → Int32) (x4 : Int32) (x5 : Int32) (x10 : Int32) (x19 : Int32) (x20 : Int32) (a21 : Nat → Int32) (a22 : Nat → Int32) (x23 : Int32) (a24 : Nat → Int32) (x25 : Int32) (z0 : Int32) (z1 : Int32) (σ : HS) (g : Nat) (hk85 : ∀ (p : (Nat → Int32) × Int32 × HS × Nat) (r : Int32), k85 p = some r → LR l code 45 ret lw_tbl room_1 47 5558 ad [(q0, sL, a0)] (EL r) 85 [(0, .ref q0), (1, .ref (ad 0)), (2, .ref q2), (3, .ref q3), (4, .int x4), (5, .int (p.2.1))] [] (p.2.2.1) [(q2, 44, p.1), (q3, 45, a3)] (p.2.2.2)) (hk1291 : ∀ (p : (Nat → Int32) × (Nat → Int32) × Int32 × HS × Nat) (r : Int32), k1291 p = some r → LR l code 45 ret lw_tbl room_1 47 5558 ad [(q0, sL, a0)] (EL r) 1291 [(0, .ref q0), (1, .ref (ad 0)), (2, .ref q2), (3, .ref q3), (4, .int x4), (5, .int x5), (10, .int x10), (19, .int x19), (20, .int x20), (21, .ref q21), (22, .ref q22), (23, .int (p.2.2.1))] [] (p.2.2.2.1) [(q2, 44, a2), (q3, 45, a3), (q21, 4, p.1), (q22, 24, p.2.1)] (p.2.2.2.2)) (hk1306 : ∀ (p : (Nat → Int32) × (Nat → Int32) × Int32 × HS) (r : Int32), k1306 p = some r → LR l code 45 ret lw_tbl room_1 47 5558 ad [(q0, sL, a0)] (EL r) 1306 [(0, .ref q0), (1, .ref (ad 0)), (2, .ref q2), (3, .ref q3), (4, .int x4), (5, .int x5), (10, .int x10), (19, .int x19), (20, .int x20), (21, .ref q21), (22, .ref q22), (23, .int x23), (24, .ref q24), (25, .int (p.2.2.1))] [] (p.2.2.2) [(q2, 44, a2), (q3, 45, a3), (q21, 4, a21), (q22, 24, p.1), (q24, 6, p.2.1)] g) (r : Int32) (h : g_law_1365 sL a0 k85 k1291 k1306 a2 a3 x4 x5 x10 x19 x20 a21 a22 x23 a24 x25 z0 z1 σ g = some r) : LR l code 45 ret lw_tbl room_1 47 5558 ad [(q0, sL, a0)] (EL r) 1365 [(0, .ref q0), (1, .ref (ad 0)), (2, .ref q2), (3, .ref q3), (4, .int x4), (5, .int x5), (10, .int x10), (19, .int x19), (20, .int x20), (21, .ref q21), (22, .ref q22), (23, .int x23), (24, .ref q24), (25, .int x25)] [.int z0, .int z1, .ref q24] σ [(q2, 44, a2), (q3, 45, a3), (q21, 4, a21), (q22, 24, a22), (q24, 6, a24)] g := by
  unfold g_law_1365 at h
  obtain ⟨c1, h⟩ := gn_some h
  obtain ⟨b2, e2, h⟩ := bd_some h
  replace e2 := Option.some.inj e2
  refine LR.iastore (pc := 1365) (j := 4) (as2 := [(q2, 44, a2), (q3, 45, a3), (q21, 4, a21), (q22, 24, a22), (q24, 6, b2)]) dL_law_1365 rfl c1 (by subst e2; rfl) ?_
  refine LR.aload (pc := 1366) (j := 10) dL_law_1366 rfl ?_
  refine LR.bipush (pc := 1368) (v := 6) dL_law_1368 (by decide) ?_
  refine LR.iload (pc := 1370) (j := 11) dL_law_1370 rfl ?_
  refine LR.imul (pc := 1372) dL_law_1372 ?_
  refine LR.iload (pc := 1373) (j := 13) dL_law_1373 rfl ?_
  refine LR.iadd (pc := 1375) dL_law_1375 ?_
  refine LR.aload (pc := 1376) (j := 12) dL_law_1376 rfl ?_
  refine LR.iload (pc := 1378) (j := 13) dL_law_1378 rfl ?_
  obtain ⟨c3, h⟩ := gn_some h
  refine LR.iaload (pc := 1380) (j := 4) dL_law_1380 rfl c3 ?_
  obtain ⟨c4, h⟩ := gn_some h
  obtain ⟨b5, e5, h⟩ := bd_some h
  replace e5 := Option.some.inj e5
  refine LR.iastore (pc := 1381) (j := 3) (as2 := [(q2, 44, a2), (q3, 45, a3), (q21, 4, a21), (q22, 24, b5), (q24, 6, b2)]) dL_law_1381 rfl c4 (by subst e5; rfl) ?_
  refine LR.aload_n (pc := 1382) (j := 1) dL_law_1382 rfl rfl ?_
  refine LR.iconst (pc := 1383) (v := 1) dL_law_1383 (by decide) ?_
  refine LR.iload (pc := 1384) (j := 13) dL_law_1384 rfl ?_
  refine LR.aload (pc := 1386) (j := 12) dL_law_1386 rfl ?_
  refine LR.iload (pc := 1388) (j := 13) dL_law_1388 rfl ?_
  obtain ⟨c6, h⟩ := gn_some h
  refine LR.iaload (pc := 1390) (j := 4) dL_law_1390 rfl c6 ?_
  obtain ⟨r7, h7, h⟩ := bd_some h
  refine LR.callV (pc := 1391) (As := [.int 1, .int x25, .int (b2 (x25 : Int32).toNatClampNeg)]) (st := []) (ci := 8) dL_law_1391 ⟨cd_X8_put, im_X8_put, se_X8_put, ini_X8⟩ ml_L_19 (A8_put 1 x25 (b2 (x25 : Int32).toNatClampNeg) σ _ h7) rfl rfl ⟨rfl, pd_X8_put⟩ ⟨Nat.le_of_ble_eq_true rfl, Nat.le_of_ble_eq_true rfl⟩ ⟨rfl, rfl⟩ rfl rfl rfl (Nat.le_of_ble_eq_true rfl) ?_
  refine LR.iconst (pc := 1394) (v := 1) dL_law_1394 (by decide) ?_
  refine LR.icmp_eq (pc := 1395) (tgt := 1400) dL_law_1395 (by decide) (fun c8 => ?_) (fun c8 => ?_)
  · replace h := ite_t c8 h
    refine LR.iinc (pc := 1400) (j := 13) (v := (x25 + 1)) (L2 := [(25, .int (x25 + 1)), (0, .ref q0), (1, .ref (ad 0)), (2, .ref q2), (3, .ref q3), (4, .int x4), (5, .int x5), (10, .int x10), (19, .int x19), (20, .int x20), (21, .ref q21), (22, .ref q22), (23, .int x23), (24, .ref q24)]) dL_law_1400 rfl rfl (by decide) rfl ?_
    refine LR.goto (pc := 1403) (tgt := 1306) dL_law_1403 (by decide) ?_
    exact LR.pick [1, 2, 3, 4, 5, 6, 7, 8, 9, 10, 11, 12, 13, 0] rfl (hk1306 (b5, b2, (x25 + 1), r7.2) r h)
  · replace h := ite_f c8 h
    refine LR.iconst (pc := 1398) (v := 0) dL_law_1398 (by decide) ?_
    exact LR.fin ⟨congrArg (fun z => [Value.int z]) (Option.some.inj h), dL_law_1399⟩
set_option maxHeartbeats 4000000 in
set_option maxRecDepth 100000 in
theorem G_law_1306_b {l : Launch} {ad : Nat → Nat} {q0 : Nat} (sL : Nat) (a0 : Nat → Int32) (k85 : (Nat → Int32) × Int32 × HS × Nat → Option (Int32)) (k1291 : (Nat → Int32) × (Nat → Int32) × Int32 × HS × Nat → Option (Int32)) (k1306 : (Nat → Int32) × (Nat → Int32) × Int32 × HS → Option (Int32)) {q2 : Nat} {q3 : Nat} {q21 : Nat} {q22 : Nat} {q24 : Nat} (a2 : Nat → Int32) (a3 : Nat → Int32) (x4 : Int32) (x5 : Int32) (x10 : Int32) (x19 : Int32) (x20 : Int32) (a21 : Nat → Int32) (a22 : Nat → Int32) (x23 : Int32) (a24 : Nat → Int32) (x25 : Int32) (σ : HS) (g : Nat) (hk85 : ∀ (p : (Nat → Int32) × Int32 × HS × Nat) (r : Int32), k85 p = some r → LR l code 45 ret lw_tbl room_1 47 5558 ad [(q0, sL, a0)] (EL r) 85 [(0, .ref q0), (1, .ref (ad 0)), (2, .ref q2), (3, .ref q3), (4, .int x4), (5, .int (p.2.1))] [] (p.2.2.1) [(q2, 44, p.1), (q3, 45, a3)] (p.2.2.2)) (hk1291 : ∀ (p : (Nat → Int32) × (Nat → Int32) × Int32 × HS × Nat) (r : Int32), k1291 p = some r → LR l code 45 ret lw_tbl room_1 47 5558 ad [(q0, sL, a0)] (EL r) 1291 [(0, .ref q0), (1, .ref (ad 0)), (2, .ref q2), (3, .ref q3), (4, .int x4), (5, .int x5), (10, .int x10), (19, .int x19), (20, .int x20), (21, .ref q21), (22, .ref q22), (23, .int (p.2.2.1))] [] (p.2.2.2.1) [(q2, 44, a2), (q3, 45, a3), (q21, 4, p.1), (q22, 24, p.2.1)] (p.2.2.2.2)) (hk1306 : ∀ (p : (Nat → Int32) × (Nat → Int32) × Int32 × HS) (r : Int32), k1306 p = some r → LR l code 45 ret lw_tbl room_1 47 5558 ad [(q0, sL, a0)] (EL r) 1306 [(0, .ref q0), (1, .ref (ad 0)), (2, .ref q2), (3, .ref q3), (4, .int x4), (5, .int x5), (10, .int x10), (19, .int x19), (20, .int x20), (21, .ref q21), (22, .ref q22), (23, .int x23), (24, .ref q24), (25, .int (p.2.2.1))] [] (p.2.2.2) [(q2, 44, a2), (q3, 45, a3), (q21, 4, a21), (q22, 24, p.1), (q24, 6, p.2.1)] g) (r : Int32) (h : g_law_1306_b sL a0 k85 k1291 k1306 a2 a3 x4 x5 x10 x19 x20 a21 a22 x23 a24 x25 σ g = some r) : LR l code 45 ret lw_tbl room_1 47 5558 ad [(q0, sL, a0)] (EL r) 1306 [(0, .ref q0), (1, .ref (ad 0)), (2, .ref q2), (3, .ref q3), (4, .int x4), (5, .int x5), (10, .int x10), (19, .int x19), (20, .int x20), (21, .ref q21), (22, .ref q22), (23, .int x23), (24, .ref q24), (25, .int x25)] [] σ [(q2, 44, a2), (q3, 45, a3), (q21, 4, a21), (q22, 24, a22), (q24, 6, a24)] g := by
  unfold g_law_1306_b at h
  refine LR.iload (pc := 1306) (j := 13) dL_law_1306 rfl ?_
  refine LR.iload (pc := 1308) (j := 6) dL_law_1308 rfl ?_
  refine LR.icmp_ge (pc := 1310) (tgt := 1406) dL_law_1310 (by decide) (fun c1 => ?_) (fun c1 => ?_)
  · replace h := ite_t c1 h
    refine LR.aload (pc := 1406) (j := 9) dL_law_1406 rfl ?_
    refine LR.iload (pc := 1408) (j := 11) dL_law_1408 rfl ?_
    refine LR.aload_n (pc := 1410) (j := 2) dL_law_1410 rfl rfl ?_
    refine LR.aload_n (pc := 1411) (j := 3) dL_law_1411 rfl rfl ?_
    refine LR.aload (pc := 1412) (j := 12) dL_law_1412 rfl ?_
    refine LR.iload (pc := 1414) (j := 6) dL_law_1414 rfl ?_
    refine LR.iload (pc := 1416) (j := 11) dL_law_1416 rfl ?_
    refine LR.iload (pc := 1418) (j := 7) dL_law_1418 rfl ?_
    refine LR.icmp_ge (pc := 1420) (tgt := 1427) dL_law_1420 (by decide) (fun c2 => ?_) (fun c2 => ?_)
    · replace h := ite_t c2 h
      refine LR.iload (pc := 1427) (j := 8) dL_law_1427 rfl ?_
      exact LR.pick [0, 1, 2, 3, 4, 5, 6, 7, 8, 9, 10, 11] rfl (G_law_1429 sL a0 k85 k1291 a2 a3 x4 x5 x10 x19 x20 a21 a22 x23 x20 x10 a24 x23 σ g hk85 hk1291 r h)
    · replace h := ite_f c2 h
      refine LR.iconst (pc := 1423) (v := 0) dL_law_1423 (by decide) ?_
      refine LR.goto (pc := 1424) (tgt := 1429) dL_law_1424 (by decide) ?_
      exact LR.pick [0, 1, 2, 3, 4, 5, 6, 7, 8, 9, 10, 11] rfl (G_law_1429 sL a0 k85 k1291 a2 a3 x4 x5 x10 x19 x20 a21 a22 x23 0 x10 a24 x23 σ g hk85 hk1291 r h)
  · replace h := ite_f c1 h
    refine LR.aload_n (pc := 1313) (j := 0) dL_law_1313 rfl rfl ?_
    refine LR.bipush (pc := 1314) (v := 16) dL_law_1314 (by decide) ?_
    refine LR.iconst (pc := 1316) (v := 4) dL_law_1316 (by decide) ?_
    refine LR.iload (pc := 1317) (j := 5) dL_law_1317 rfl ?_
    refine LR.imul (pc := 1319) dL_law_1319 ?_
    refine LR.iadd (pc := 1320) dL_law_1320 ?_
    refine LR.iload (pc := 1321) (j := 11) dL_law_1321 rfl ?_
    refine LR.iadd (pc := 1323) dL_law_1323 ?_
    obtain ⟨r3, h3, h⟩ := bd_some h
    refine LR.callS0 (pc := 1324) (As := [.ref q0, .int ((16 + (4 * x5)) + x23)]) (st := []) (as2 := []) (asR := [(q2, 44, a2), (q3, 45, a3), (q21, 4, a21), (q22, 24, a22), (q24, 6, a24)]) (ro2 := [(q0, sL, a0)]) (mg := 0) (FIN := (FI σ r3)) [] [0, 1, 2, 3, 4] dL_law_1324 ⟨cd_L_cell, sm_L_cell, ini_L⟩ ml_L_9 (G_cell sL a0 ((16 + (4 * x5)) + x23) r3 h3) ⟨rfl, pd_L_cell⟩ ⟨Nat.le_of_ble_eq_true rfl, Nat.le_of_ble_eq_true rfl⟩ ⟨rfl, rfl⟩ rfl rfl rfl rfl rfl (by decide) (Or.inl ⟨[0], rfl⟩) rfl (Nat.le_of_ble_eq_true rfl) (fun v9 σ9 as9 hF9 => ?_)
    obtain ⟨rfl, e9, rfl⟩ := hF9; replace e9 := e9.symm; subst e9
    show LR l code 45 ret lw_tbl room_1 47 5558 ad [(q0, sL, a0)] (EL r) 1327 [(0, .ref q0), (1, .ref (ad 0)), (2, .ref q2), (3, .ref q3), (4, .int x4), (5, .int x5), (10, .int x10), (19, .int x19), (20, .int x20), (21, .ref q21), (22, .ref q22), (23, .int x23), (24, .ref q24), (25, .int x25)] [.int r3] σ [(q2, 44, a2), (q3, 45, a3), (q21, 4, a21), (q22, 24, a22), (q24, 6, a24)] g
    refine LR.iconst (pc := 1327) (v := 3) dL_law_1327 (by decide) ?_
    refine LR.iload (pc := 1328) (j := 13) dL_law_1328 rfl ?_
    refine LR.imul (pc := 1330) dL_law_1330 ?_
    refine LR.ishr (pc := 1331) dL_law_1331 ?_
    refine LR.iconst (pc := 1332) (v := 4) dL_law_1332 (by decide) ?_
    obtain ⟨r4, h4, h⟩ := bd_some h
    refine LR.callS0 (pc := 1333) (As := [.int (r3 >>> ((3 * x25) &&& 31)), .int 4]) (st := []) (as2 := []) (asR := [(q2, 44, a2), (q3, 45, a3), (q21, 4, a21), (q22, 24, a22), (q24, 6, a24)]) (ro2 := []) (mg := 0) (FIN := (FI σ r4)) [] [0, 1, 2, 3, 4] dL_law_1333 ⟨cd_L_low, sm_L_low, ini_L⟩ ml_L_15 (G_low (r3 >>> ((3 * x25) &&& 31)) 4 r4 h4) ⟨rfl, pd_L_low⟩ ⟨Nat.le_of_ble_eq_true rfl, Nat.le_of_ble_eq_true rfl⟩ ⟨rfl, rfl⟩ rfl rfl rfl rfl rfl (by decide) (Or.inl ⟨[], rfl⟩) rfl (Nat.le_of_ble_eq_true rfl) (fun v9 σ9 as9 hF9 => ?_)
    obtain ⟨rfl, e9, rfl⟩ := hF9; replace e9 := e9.symm; subst e9
    show LR l code 45 ret lw_tbl room_1 47 5558 ad [(q0, sL, a0)] (EL r) 1336 [(0, .ref q0), (1, .ref (ad 0)), (2, .ref q2), (3, .ref q3), (4, .int x4), (5, .int x5), (10, .int x10), (19, .int x19), (20, .int x20), (21, .ref q21), (22, .ref q22), (23, .int x23), (24, .ref q24), (25, .int x25)] [.int r4] σ [(q2, 44, a2), (q3, 45, a3), (q21, 4, a21), (q22, 24, a22), (q24, 6, a24)] g
    refine LR.istore (pc := 1336) (L2 := [(26, .int r4), (0, .ref q0), (1, .ref (ad 0)), (2, .ref q2), (3, .ref q3), (4, .int x4), (5, .int x5), (10, .int x10), (19, .int x19), (20, .int x20), (21, .ref q21), (22, .ref q22), (23, .int x23), (24, .ref q24), (25, .int x25)]) dL_law_1336 (by decide) rfl ?_
    refine LR.aload (pc := 1338) (j := 13) dL_law_1338 rfl ?_
    refine LR.iload (pc := 1340) (j := 14) dL_law_1340 rfl ?_
    refine LR.iload (pc := 1342) (j := 0) dL_law_1342 rfl ?_
    refine LR.aload_n (pc := 1344) (j := 3) dL_law_1344 rfl rfl ?_
    refine LR.bipush (pc := 1345) (v := 9) dL_law_1345 (by decide) ?_
    refine LR.aload_n (pc := 1347) (j := 3) dL_law_1347 rfl rfl ?_
    refine LR.iload (pc := 1348) (j := 14) dL_law_1348 rfl ?_
    obtain ⟨r5, h5, h⟩ := bd_some h
    refine LR.callS0 (pc := 1350) (As := [.ref q2, .int x25]) (st := [.int 9, .ref q2, .int r4, .int x25, .ref q24]) (as2 := []) (asR := [(q2, 44, a2), (q3, 45, a3), (q21, 4, a21), (q22, 24, a22), (q24, 6, a24)]) (ro2 := [(q2, 44, a2)]) (mg := 0) (FIN := (FI σ r5)) [] [0, 1, 2, 3, 4] dL_law_1350 ⟨cd_L_who, sm_L_who, ini_L⟩ ml_L_33 (G_who a2 x25 r5 h5) ⟨rfl, pd_L_who⟩ ⟨Nat.le_of_ble_eq_true rfl, Nat.le_of_ble_eq_true rfl⟩ ⟨rfl, rfl⟩ rfl rfl rfl rfl rfl (by decide) (Or.inr ⟨[0], rfl, by decide⟩) rfl (Nat.le_of_ble_eq_true rfl) (fun v9 σ9 as9 hF9 => ?_)
    obtain ⟨rfl, e9, rfl⟩ := hF9; replace e9 := e9.symm; subst e9
    show LR l code 45 ret lw_tbl room_1 47 5558 ad [(q0, sL, a0)] (EL r) 1353 [(26, .int r4), (0, .ref q0), (1, .ref (ad 0)), (2, .ref q2), (3, .ref q3), (4, .int x4), (5, .int x5), (10, .int x10), (19, .int x19), (20, .int x20), (21, .ref q21), (22, .ref q22), (23, .int x23), (24, .ref q24), (25, .int x25)] [.int r5, .int 9, .ref q2, .int r4, .int x25, .ref q24] σ [(q2, 44, a2), (q3, 45, a3), (q21, 4, a21), (q22, 24, a22), (q24, 6, a24)] g
    refine LR.iadd (pc := 1353) dL_law_1353 ?_
    obtain ⟨c6, h⟩ := gn_some h
    refine LR.iaload (pc := 1354) (j := 0) dL_law_1354 rfl c6 ?_
    refine LR.icmp_lt (pc := 1355) (tgt := 1363) dL_law_1355 (by decide) (fun c7 => ?_) (fun c7 => ?_)
    · replace h := ite_t c7 h
      refine LR.iload (pc := 1363) (j := 0) dL_law_1363 rfl ?_
      exact LR.pick [1, 2, 3, 4, 5, 6, 7, 8, 9, 10, 11, 12, 13, 14] rfl (G_law_1365 sL a0 k85 k1291 k1306 a2 a3 x4 x5 x10 x19 x20 a21 a22 x23 a24 x25 r4 x25 σ g hk85 hk1291 hk1306 r h)
    · replace h := ite_f c7 h
      refine LR.bipush (pc := 1358) (v := (-9)) dL_law_1358 (by decide) ?_
      refine LR.goto (pc := 1360) (tgt := 1365) dL_law_1360 (by decide) ?_
      exact LR.pick [1, 2, 3, 4, 5, 6, 7, 8, 9, 10, 11, 12, 13, 14] rfl (G_law_1365 sL a0 k85 k1291 k1306 a2 a3 x4 x5 x10 x19 x20 a21 a22 x23 a24 x25 (-9) x25 σ g hk85 hk1291 hk1306 r h)
theorem G_law_1306 {l : Launch} {ad : Nat → Nat} {q0 : Nat} (sL : Nat) (a0 : Nat → Int32) (k85 : (Nat → Int32) × Int32 × HS × Nat → Option (Int32)) (k1291 : (Nat → Int32) × (Nat → Int32) × Int32 × HS × Nat → Option (Int32)) {q2 : Nat} {q3 : Nat} {q21 : Nat} {q22 : Nat} {q24 : Nat} (a2 : Nat → Int32) (a3 : Nat → Int32) (x4 : Int32) (x5 : Int32) (x10 : Int32) (x19 : Int32) (x20 : Int32) (a21 : Nat → Int32) (x23 : Int32) (g : Nat) (hk85 : ∀ (p : (Nat → Int32) × Int32 × HS × Nat) (r : Int32), k85 p = some r → LR l code 45 ret lw_tbl room_1 47 5558 ad [(q0, sL, a0)] (EL r) 85 [(0, .ref q0), (1, .ref (ad 0)), (2, .ref q2), (3, .ref q3), (4, .int x4), (5, .int (p.2.1))] [] (p.2.2.1) [(q2, 44, p.1), (q3, 45, a3)] (p.2.2.2)) (hk1291 : ∀ (p : (Nat → Int32) × (Nat → Int32) × Int32 × HS × Nat) (r : Int32), k1291 p = some r → LR l code 45 ret lw_tbl room_1 47 5558 ad [(q0, sL, a0)] (EL r) 1291 [(0, .ref q0), (1, .ref (ad 0)), (2, .ref q2), (3, .ref q3), (4, .int x4), (5, .int x5), (10, .int x10), (19, .int x19), (20, .int x20), (21, .ref q21), (22, .ref q22), (23, .int (p.2.2.1))] [] (p.2.2.2.1) [(q2, 44, a2), (q3, 45, a3), (q21, 4, p.1), (q22, 24, p.2.1)] (p.2.2.2.2)) (p : (Nat → Int32) × (Nat → Int32) × Int32 × HS) (r : Int32) (h : g_law_1306 sL a0 k85 k1291 a2 a3 x4 x5 x10 x19 x20 a21 x23 g p = some r) : LR l code 45 ret lw_tbl room_1 47 5558 ad [(q0, sL, a0)] (EL r) 1306 [(0, .ref q0), (1, .ref (ad 0)), (2, .ref q2), (3, .ref q3), (4, .int x4), (5, .int x5), (10, .int x10), (19, .int x19), (20, .int x20), (21, .ref q21), (22, .ref q22), (23, .int x23), (24, .ref q24), (25, .int (p.2.2.1))] [] (p.2.2.2) [(q2, 44, a2), (q3, 45, a3), (q21, 4, a21), (q22, 24, p.1), (q24, 6, p.2.1)] g := by
  unfold g_law_1306 at h
  exact wloop_run (body := fun k1306 p => g_law_1306_b sL a0 k85 k1291 k1306 a2 a3 x4 x5 x10 x19 x20 a21 p.1 x23 p.2.1 p.2.2.1 p.2.2.2 g) (Q := (fun p r => LR l code 45 ret lw_tbl room_1 47 5558 ad [(q0, sL, a0)] (EL r) 1306 [(0, .ref q0), (1, .ref (ad 0)), (2, .ref q2), (3, .ref q3), (4, .int x4), (5, .int x5), (10, .int x10), (19, .int x19), (20, .int x20), (21, .ref q21), (22, .ref q22), (23, .int x23), (24, .ref q24), (25, .int (p.2.2.1))] [] (p.2.2.2) [(q2, 44, a2), (q3, 45, a3), (q21, 4, a21), (q22, 24, p.1), (q24, 6, p.2.1)] g)) (fun k1306 hk1306 p r h => G_law_1306_b sL a0 k85 k1291 k1306 a2 a3 x4 x5 x10 x19 x20 a21 p.1 x23 p.2.1 p.2.2.1 p.2.2.2 g hk85 hk1291 hk1306 r h) fuelN p r h
set_option maxHeartbeats 4000000 in
set_option maxRecDepth 100000 in
theorem G_law_1291_b {l : Launch} {ad : Nat → Nat} {q0 : Nat} (sL : Nat) (a0 : Nat → Int32) (k85 : (Nat → Int32) × Int32 × HS × Nat → Option (Int32)) (k1291 : (Nat → Int32) × (Nat → Int32) × Int32 × HS × Nat → Option (Int32)) {q2 : Nat} {q3 : Nat} {q21 : Nat} {q22 : Nat} (a2 : Nat → Int32) (a3 : Nat → Int32) (x4 : Int32) (x5 : Int32) (x10 : Int32) (x19 : Int32) (x20 : Int32) (a21 : Nat → Int32) (a22 : Nat → Int32) (x23 : Int32) (σ : HS) (g : Nat) (hk85 : ∀ (p : (Nat → Int32) × Int32 × HS × Nat) (r : Int32), k85 p = some r → LR l code 45 ret lw_tbl room_1 47 5558 ad [(q0, sL, a0)] (EL r) 85 [(0, .ref q0), (1, .ref (ad 0)), (2, .ref q2), (3, .ref q3), (4, .int x4), (5, .int (p.2.1))] [] (p.2.2.1) [(q2, 44, p.1), (q3, 45, a3)] (p.2.2.2)) (hk1291 : ∀ (p : (Nat → Int32) × (Nat → Int32) × Int32 × HS × Nat) (r : Int32), k1291 p = some r → LR l code 45 ret lw_tbl room_1 47 5558 ad [(q0, sL, a0)] (EL r) 1291 [(0, .ref q0), (1, .ref (ad 0)), (2, .ref q2), (3, .ref q3), (4, .int x4), (5, .int x5), (10, .int x10), (19, .int x19), (20, .int x20), (21, .ref q21), (22, .ref q22), (23, .int (p.2.2.1))] [] (p.2.2.2.1) [(q2, 44, a2), (q3, 45, a3), (q21, 4, p.1), (q22, 24, p.2.1)] (p.2.2.2.2)) (r : Int32) (h : g_law_1291_b sL a0 k85 k1291 a2 a3 x4 x5 x10 x19 x20 a21 a22 x23 σ g = some r) : LR l code 45 ret lw_tbl room_1 47 5558 ad [(q0, sL, a0)] (EL r) 1291 [(0, .ref q0), (1, .ref (ad 0)), (2, .ref q2), (3, .ref q3), (4, .int x4), (5, .int x5), (10, .int x10), (19, .int x19), (20, .int x20), (21, .ref q21), (22, .ref q22), (23, .int x23)] [] σ [(q2, 44, a2), (q3, 45, a3), (q21, 4, a21), (q22, 24, a22)] g := by
  unfold g_law_1291_b at h
  refine LR.iload (pc := 1291) (j := 11) dL_law_1291 rfl ?_
  refine LR.iconst (pc := 1293) (v := 4) dL_law_1293 (by decide) ?_
  refine LR.icmp_ge (pc := 1294) (tgt := 1501) dL_law_1294 (by decide) (fun c1 => ?_) (fun c1 => ?_)
  · replace h := ite_t c1 h
    refine LR.iconst (pc := 1501) (v := 0) dL_law_1501 (by decide) ?_
    refine LR.istore (pc := 1502) (L2 := [(23, .int 0), (0, .ref q0), (1, .ref (ad 0)), (2, .ref q2), (3, .ref q3), (4, .int x4), (5, .int x5), (10, .int x10), (19, .int x19), (20, .int x20), (21, .ref q21), (22, .ref q22)]) dL_law_1502 (by decide) rfl ?_
    refine LR.bipush (pc := 1504) (v := (-9)) dL_law_1504 (by decide) ?_
    refine LR.istore (pc := 1506) (L2 := [(24, .int (-9)), (23, .int 0), (0, .ref q0), (1, .ref (ad 0)), (2, .ref q2), (3, .ref q3), (4, .int x4), (5, .int x5), (10, .int x10), (19, .int x19), (20, .int x20), (21, .ref q21), (22, .ref q22)]) dL_law_1506 (by decide) rfl ?_
    refine LR.bipush (pc := 1508) (v := 49) dL_law_1508 (by decide) ?_
    refine LR.istore (pc := 1510) (L2 := [(25, .int 49), (24, .int (-9)), (23, .int 0), (0, .ref q0), (1, .ref (ad 0)), (2, .ref q2), (3, .ref q3), (4, .int x4), (5, .int x5), (10, .int x10), (19, .int x19), (20, .int x20), (21, .ref q21), (22, .ref q22)]) dL_law_1510 (by decide) rfl ?_
    exact LR.pick [3, 4, 5, 6, 7, 8, 9, 12, 13, 2, 1, 0] rfl (G_law_1512 sL a0 k85 a2 a3 x4 x5 x10 a21 a22 σ hk85 (0, (-9), 49, g) r h)
  · replace h := ite_f c1 h
    refine LR.bipush (pc := 1297) (v := 6) dL_law_1297 (by decide) ?_
    obtain ⟨c2, h⟩ := gn_some h
    refine LR.newa (pc := 1299) (N := 6) dL_law_1299 (by decide) (by decide) (by decide) (groom c2) (fun qn2 => ?_)
    show LR l code 45 ret lw_tbl room_1 47 5558 ad [(q0, sL, a0)] (EL r) 1301 [(0, .ref q0), (1, .ref (ad 0)), (2, .ref q2), (3, .ref q3), (4, .int x4), (5, .int x5), (10, .int x10), (19, .int x19), (20, .int x20), (21, .ref q21), (22, .ref q22), (23, .int x23)] [.ref qn2] σ [(q2, 44, a2), (q3, 45, a3), (q21, 4, a21), (q22, 24, a22), (qn2, 6, (fun _ => 0))] (g + 1)
    refine LR.astore (pc := 1301) (L2 := [(24, .ref qn2), (0, .ref q0), (1, .ref (ad 0)), (2, .ref q2), (3, .ref q3), (4, .int x4), (5, .int x5), (10, .int x10), (19, .int x19), (20, .int x20), (21, .ref q21), (22, .ref q22), (23, .int x23)]) dL_law_1301 (by decide) rfl ?_
    refine LR.iconst (pc := 1303) (v := 0) dL_law_1303 (by decide) ?_
    refine LR.istore (pc := 1304) (L2 := [(25, .int 0), (24, .ref qn2), (0, .ref q0), (1, .ref (ad 0)), (2, .ref q2), (3, .ref q3), (4, .int x4), (5, .int x5), (10, .int x10), (19, .int x19), (20, .int x20), (21, .ref q21), (22, .ref q22), (23, .int x23)]) dL_law_1304 (by decide) rfl ?_
    exact LR.pick [2, 3, 4, 5, 6, 7, 8, 9, 10, 11, 12, 13, 1, 0] rfl (G_law_1306 sL a0 k85 k1291 a2 a3 x4 x5 x10 x19 x20 a21 x23 (g + 1) hk85 hk1291 (a22, (fun _ => 0), 0, σ) r h)
theorem G_law_1291 {l : Launch} {ad : Nat → Nat} {q0 : Nat} (sL : Nat) (a0 : Nat → Int32) (k85 : (Nat → Int32) × Int32 × HS × Nat → Option (Int32)) {q2 : Nat} {q3 : Nat} {q21 : Nat} {q22 : Nat} (a2 : Nat → Int32) (a3 : Nat → Int32) (x4 : Int32) (x5 : Int32) (x10 : Int32) (x19 : Int32) (x20 : Int32) (hk85 : ∀ (p : (Nat → Int32) × Int32 × HS × Nat) (r : Int32), k85 p = some r → LR l code 45 ret lw_tbl room_1 47 5558 ad [(q0, sL, a0)] (EL r) 85 [(0, .ref q0), (1, .ref (ad 0)), (2, .ref q2), (3, .ref q3), (4, .int x4), (5, .int (p.2.1))] [] (p.2.2.1) [(q2, 44, p.1), (q3, 45, a3)] (p.2.2.2)) (p : (Nat → Int32) × (Nat → Int32) × Int32 × HS × Nat) (r : Int32) (h : g_law_1291 sL a0 k85 a2 a3 x4 x5 x10 x19 x20 p = some r) : LR l code 45 ret lw_tbl room_1 47 5558 ad [(q0, sL, a0)] (EL r) 1291 [(0, .ref q0), (1, .ref (ad 0)), (2, .ref q2), (3, .ref q3), (4, .int x4), (5, .int x5), (10, .int x10), (19, .int x19), (20, .int x20), (21, .ref q21), (22, .ref q22), (23, .int (p.2.2.1))] [] (p.2.2.2.1) [(q2, 44, a2), (q3, 45, a3), (q21, 4, p.1), (q22, 24, p.2.1)] (p.2.2.2.2) := by
  unfold g_law_1291 at h
  exact wloop_run (body := fun k1291 p => g_law_1291_b sL a0 k85 k1291 a2 a3 x4 x5 x10 x19 x20 p.1 p.2.1 p.2.2.1 p.2.2.2.1 p.2.2.2.2) (Q := (fun p r => LR l code 45 ret lw_tbl room_1 47 5558 ad [(q0, sL, a0)] (EL r) 1291 [(0, .ref q0), (1, .ref (ad 0)), (2, .ref q2), (3, .ref q3), (4, .int x4), (5, .int x5), (10, .int x10), (19, .int x19), (20, .int x20), (21, .ref q21), (22, .ref q22), (23, .int (p.2.2.1))] [] (p.2.2.2.1) [(q2, 44, a2), (q3, 45, a3), (q21, 4, p.1), (q22, 24, p.2.1)] (p.2.2.2.2))) (fun k1291 hk1291 p r h => G_law_1291_b sL a0 k85 k1291 a2 a3 x4 x5 x10 x19 x20 p.1 p.2.1 p.2.2.1 p.2.2.2.1 p.2.2.2.2 hk85 hk1291 r h) fuelN p r h
set_option maxHeartbeats 4000000 in
set_option maxRecDepth 100000 in
theorem G_law_1187 {l : Launch} {ad : Nat → Nat} {q0 : Nat} (sL : Nat) (a0 : Nat → Int32) (k85 : (Nat → Int32) × Int32 × HS × Nat → Option (Int32)) (k1143 : Int32 × Int32 × Int32 × HS → Option (Int32)) {q2 : Nat} {q3 : Nat} {q13 : Nat} (a2 : Nat → Int32) (a3 : Nat → Int32) (x4 : Int32) (x5 : Int32) (x9 : Int32) (x10 : Int32) (a13 : Nat → Int32) (x17 : Int32) (x19 : Int32) (z0 : Int32) (σ : HS) (g : Nat) (hk85 : ∀ (p : (Nat → Int32) × Int32 × HS × Nat) (r : Int32), k85 p = some r → LR l code 45 ret lw_tbl room_1 47 5558 ad [(q0, sL, a0)] (EL r) 85 [(0, .ref q0), (1, .ref (ad 0)), (2, .ref q2), (3, .ref q3), (4, .int x4), (5, .int (p.2.1))] [] (p.2.2.1) [(q2, 44, p.1), (q3, 45, a3)] (p.2.2.2)) (hk1143 : ∀ (p : Int32 × Int32 × Int32 × HS) (r : Int32), k1143 p = some r → LR l code 45 ret lw_tbl room_1 47 5558 ad [(q0, sL, a0)] (EL r) 1143 [(0, .ref q0), (1, .ref (ad 0)), (2, .ref q2), (3, .ref q3), (4, .int x4), (5, .int x5), (9, .int x9), (10, .int x10), (13, .ref q13), (17, .int (p.1)), (18, .int (p.2.1)), (19, .int (p.2.2.1))] [] (p.2.2.2) [(q2, 44, a2), (q3, 45, a3), (q13, 20, a13)] g) (r : Int32) (h : g_law_1187 sL a0 k85 k1143 a2 a3 x4 x5 x9 x10 a13 x17 x19 z0 σ g = some r) : LR l code 45 ret lw_tbl room_1 47 5558 ad [(q0, sL, a0)] (EL r) 1187 [(0, .ref q0), (1, .ref (ad 0)), (2, .ref q2), (3, .ref q3), (4, .int x4), (5, .int x5), (9, .int x9), (10, .int x10), (13, .ref q13), (17, .int x17), (19, .int x19)] [.int z0] σ [(q2, 44, a2), (q3, 45, a3), (q13, 20, a13)] g := by
  unfold g_law_1187 at h
  refine LR.istore (pc := 1187) (L2 := [(18, .int z0), (0, .ref q0), (1, .ref (ad 0)), (2, .ref q2), (3, .ref q3), (4, .int x4), (5, .int x5), (9, .int x9), (10, .int x10), (13, .ref q13), (17, .int x17), (19, .int x19)]) dL_law_1187 (by decide) rfl ?_
  refine LR.iinc (pc := 1189) (j := 11) (v := (x19 + 1)) (L2 := [(19, .int (x19 + 1)), (18, .int z0), (0, .ref q0), (1, .ref (ad 0)), (2, .ref q2), (3, .ref q3), (4, .int x4), (5, .int x5), (9, .int x9), (10, .int x10), (13, .ref q13), (17, .int x17)]) dL_law_1189 rfl rfl (by decide) rfl ?_
  refine LR.goto (pc := 1192) (tgt := 1143) dL_law_1192 (by decide) ?_
  exact LR.pick [2, 3, 4, 5, 6, 7, 8, 9, 10, 11, 1, 0] rfl (hk1143 (x17, z0, (x19 + 1), σ) r h)
set_option maxHeartbeats 4000000 in
set_option maxRecDepth 100000 in
theorem G_law_1171 {l : Launch} {ad : Nat → Nat} {q0 : Nat} (sL : Nat) (a0 : Nat → Int32) (k85 : (Nat → Int32) × Int32 × HS × Nat → Option (Int32)) (k1143 : Int32 × Int32 × Int32 × HS → Option (Int32)) {q2 : Nat} {q3 : Nat} {q13 : Nat} (a2 : Nat → Int32) (a3 : Nat → Int32) (x4 : Int32) (x5 : Int32) (x9 : Int32) (x10 : Int32) (a13 : Nat → Int32) (x18 : Int32) (x19 : Int32) (x20 : Int32) (z0 : Int32) (σ : HS) (g : Nat) (hk85 : ∀ (p : (Nat → Int32) × Int32 × HS × Nat) (r : Int32), k85 p = some r → LR l code 45 ret lw_tbl room_1 47 5558 ad [(q0, sL, a0)] (EL r) 85 [(0, .ref q0), (1, .ref (ad 0)), (2, .ref q2), (3, .ref q3), (4, .int x4), (5, .int (p.2.1))] [] (p.2.2.1) [(q2, 44, p.1), (q3, 45, a3)] (p.2.2.2)) (hk1143 : ∀ (p : Int32 × Int32 × Int32 × HS) (r : Int32), k1143 p = some r → LR l code 45 ret lw_tbl room_1 47 5558 ad [(q0, sL, a0)] (EL r) 1143 [(0, .ref q0), (1, .ref (ad 0)), (2, .ref q2), (3, .ref q3), (4, .int x4), (5, .int x5), (9, .int x9), (10, .int x10), (13, .ref q13), (17, .int (p.1)), (18, .int (p.2.1)), (19, .int (p.2.2.1))] [] (p.2.2.2) [(q2, 44, a2), (q3, 45, a3), (q13, 20, a13)] g) (r : Int32) (h : g_law_1171 sL a0 k85 k1143 a2 a3 x4 x5 x9 x10 a13 x18 x19 x20 z0 σ g = some r) : LR l code 45 ret lw_tbl room_1 47 5558 ad [(q0, sL, a0)] (EL r) 1171 [(0, .ref q0), (1, .ref (ad 0)), (2, .ref q2), (3, .ref q3), (4, .int x4), (5, .int x5), (9, .int x9), (10, .int x10), (13, .ref q13), (18, .int x18), (19, .int x19), (20, .int x20)] [.int z0] σ [(q2, 44, a2), (q3, 45, a3), (q13, 20, a13)] g := by
  unfold g_law_1171 at h
  refine LR.istore (pc := 1171) (L2 := [(17, .int z0), (0, .ref q0), (1, .ref (ad 0)), (2, .ref q2), (3, .ref q3), (4, .int x4), (5, .int x5), (9, .int x9), (10, .int x10), (13, .ref q13), (18, .int x18), (19, .int x19), (20, .int x20)]) dL_law_1171 (by decide) rfl ?_
  refine LR.iload (pc := 1173) (j := 12) dL_law_1173 rfl ?_
  refine LR.iload (pc := 1175) (j := 10) dL_law_1175 rfl ?_
  refine LR.icmp_le (pc := 1177) (tgt := 1185) dL_law_1177 (by decide) (fun c1 => ?_) (fun c1 => ?_)
  · replace h := ite_t c1 h
    refine LR.iload (pc := 1185) (j := 10) dL_law_1185 rfl ?_
    exact LR.pick [1, 2, 3, 4, 5, 6, 7, 8, 9, 0, 11] rfl (G_law_1187 sL a0 k85 k1143 a2 a3 x4 x5 x9 x10 a13 z0 x19 x18 σ g hk85 hk1143 r h)
  · replace h := ite_f c1 h
    refine LR.iload (pc := 1180) (j := 12) dL_law_1180 rfl ?_
    refine LR.goto (pc := 1182) (tgt := 1187) dL_law_1182 (by decide) ?_
    exact LR.pick [1, 2, 3, 4, 5, 6, 7, 8, 9, 0, 11] rfl (G_law_1187 sL a0 k85 k1143 a2 a3 x4 x5 x9 x10 a13 z0 x19 x20 σ g hk85 hk1143 r h)
set_option maxHeartbeats 4000000 in
set_option maxRecDepth 100000 in
theorem G_law_1143_b {l : Launch} {ad : Nat → Nat} {q0 : Nat} (sL : Nat) (a0 : Nat → Int32) (k85 : (Nat → Int32) × Int32 × HS × Nat → Option (Int32)) (k1143 : Int32 × Int32 × Int32 × HS → Option (Int32)) {q2 : Nat} {q3 : Nat} {q13 : Nat} (a2 : Nat → Int32) (a3 : Nat → Int32) (x4 : Int32) (x5 : Int32) (x9 : Int32) (x10 : Int32) (a13 : Nat → Int32) (x17 : Int32) (x18 : Int32) (x19 : Int32) (σ : HS) (g : Nat) (hk85 : ∀ (p : (Nat → Int32) × Int32 × HS × Nat) (r : Int32), k85 p = some r → LR l code 45 ret lw_tbl room_1 47 5558 ad [(q0, sL, a0)] (EL r) 85 [(0, .ref q0), (1, .ref (ad 0)), (2, .ref q2), (3, .ref q3), (4, .int x4), (5, .int (p.2.1))] [] (p.2.2.1) [(q2, 44, p.1), (q3, 45, a3)] (p.2.2.2)) (hk1143 : ∀ (p : Int32 × Int32 × Int32 × HS) (r : Int32), k1143 p = some r → LR l code 45 ret lw_tbl room_1 47 5558 ad [(q0, sL, a0)] (EL r) 1143 [(0, .ref q0), (1, .ref (ad 0)), (2, .ref q2), (3, .ref q3), (4, .int x4), (5, .int x5), (9, .int x9), (10, .int x10), (13, .ref q13), (17, .int (p.1)), (18, .int (p.2.1)), (19, .int (p.2.2.1))] [] (p.2.2.2) [(q2, 44, a2), (q3, 45, a3), (q13, 20, a13)] g) (r : Int32) (h : g_law_1143_b sL a0 k85 k1143 a2 a3 x4 x5 x9 x10 a13 x17 x18 x19 σ g = some r) : LR l code 45 ret lw_tbl room_1 47 5558 ad [(q0, sL, a0)] (EL r) 1143 [(0, .ref q0), (1, .ref (ad 0)), (2, .ref q2), (3, .ref q3), (4, .int x4), (5, .int x5), (9, .int x9), (10, .int x10), (13, .ref q13), (17, .int x17), (18, .int x18), (19, .int x19)] [] σ [(q2, 44, a2), (q3, 45, a3), (q13, 20, a13)] g := by
  unfold g_law_1143_b at h
  refine LR.iload (pc := 1143) (j := 11) dL_law_1143 rfl ?_
  refine LR.iconst (pc := 1145) (v := 4) dL_law_1145 (by decide) ?_
  refine LR.icmp_ge (pc := 1146) (tgt := 1195) dL_law_1146 (by decide) (fun c1 => ?_) (fun c1 => ?_)
  · replace h := ite_t c1 h
    refine LR.aload_n (pc := 1195) (j := 1) dL_law_1195 rfl rfl ?_
    refine LR.iload (pc := 1196) (j := 6) dL_law_1196 rfl ?_
    obtain ⟨r2, h2, h⟩ := bd_some h
    refine LR.callV (pc := 1198) (As := [.int x9]) (st := []) (ci := 8) dL_law_1198 ⟨cd_X8_byLaw, im_X8_byLaw, se_X8_byLaw, ini_X8⟩ ml_L_107 (A8_byLaw x9 σ _ h2) rfl rfl ⟨rfl, pd_X8_byLaw⟩ ⟨Nat.le_of_ble_eq_true rfl, Nat.le_of_ble_eq_true rfl⟩ ⟨rfl, rfl⟩ rfl rfl rfl (Nat.le_of_ble_eq_true rfl) ?_
    refine LR.aload (pc := 1201) (j := 8) dL_law_1201 rfl ?_
    refine LR.iload (pc := 1203) (j := 4) dL_law_1203 rfl ?_
    obtain ⟨r3, h3, h⟩ := bd_some h
    refine LR.callS0 (pc := 1205) (As := [.ref q13, .int x4]) (st := [.int (r2.1)]) (as2 := []) (asR := [(q2, 44, a2), (q3, 45, a3), (q13, 20, a13)]) (ro2 := [(q13, 20, a13)]) (mg := 0) (FIN := (FI (r2.2) r3)) [] [0, 1, 2] dL_law_1205 ⟨cd_L_all, sm_L_all, ini_L⟩ ml_L_110 (G_all a13 x4 r3 h3) ⟨rfl, pd_L_all⟩ ⟨Nat.le_of_ble_eq_true rfl, Nat.le_of_ble_eq_true rfl⟩ ⟨rfl, rfl⟩ rfl rfl rfl rfl rfl (by decide) (Or.inr ⟨[2], rfl, by decide⟩) rfl (Nat.le_of_ble_eq_true rfl) (fun v9 σ9 as9 hF9 => ?_)
    obtain ⟨rfl, e9, rfl⟩ := hF9; replace e9 := e9.symm; subst e9
    show LR l code 45 ret lw_tbl room_1 47 5558 ad [(q0, sL, a0)] (EL r) 1208 [(0, .ref q0), (1, .ref (ad 0)), (2, .ref q2), (3, .ref q3), (4, .int x4), (5, .int x5), (9, .int x9), (10, .int x10), (13, .ref q13), (17, .int x17), (18, .int x18), (19, .int x19)] [.int r3, .int (r2.1)] (r2.2) [(q2, 44, a2), (q3, 45, a3), (q13, 20, a13)] g
    refine LR.icmp_ne (pc := 1208) (tgt := 1242) dL_law_1208 (by decide) (fun c4 => ?_) (fun c4 => ?_)
    · replace h := ite_f c4 h
      refine LR.iconst (pc := 1242) (v := 0) dL_law_1242 (by decide) ?_
      exact LR.fin ⟨congrArg (fun z => [Value.int z]) (Option.some.inj h), dL_law_1243⟩
    · replace h := ite_t c4 h
      refine LR.aload_n (pc := 1211) (j := 1) dL_law_1211 rfl rfl ?_
      refine LR.iconst (pc := 1212) (v := (-1)) dL_law_1212 (by decide) ?_
      obtain ⟨r5, h5, h⟩ := bd_some h
      refine LR.callV (pc := 1213) (As := [.int (-1)]) (st := []) (ci := 8) dL_law_1213 ⟨cd_X8_byLaw, im_X8_byLaw, se_X8_byLaw, ini_X8⟩ ml_L_107 (A8_byLaw (-1) (r2.2) _ h5) rfl rfl ⟨rfl, pd_X8_byLaw⟩ ⟨Nat.le_of_ble_eq_true rfl, Nat.le_of_ble_eq_true rfl⟩ ⟨rfl, rfl⟩ rfl rfl rfl (Nat.le_of_ble_eq_true rfl) ?_
      refine LR.iload (pc := 1216) (j := 9) dL_law_1216 rfl ?_
      refine LR.icmp_ne (pc := 1218) (tgt := 1242) dL_law_1218 (by decide) (fun c6 => ?_) (fun c6 => ?_)
      · replace h := ite_f c6 h
        refine LR.iconst (pc := 1242) (v := 0) dL_law_1242 (by decide) ?_
        exact LR.fin ⟨congrArg (fun z => [Value.int z]) (Option.some.inj h), dL_law_1243⟩
      · replace h := ite_t c6 h
        refine LR.aload_n (pc := 1221) (j := 1) dL_law_1221 rfl rfl ?_
        refine LR.bipush (pc := 1222) (v := (-2)) dL_law_1222 (by decide) ?_
        obtain ⟨r7, h7, h⟩ := bd_some h
        refine LR.callV (pc := 1224) (As := [.int (-2)]) (st := []) (ci := 8) dL_law_1224 ⟨cd_X8_byLaw, im_X8_byLaw, se_X8_byLaw, ini_X8⟩ ml_L_107 (A8_byLaw (-2) (r5.2) _ h7) rfl rfl ⟨rfl, pd_X8_byLaw⟩ ⟨Nat.le_of_ble_eq_true rfl, Nat.le_of_ble_eq_true rfl⟩ ⟨rfl, rfl⟩ rfl rfl rfl (Nat.le_of_ble_eq_true rfl) ?_
        refine LR.bipush (pc := 1227) (v := (-2)) dL_law_1227 (by decide) ?_
        refine LR.icmp_ne (pc := 1229) (tgt := 1242) dL_law_1229 (by decide) (fun c8 => ?_) (fun c8 => ?_)
        · replace h := ite_f c8 h
          refine LR.iconst (pc := 1242) (v := 0) dL_law_1242 (by decide) ?_
          exact LR.fin ⟨congrArg (fun z => [Value.int z]) (Option.some.inj h), dL_law_1243⟩
        · replace h := ite_t c8 h
          refine LR.aload_n (pc := 1232) (j := 1) dL_law_1232 rfl rfl ?_
          refine LR.iconst (pc := 1233) (v := 3) dL_law_1233 (by decide) ?_
          obtain ⟨r9, h9, h⟩ := bd_some h
          refine LR.callV (pc := 1234) (As := [.int 3]) (st := []) (ci := 8) dL_law_1234 ⟨cd_X8_many, im_X8_many, se_X8_many, ini_X8⟩ ml_L_113 (A8_many 3 (r7.2) _ h9) rfl rfl ⟨rfl, pd_X8_many⟩ ⟨Nat.le_of_ble_eq_true rfl, Nat.le_of_ble_eq_true rfl⟩ ⟨rfl, rfl⟩ rfl rfl rfl (Nat.le_of_ble_eq_true rfl) ?_
          refine LR.iload (pc := 1237) (j := 6) dL_law_1237 rfl ?_
          refine LR.icmp_eq (pc := 1239) (tgt := 1244) dL_law_1239 (by decide) (fun c10 => ?_) (fun c10 => ?_)
          · replace h := ite_t c10 h
            refine LR.aload_n (pc := 1244) (j := 0) dL_law_1244 rfl rfl ?_
            refine LR.bipush (pc := 1245) (v := 14) dL_law_1245 (by decide) ?_
            refine LR.iload (pc := 1247) (j := 5) dL_law_1247 rfl ?_
            refine LR.iadd (pc := 1249) dL_law_1249 ?_
            obtain ⟨r11, h11, h⟩ := bd_some h
            refine LR.callS0 (pc := 1250) (As := [.ref q0, .int (14 + x5)]) (st := []) (as2 := []) (asR := [(q2, 44, a2), (q3, 45, a3), (q13, 20, a13)]) (ro2 := [(q0, sL, a0)]) (mg := 0) (FIN := (FI (r9.2) r11)) [] [0, 1, 2] dL_law_1250 ⟨cd_L_cell, sm_L_cell, ini_L⟩ ml_L_9 (G_cell sL a0 (14 + x5) r11 h11) ⟨rfl, pd_L_cell⟩ ⟨Nat.le_of_ble_eq_true rfl, Nat.le_of_ble_eq_true rfl⟩ ⟨rfl, rfl⟩ rfl rfl rfl rfl rfl (by decide) (Or.inl ⟨[0], rfl⟩) rfl (Nat.le_of_ble_eq_true rfl) (fun v9 σ9 as9 hF9 => ?_)
            obtain ⟨rfl, e9, rfl⟩ := hF9; replace e9 := e9.symm; subst e9
            show LR l code 45 ret lw_tbl room_1 47 5558 ad [(q0, sL, a0)] (EL r) 1253 [(0, .ref q0), (1, .ref (ad 0)), (2, .ref q2), (3, .ref q3), (4, .int x4), (5, .int x5), (9, .int x9), (10, .int x10), (13, .ref q13), (17, .int x17), (18, .int x18), (19, .int x19)] [.int r11] (r9.2) [(q2, 44, a2), (q3, 45, a3), (q13, 20, a13)] g
            refine LR.iconst (pc := 1253) (v := 4) dL_law_1253 (by decide) ?_
            obtain ⟨r12, h12, h⟩ := bd_some h
            refine LR.callS0 (pc := 1254) (As := [.int r11, .int 4]) (st := []) (as2 := []) (asR := [(q2, 44, a2), (q3, 45, a3), (q13, 20, a13)]) (ro2 := []) (mg := 0) (FIN := (FI (r9.2) r12)) [] [0, 1, 2] dL_law_1254 ⟨cd_L_low, sm_L_low, ini_L⟩ ml_L_15 (G_low r11 4 r12 h12) ⟨rfl, pd_L_low⟩ ⟨Nat.le_of_ble_eq_true rfl, Nat.le_of_ble_eq_true rfl⟩ ⟨rfl, rfl⟩ rfl rfl rfl rfl rfl (by decide) (Or.inl ⟨[], rfl⟩) rfl (Nat.le_of_ble_eq_true rfl) (fun v9 σ9 as9 hF9 => ?_)
            obtain ⟨rfl, e9, rfl⟩ := hF9; replace e9 := e9.symm; subst e9
            show LR l code 45 ret lw_tbl room_1 47 5558 ad [(q0, sL, a0)] (EL r) 1257 [(0, .ref q0), (1, .ref (ad 0)), (2, .ref q2), (3, .ref q3), (4, .int x4), (5, .int x5), (9, .int x9), (10, .int x10), (13, .ref q13), (17, .int x17), (18, .int x18), (19, .int x19)] [.int r12] (r9.2) [(q2, 44, a2), (q3, 45, a3), (q13, 20, a13)] g
            refine LR.istore (pc := 1257) (L2 := [(19, .int r12), (0, .ref q0), (1, .ref (ad 0)), (2, .ref q2), (3, .ref q3), (4, .int x4), (5, .int x5), (9, .int x9), (10, .int x10), (13, .ref q13), (17, .int x17), (18, .int x18)]) dL_law_1257 (by decide) rfl ?_
            refine LR.aload_n (pc := 1259) (j := 1) dL_law_1259 rfl rfl ?_
            refine LR.bipush (pc := 1260) (v := 14) dL_law_1260 (by decide) ?_
            refine LR.iload (pc := 1262) (j := 6) dL_law_1262 rfl ?_
            refine LR.iadd (pc := 1264) dL_law_1264 ?_
            obtain ⟨r13, h13, h⟩ := bd_some h
            refine LR.callS0 (pc := 1265) (As := [.ref q0, .int (14 + x5)]) (st := []) (as2 := []) (asR := [(q2, 44, a2), (q3, 45, a3), (q13, 20, a13)]) (ro2 := [(q0, sL, a0)]) (mg := 0) (FIN := (FI (r9.2) r13)) [] [0, 1, 2] dL_law_1265 ⟨cd_L_cell, sm_L_cell, ini_L⟩ ml_L_9 (G_cell sL a0 (14 + x5) r13 h13) ⟨rfl, pd_L_cell⟩ ⟨Nat.le_of_ble_eq_true rfl, Nat.le_of_ble_eq_true rfl⟩ ⟨rfl, rfl⟩ rfl rfl rfl rfl rfl (by decide) (Or.inl ⟨[0], rfl⟩) rfl (Nat.le_of_ble_eq_true rfl) (fun v9 σ9 as9 hF9 => ?_)
            obtain ⟨rfl, e9, rfl⟩ := hF9; replace e9 := e9.symm; subst e9
            show LR l code 45 ret lw_tbl room_1 47 5558 ad [(q0, sL, a0)] (EL r) 1268 [(19, .int r12), (0, .ref q0), (1, .ref (ad 0)), (2, .ref q2), (3, .ref q3), (4, .int x4), (5, .int x5), (9, .int x9), (10, .int x10), (13, .ref q13), (17, .int x17), (18, .int x18)] [.int r13] (r9.2) [(q2, 44, a2), (q3, 45, a3), (q13, 20, a13)] g
            refine LR.iconst (pc := 1268) (v := 2) dL_law_1268 (by decide) ?_
            refine LR.ishr (pc := 1269) dL_law_1269 ?_
            refine LR.bipush (pc := 1270) (v := 10) dL_law_1270 (by decide) ?_
            obtain ⟨r14, h14, h⟩ := bd_some h
            refine LR.callS0 (pc := 1272) (As := [.int (r13 >>> (2 &&& 31)), .int 10]) (st := []) (as2 := []) (asR := [(q2, 44, a2), (q3, 45, a3), (q13, 20, a13)]) (ro2 := []) (mg := 0) (FIN := (FI (r9.2) r14)) [] [0, 1, 2] dL_law_1272 ⟨cd_L_low, sm_L_low, ini_L⟩ ml_L_15 (G_low (r13 >>> (2 &&& 31)) 10 r14 h14) ⟨rfl, pd_L_low⟩ ⟨Nat.le_of_ble_eq_true rfl, Nat.le_of_ble_eq_true rfl⟩ ⟨rfl, rfl⟩ rfl rfl rfl rfl rfl (by decide) (Or.inl ⟨[], rfl⟩) rfl (Nat.le_of_ble_eq_true rfl) (fun v9 σ9 as9 hF9 => ?_)
            obtain ⟨rfl, e9, rfl⟩ := hF9; replace e9 := e9.symm; subst e9
            show LR l code 45 ret lw_tbl room_1 47 5558 ad [(q0, sL, a0)] (EL r) 1275 [(19, .int r12), (0, .ref q0), (1, .ref (ad 0)), (2, .ref q2), (3, .ref q3), (4, .int x4), (5, .int x5), (9, .int x9), (10, .int x10), (13, .ref q13), (17, .int x17), (18, .int x18)] [.int r14] (r9.2) [(q2, 44, a2), (q3, 45, a3), (q13, 20, a13)] g
            refine LR.istore (pc := 1275) (L2 := [(20, .int r14), (19, .int r12), (0, .ref q0), (1, .ref (ad 0)), (2, .ref q2), (3, .ref q3), (4, .int x4), (5, .int x5), (9, .int x9), (10, .int x10), (13, .ref q13), (17, .int x17), (18, .int x18)]) dL_law_1275 (by decide) rfl ?_
            refine LR.iconst (pc := 1277) (v := 4) dL_law_1277 (by decide) ?_
            obtain ⟨c15, h⟩ := gn_some h
            refine LR.newa (pc := 1278) (N := 4) dL_law_1278 (by decide) (by decide) (by decide) (groom c15) (fun qn15 => ?_)
            show LR l code 45 ret lw_tbl room_1 47 5558 ad [(q0, sL, a0)] (EL r) 1280 [(20, .int r14), (19, .int r12), (0, .ref q0), (1, .ref (ad 0)), (2, .ref q2), (3, .ref q3), (4, .int x4), (5, .int x5), (9, .int x9), (10, .int x10), (13, .ref q13), (17, .int x17), (18, .int x18)] [.ref qn15] (r9.2) [(q2, 44, a2), (q3, 45, a3), (q13, 20, a13), (qn15, 4, (fun _ => 0))] (g + 1)
            refine LR.astore (pc := 1280) (L2 := [(21, .ref qn15), (20, .int r14), (19, .int r12), (0, .ref q0), (1, .ref (ad 0)), (2, .ref q2), (3, .ref q3), (4, .int x4), (5, .int x5), (9, .int x9), (10, .int x10), (13, .ref q13), (17, .int x17), (18, .int x18)]) dL_law_1280 (by decide) rfl ?_
            refine LR.bipush (pc := 1282) (v := 24) dL_law_1282 (by decide) ?_
            obtain ⟨c16, h⟩ := gn_some h
            refine LR.newa (pc := 1284) (N := 24) dL_law_1284 (by decide) (by decide) (by decide) (groom c16) (fun qn16 => ?_)
            show LR l code 45 ret lw_tbl room_1 47 5558 ad [(q0, sL, a0)] (EL r) 1286 [(21, .ref qn15), (20, .int r14), (19, .int r12), (0, .ref q0), (1, .ref (ad 0)), (2, .ref q2), (3, .ref q3), (4, .int x4), (5, .int x5), (9, .int x9), (10, .int x10), (13, .ref q13), (17, .int x17), (18, .int x18)] [.ref qn16] (r9.2) [(q2, 44, a2), (q3, 45, a3), (q13, 20, a13), (qn15, 4, (fun _ => 0)), (qn16, 24, (fun _ => 0))] ((g + 1) + 1)
            refine LR.astore (pc := 1286) (L2 := [(22, .ref qn16), (21, .ref qn15), (20, .int r14), (19, .int r12), (0, .ref q0), (1, .ref (ad 0)), (2, .ref q2), (3, .ref q3), (4, .int x4), (5, .int x5), (9, .int x9), (10, .int x10), (13, .ref q13), (17, .int x17), (18, .int x18)]) dL_law_1286 (by decide) rfl ?_
            refine LR.iconst (pc := 1288) (v := 0) dL_law_1288 (by decide) ?_
            refine LR.istore (pc := 1289) (L2 := [(23, .int 0), (22, .ref qn16), (21, .ref qn15), (20, .int r14), (19, .int r12), (0, .ref q0), (1, .ref (ad 0)), (2, .ref q2), (3, .ref q3), (4, .int x4), (5, .int x5), (9, .int x9), (10, .int x10), (13, .ref q13), (17, .int x17), (18, .int x18)]) dL_law_1289 (by decide) rfl ?_
            exact LR.pick [5, 6, 7, 8, 9, 10, 12, 4, 3, 2, 1, 0] rfl (LR.sub (as2 := [(q2, 44, a2), (q3, 45, a3), (qn15, 4, (fun _ => 0)), (qn16, 24, (fun _ => 0))]) [0, 1, 3, 4] rfl rfl (G_law_1291 sL a0 k85 a2 a3 x4 x5 x10 r12 r14 hk85 ((fun _ => 0), (fun _ => 0), 0, r9.2, ((g + 1) + 1)) r h))
          · replace h := ite_f c10 h
            refine LR.iconst (pc := 1242) (v := 0) dL_law_1242 (by decide) ?_
            exact LR.fin ⟨congrArg (fun z => [Value.int z]) (Option.some.inj h), dL_law_1243⟩
  · replace h := ite_f c1 h
    refine LR.aload_n (pc := 1149) (j := 1) dL_law_1149 rfl rfl ?_
    refine LR.iload (pc := 1150) (j := 11) dL_law_1150 rfl ?_
    obtain ⟨r17, h17, h⟩ := bd_some h
    refine LR.callV (pc := 1152) (As := [.int x19]) (st := []) (ci := 8) dL_law_1152 ⟨cd_X8_byLaw, im_X8_byLaw, se_X8_byLaw, ini_X8⟩ ml_L_107 (A8_byLaw x19 σ _ h17) rfl rfl ⟨rfl, pd_X8_byLaw⟩ ⟨Nat.le_of_ble_eq_true rfl, Nat.le_of_ble_eq_true rfl⟩ ⟨rfl, rfl⟩ rfl rfl rfl (Nat.le_of_ble_eq_true rfl) ?_
    refine LR.istore (pc := 1155) (L2 := [(20, .int (r17.1)), (0, .ref q0), (1, .ref (ad 0)), (2, .ref q2), (3, .ref q3), (4, .int x4), (5, .int x5), (9, .int x9), (10, .int x10), (13, .ref q13), (17, .int x17), (18, .int x18), (19, .int x19)]) dL_law_1155 (by decide) rfl ?_
    refine LR.iload (pc := 1157) (j := 0) dL_law_1157 rfl ?_
    refine LR.iload (pc := 1159) (j := 11) dL_law_1159 rfl ?_
    refine LR.icmp_le (pc := 1161) (tgt := 1169) dL_law_1161 (by decide) (fun c18 => ?_) (fun c18 => ?_)
    · replace h := ite_t c18 h
      refine LR.iload (pc := 1169) (j := 10) dL_law_1169 rfl ?_
      exact LR.pick [1, 2, 3, 4, 5, 6, 7, 8, 9, 11, 12, 0] rfl (G_law_1171 sL a0 k85 k1143 a2 a3 x4 x5 x9 x10 a13 x18 x19 (r17.1) x17 (r17.2) g hk85 hk1143 r h)
    · replace h := ite_f c18 h
      refine LR.iload (pc := 1164) (j := 12) dL_law_1164 rfl ?_
      refine LR.goto (pc := 1166) (tgt := 1171) dL_law_1166 (by decide) ?_
      exact LR.pick [1, 2, 3, 4, 5, 6, 7, 8, 9, 11, 12, 0] rfl (G_law_1171 sL a0 k85 k1143 a2 a3 x4 x5 x9 x10 a13 x18 x19 (r17.1) x19 (r17.2) g hk85 hk1143 r h)
theorem G_law_1143 {l : Launch} {ad : Nat → Nat} {q0 : Nat} (sL : Nat) (a0 : Nat → Int32) (k85 : (Nat → Int32) × Int32 × HS × Nat → Option (Int32)) {q2 : Nat} {q3 : Nat} {q13 : Nat} (a2 : Nat → Int32) (a3 : Nat → Int32) (x4 : Int32) (x5 : Int32) (x9 : Int32) (x10 : Int32) (a13 : Nat → Int32) (g : Nat) (hk85 : ∀ (p : (Nat → Int32) × Int32 × HS × Nat) (r : Int32), k85 p = some r → LR l code 45 ret lw_tbl room_1 47 5558 ad [(q0, sL, a0)] (EL r) 85 [(0, .ref q0), (1, .ref (ad 0)), (2, .ref q2), (3, .ref q3), (4, .int x4), (5, .int (p.2.1))] [] (p.2.2.1) [(q2, 44, p.1), (q3, 45, a3)] (p.2.2.2)) (p : Int32 × Int32 × Int32 × HS) (r : Int32) (h : g_law_1143 sL a0 k85 a2 a3 x4 x5 x9 x10 a13 g p = some r) : LR l code 45 ret lw_tbl room_1 47 5558 ad [(q0, sL, a0)] (EL r) 1143 [(0, .ref q0), (1, .ref (ad 0)), (2, .ref q2), (3, .ref q3), (4, .int x4), (5, .int x5), (9, .int x9), (10, .int x10), (13, .ref q13), (17, .int (p.1)), (18, .int (p.2.1)), (19, .int (p.2.2.1))] [] (p.2.2.2) [(q2, 44, a2), (q3, 45, a3), (q13, 20, a13)] g := by
  unfold g_law_1143 at h
  exact wloop_run (body := fun k1143 p => g_law_1143_b sL a0 k85 k1143 a2 a3 x4 x5 x9 x10 a13 p.1 p.2.1 p.2.2.1 p.2.2.2 g) (Q := (fun p r => LR l code 45 ret lw_tbl room_1 47 5558 ad [(q0, sL, a0)] (EL r) 1143 [(0, .ref q0), (1, .ref (ad 0)), (2, .ref q2), (3, .ref q3), (4, .int x4), (5, .int x5), (9, .int x9), (10, .int x10), (13, .ref q13), (17, .int (p.1)), (18, .int (p.2.1)), (19, .int (p.2.2.1))] [] (p.2.2.2) [(q2, 44, a2), (q3, 45, a3), (q13, 20, a13)] g)) (fun k1143 hk1143 p r h => G_law_1143_b sL a0 k85 k1143 a2 a3 x4 x5 x9 x10 a13 p.1 p.2.1 p.2.2.1 p.2.2.2 g hk85 hk1143 r h) fuelN p r h
set_option maxHeartbeats 4000000 in
set_option maxRecDepth 100000 in
theorem G_law_1082 {l : Launch} {ad : Nat → Nat} {q0 : Nat} (sL : Nat) (a0 : Nat → Int32) (k85 : (Nat → Int32) × Int32 × HS × Nat → Option (Int32)) (k562 : Int32 × HS × Nat → Option (Int32)) (k961 : Int32 × HS × Nat → Option (Int32)) (k979 : Int32 × Int32 × Nat → Option (Int32)) {q2 : Nat} {q3 : Nat} {q11 : Nat} {q12 : Nat} {q13 : Nat} (a2 : Nat → Int32) (a3 : Nat → Int32) (x4 : Int32) (x5 : Int32) (x9 : Int32) (x10 : Int32) (a11 : Nat → Int32) (a12 : Nat → Int32) (a13 : Nat → Int32) (x17 : Int32) (x28 : Int32) (x29 : Int32) (x30 : Int32) (σ : HS) (g : Nat) (hk85 : ∀ (p : (Nat → Int32) × Int32 × HS × Nat) (r : Int32), k85 p = some r → LR l code 45 ret lw_tbl room_1 47 5558 ad [(q0, sL, a0)] (EL r) 85 [(0, .ref q0), (1, .ref (ad 0)), (2, .ref q2), (3, .ref q3), (4, .int x4), (5, .int (p.2.1))] [] (p.2.2.1) [(q2, 44, p.1), (q3, 45, a3)] (p.2.2.2)) (hk562 : ∀ (p : Int32 × HS × Nat) (r : Int32), k562 p = some r → LR l code 45 ret lw_tbl room_1 47 5558 ad [(q0, sL, a0)] (EL r) 562 [(0, .ref q0), (1, .ref (ad 0)), (2, .ref q2), (3, .ref q3), (4, .int x4), (5, .int x5), (9, .int x9), (10, .int x10), (11, .ref q11), (12, .ref q12), (13, .ref q13), (17, .int (p.1))] [] (p.2.1) [(q2, 44, a2), (q3, 45, a3), (q11, 64, a11), (q12, 64, a12), (q13, 20, a13)] (p.2.2)) (hk961 : ∀ (p : Int32 × HS × Nat) (r : Int32), k961 p = some r → LR l code 45 ret lw_tbl room_1 47 5558 ad [(q0, sL, a0)] (EL r) 961 [(0, .ref q0), (1, .ref (ad 0)), (2, .ref q2), (3, .ref q3), (4, .int x4), (5, .int x5), (9, .int x9), (10, .int x10), (11, .ref q11), (12, .ref q12), (13, .ref q13), (17, .int x17), (28, .int (p.1))] [] (p.2.1) [(q2, 44, a2), (q3, 45, a3), (q11, 64, a11), (q12, 64, a12), (q13, 20, a13)] (p.2.2)) (hk979 : ∀ (p : Int32 × Int32 × Nat) (r : Int32), k979 p = some r → LR l code 45 ret lw_tbl room_1 47 5558 ad [(q0, sL, a0)] (EL r) 979 [(0, .ref q0), (1, .ref (ad 0)), (2, .ref q2), (3, .ref q3), (4, .int x4), (5, .int x5), (9, .int x9), (10, .int x10), (11, .ref q11), (12, .ref q12), (13, .ref q13), (17, .int x17), (28, .int x28), (29, .int (p.1)), (30, .int (p.2.1))] [] σ [(q2, 44, a2), (q3, 45, a3), (q11, 64, a11), (q12, 64, a12), (q13, 20, a13)] (p.2.2)) (r : Int32) (h : g_law_1082 sL a0 k85 k562 k961 k979 a2 a3 x4 x5 x9 x10 a11 a12 a13 x17 x28 x29 x30 σ g = some r) : LR l code 45 ret lw_tbl room_1 47 5558 ad [(q0, sL, a0)] (EL r) 1082 [(0, .ref q0), (1, .ref (ad 0)), (2, .ref q2), (3, .ref q3), (4, .int x4), (5, .int x5), (9, .int x9), (10, .int x10), (11, .ref q11), (12, .ref q12), (13, .ref q13), (17, .int x17), (28, .int x28), (29, .int x29), (30, .int x30)] [] σ [(q2, 44, a2), (q3, 45, a3), (q11, 64, a11), (q12, 64, a12), (q13, 20, a13)] g := by
  unfold g_law_1082 at h
  refine LR.iinc (pc := 1082) (j := 14) (v := (x30 + 1)) (L2 := [(30, .int (x30 + 1)), (0, .ref q0), (1, .ref (ad 0)), (2, .ref q2), (3, .ref q3), (4, .int x4), (5, .int x5), (9, .int x9), (10, .int x10), (11, .ref q11), (12, .ref q12), (13, .ref q13), (17, .int x17), (28, .int x28), (29, .int x29)]) dL_law_1082 rfl rfl (by decide) rfl ?_
  refine LR.goto (pc := 1085) (tgt := 979) dL_law_1085 (by decide) ?_
  exact LR.pick [1, 2, 3, 4, 5, 6, 7, 8, 9, 10, 11, 12, 13, 14, 0] rfl (hk979 (x29, (x30 + 1), g) r h)
set_option maxHeartbeats 4000000 in
set_option maxRecDepth 100000 in
theorem G_law_1073 {l : Launch} {ad : Nat → Nat} {q0 : Nat} (sL : Nat) (a0 : Nat → Int32) (k85 : (Nat → Int32) × Int32 × HS × Nat → Option (Int32)) (k562 : Int32 × HS × Nat → Option (Int32)) (k961 : Int32 × HS × Nat → Option (Int32)) (k979 : Int32 × Int32 × Nat → Option (Int32)) (k1010 : Int32 × Int32 × Nat → Option (Int32)) {q2 : Nat} {q3 : Nat} {q11 : Nat} {q12 : Nat} {q13 : Nat} (a2 : Nat → Int32) (a3 : Nat → Int32) (x4 : Int32) (x5 : Int32) (x9 : Int32) (x10 : Int32) (a11 : Nat → Int32) (a12 : Nat → Int32) (a13 : Nat → Int32) (x17 : Int32) (x28 : Int32) (x30 : Int32) (x31 : Int32) (x32 : Int32) (z0 : Int32) (z1 : Int32) (σ : HS) (g : Nat) (hk85 : ∀ (p : (Nat → Int32) × Int32 × HS × Nat) (r : Int32), k85 p = some r → LR l code 45 ret lw_tbl room_1 47 5558 ad [(q0, sL, a0)] (EL r) 85 [(0, .ref q0), (1, .ref (ad 0)), (2, .ref q2), (3, .ref q3), (4, .int x4), (5, .int (p.2.1))] [] (p.2.2.1) [(q2, 44, p.1), (q3, 45, a3)] (p.2.2.2)) (hk562 : ∀ (p : Int32 × HS × Nat) (r : Int32), k562 p = some r → LR l code 45 ret lw_tbl room_1 47 5558 ad [(q0, sL, a0)] (EL r) 562 [(0, .ref q0), (1, .ref (ad 0)), (2, .ref q2), (3, .ref q3), (4, .int x4), (5, .int x5), (9, .int x9), (10, .int x10), (11, .ref q11), (12, .ref q12), (13, .ref q13), (17, .int (p.1))] [] (p.2.1) [(q2, 44, a2), (q3, 45, a3), (q11, 64, a11), (q12, 64, a12), (q13, 20, a13)] (p.2.2)) (hk961 : ∀ (p : Int32 × HS × Nat) (r : Int32), k961 p = some r → LR l code 45 ret lw_tbl room_1 47 5558 ad [(q0, sL, a0)] (EL r) 961 [(0, .ref q0), (1, .ref (ad 0)), (2, .ref q2), (3, .ref q3), (4, .int x4), (5, .int x5), (9, .int x9), (10, .int x10), (11, .ref q11), (12, .ref q12), (13, .ref q13), (17, .int x17), (28, .int (p.1))] [] (p.2.1) [(q2, 44, a2), (q3, 45, a3), (q11, 64, a11), (q12, 64, a12), (q13, 20, a13)] (p.2.2)) (hk979 : ∀ (p : Int32 × Int32 × Nat) (r : Int32), k979 p = some r → LR l code 45 ret lw_tbl room_1 47 5558 ad [(q0, sL, a0)] (EL r) 979 [(0, .ref q0), (1, .ref (ad 0)), (2, .ref q2), (3, .ref q3), (4, .int x4), (5, .int x5), (9, .int x9), (10, .int x10), (11, .ref q11), (12, .ref q12), (13, .ref q13), (17, .int x17), (28, .int x28), (29, .int (p.1)), (30, .int (p.2.1))] [] σ [(q2, 44, a2), (q3, 45, a3), (q11, 64, a11), (q12, 64, a12), (q13, 20, a13)] (p.2.2)) (hk1010 : ∀ (p : Int32 × Int32 × Nat) (r : Int32), k1010 p = some r → LR l code 45 ret lw_tbl room_1 47 5558 ad [(q0, sL, a0)] (EL r) 1010 [(0, .ref q0), (1, .ref (ad 0)), (2, .ref q2), (3, .ref q3), (4, .int x4), (5, .int x5), (9, .int x9), (10, .int x10), (11, .ref q11), (12, .ref q12), (13, .ref q13), (17, .int x17), (28, .int x28), (29, .int (p.1)), (30, .int x30), (31, .int x31), (32, .int (p.2.1))] [] σ [(q2, 44, a2), (q3, 45, a3), (q11, 64, a11), (q12, 64, a12), (q13, 20, a13)] (p.2.2)) (r : Int32) (h : g_law_1073 sL a0 k85 k562 k961 k979 k1010 a2 a3 x4 x5 x9 x10 a11 a12 a13 x17 x28 x30 x31 x32 z0 z1 σ g = some r) : LR l code 45 ret lw_tbl room_1 47 5558 ad [(q0, sL, a0)] (EL r) 1073 [(0, .ref q0), (1, .ref (ad 0)), (2, .ref q2), (3, .ref q3), (4, .int x4), (5, .int x5), (9, .int x9), (10, .int x10), (11, .ref q11), (12, .ref q12), (13, .ref q13), (17, .int x17), (28, .int x28), (30, .int x30), (31, .int x31), (32, .int x32)] [.int z0, .int z1] σ [(q2, 44, a2), (q3, 45, a3), (q11, 64, a11), (q12, 64, a12), (q13, 20, a13)] g := by
  unfold g_law_1073 at h
  refine LR.ior (pc := 1073) dL_law_1073 ?_
  refine LR.istore (pc := 1074) (L2 := [(29, .int (z1 ||| z0)), (0, .ref q0), (1, .ref (ad 0)), (2, .ref q2), (3, .ref q3), (4, .int x4), (5, .int x5), (9, .int x9), (10, .int x10), (11, .ref q11), (12, .ref q12), (13, .ref q13), (17, .int x17), (28, .int x28), (30, .int x30), (31, .int x31), (32, .int x32)]) dL_law_1074 (by decide) rfl ?_
  refine LR.iinc (pc := 1076) (j := 16) (v := (x32 + 1)) (L2 := [(32, .int (x32 + 1)), (29, .int (z1 ||| z0)), (0, .ref q0), (1, .ref (ad 0)), (2, .ref q2), (3, .ref q3), (4, .int x4), (5, .int x5), (9, .int x9), (10, .int x10), (11, .ref q11), (12, .ref q12), (13, .ref q13), (17, .int x17), (28, .int x28), (30, .int x30), (31, .int x31)]) dL_law_1076 rfl rfl (by decide) rfl ?_
  refine LR.goto (pc := 1079) (tgt := 1010) dL_law_1079 (by decide) ?_
  exact LR.pick [2, 3, 4, 5, 6, 7, 8, 9, 10, 11, 12, 13, 14, 1, 15, 16, 0] rfl (hk1010 ((z1 ||| z0), (x32 + 1), g) r h)
set_option maxHeartbeats 4000000 in
set_option maxRecDepth 100000 in
theorem G_law_1052 {l : Launch} {ad : Nat → Nat} {q0 : Nat} (sL : Nat) (a0 : Nat → Int32) (k85 : (Nat → Int32) × Int32 × HS × Nat → Option (Int32)) (k562 : Int32 × HS × Nat → Option (Int32)) (k961 : Int32 × HS × Nat → Option (Int32)) (k979 : Int32 × Int32 × Nat → Option (Int32)) (k1010 : Int32 × Int32 × Nat → Option (Int32)) {q2 : Nat} {q3 : Nat} {q11 : Nat} {q12 : Nat} {q13 : Nat} (a2 : Nat → Int32) (a3 : Nat → Int32) (x4 : Int32) (x5 : Int32) (x9 : Int32) (x10 : Int32) (a11 : Nat → Int32) (a12 : Nat → Int32) (a13 : Nat → Int32) (x17 : Int32) (x28 : Int32) (x30 : Int32) (x31 : Int32) (x32 : Int32) (z0 : Int32) (z1 : Int32) (z7 : Int32) (σ : HS) (g : Nat) (hk85 : ∀ (p : (Nat → Int32) × Int32 × HS × Nat) (r : Int32), k85 p = some r → LR l code 45 ret lw_tbl room_1 47 5558 ad [(q0, sL, a0)] (EL r) 85 [(0, .ref q0), (1, .ref (ad 0)), (2, .ref q2), (3, .ref q3), (4, .int x4), (5, .int (p.2.1))] [] (p.2.2.1) [(q2, 44, p.1), (q3, 45, a3)] (p.2.2.2)) (hk562 : ∀ (p : Int32 × HS × Nat) (r : Int32), k562 p = some r → LR l code 45 ret lw_tbl room_1 47 5558 ad [(q0, sL, a0)] (EL r) 562 [(0, .ref q0), (1, .ref (ad 0)), (2, .ref q2), (3, .ref q3), (4, .int x4), (5, .int x5), (9, .int x9), (10, .int x10), (11, .ref q11), (12, .ref q12), (13, .ref q13), (17, .int (p.1))] [] (p.2.1) [(q2, 44, a2), (q3, 45, a3), (q11, 64, a11), (q12, 64, a12), (q13, 20, a13)] (p.2.2)) (hk961 : ∀ (p : Int32 × HS × Nat) (r : Int32), k961 p = some r → LR l code 45 ret lw_tbl room_1 47 5558 ad [(q0, sL, a0)] (EL r) 961 [(0, .ref q0), (1, .ref (ad 0)), (2, .ref q2), (3, .ref q3), (4, .int x4), (5, .int x5), (9, .int x9), (10, .int x10), (11, .ref q11), (12, .ref q12), (13, .ref q13), (17, .int x17), (28, .int (p.1))] [] (p.2.1) [(q2, 44, a2), (q3, 45, a3), (q11, 64, a11), (q12, 64, a12), (q13, 20, a13)] (p.2.2)) (hk979 : ∀ (p : Int32 × Int32 × Nat) (r : Int32), k979 p = some r → LR l code 45 ret lw_tbl room_1 47 5558 ad [(q0, sL, a0)] (EL r) 979 [(0, .ref q0), (1, .ref (ad 0)), (2, .ref q2), (3, .ref q3), (4, .int x4), (5, .int x5), (9, .int x9), (10, .int x10), (11, .ref q11), (12, .ref q12), (13, .ref q13), (17, .int x17), (28, .int x28), (29, .int (p.1)), (30, .int (p.2.1))] [] σ [(q2, 44, a2), (q3, 45, a3), (q11, 64, a11), (q12, 64, a12), (q13, 20, a13)] (p.2.2)) (hk1010 : ∀ (p : Int32 × Int32 × Nat) (r : Int32), k1010 p = some r → LR l code 45 ret lw_tbl room_1 47 5558 ad [(q0, sL, a0)] (EL r) 1010 [(0, .ref q0), (1, .ref (ad 0)), (2, .ref q2), (3, .ref q3), (4, .int x4), (5, .int x5), (9, .int x9), (10, .int x10), (11, .ref q11), (12, .ref q12), (13, .ref q13), (17, .int x17), (28, .int x28), (29, .int (p.1)), (30, .int x30), (31, .int x31), (32, .int (p.2.1))] [] σ [(q2, 44, a2), (q3, 45, a3), (q11, 64, a11), (q12, 64, a12), (q13, 20, a13)] (p.2.2)) (r : Int32) (h : g_law_1052 sL a0 k85 k562 k961 k979 k1010 a2 a3 x4 x5 x9 x10 a11 a12 a13 x17 x28 x30 x31 x32 z0 z1 z7 σ g = some r) : LR l code 45 ret lw_tbl room_1 47 5558 ad [(q0, sL, a0)] (EL r) 1052 [(0, .ref q0), (1, .ref (ad 0)), (2, .ref q2), (3, .ref q3), (4, .int x4), (5, .int x5), (9, .int x9), (10, .int x10), (11, .ref q11), (12, .ref q12), (13, .ref q13), (17, .int x17), (28, .int x28), (30, .int x30), (31, .int x31), (32, .int x32)] [.int z0, .int z1, .ref q12, .ref q11, .ref q3, .ref q2, .ref q2, .int z7] σ [(q2, 44, a2), (q3, 45, a3), (q11, 64, a11), (q12, 64, a12), (q13, 20, a13)] g := by
  unfold g_law_1052 at h
  obtain ⟨r1, h1, h⟩ := bd_some h
  obtain ⟨c2, h⟩ := gn_some h
  refine LR.callS (pc := 1052) (As := [.ref q2, .ref q3, .ref q11, .ref q12, .int z1, .int z0]) (st := [.ref q2, .int z7]) (as2 := []) (asR := [(q2, 44, a2), (q3, 45, a3), (q11, 64, a11), (q12, 64, a12), (q13, 20, a13)]) (ro2 := [(q2, 44, a2), (q3, 45, a3), (q11, 64, a11), (q12, 64, a12)]) (mg := 1) (FIN := (FA 20 σ r1)) [] [0, 1, 2, 3, 4] dL_law_1052 ⟨cd_L_but, sm_L_but, ini_L⟩ ml_L_84 (G_but a2 a3 a11 a12 z1 z0 r1 h1) ⟨rfl, pd_L_but⟩ ⟨Nat.le_of_ble_eq_true rfl, Nat.le_of_ble_eq_true rfl⟩ ⟨rfl, rfl⟩ (groom c2) rfl rfl rfl rfl (by decide) (Or.inr ⟨[0, 1, 2, 3], rfl, by decide⟩) rfl (Nat.le_of_ble_eq_true rfl) (fun v9 σ9 as9 hF9 => ?_)
  obtain ⟨qn1, rfl, e9, rfl⟩ := hF9; replace e9 := e9.symm; subst e9
  show LR l code 45 ret lw_tbl room_1 47 5558 ad [(q0, sL, a0)] (EL r) 1055 [(0, .ref q0), (1, .ref (ad 0)), (2, .ref q2), (3, .ref q3), (4, .int x4), (5, .int x5), (9, .int x9), (10, .int x10), (11, .ref q11), (12, .ref q12), (13, .ref q13), (17, .int x17), (28, .int x28), (30, .int x30), (31, .int x31), (32, .int x32)] [.ref qn1, .ref q2, .int z7] σ [(q2, 44, a2), (q3, 45, a3), (q11, 64, a11), (q12, 64, a12), (q13, 20, a13), (qn1, 20, r1)] (g + 1)
  refine LR.iload (pc := 1055) (j := 11) dL_law_1055 rfl ?_
  refine LR.iload (pc := 1057) (j := 12) dL_law_1057 rfl ?_
  obtain ⟨r3, h3, h⟩ := bd_some h
  refine LR.callS0 (pc := 1059) (As := [.ref q2, .ref qn1, .int x17, .int x28]) (st := [.int z7]) (as2 := []) (asR := [(q2, 44, a2), (q3, 45, a3), (q11, 64, a11), (q12, 64, a12), (q13, 20, a13), (qn1, 20, r1)]) (ro2 := [(q2, 44, a2), (qn1, 20, r1)]) (mg := 0) (FIN := (FI σ r3)) [] [0, 1, 2, 3, 4, 5] dL_law_1059 ⟨cd_L_says, sm_L_says, ini_L⟩ ml_L_100 (G_says a2 r1 x17 x28 r3 h3) ⟨rfl, pd_L_says⟩ ⟨Nat.le_of_ble_eq_true rfl, Nat.le_of_ble_eq_true rfl⟩ ⟨rfl, rfl⟩ rfl rfl rfl rfl rfl (by decide) (Or.inr ⟨[0, 5], rfl, by decide⟩) rfl (Nat.le_of_ble_eq_true rfl) (fun v9 σ9 as9 hF9 => ?_)
  obtain ⟨rfl, e9, rfl⟩ := hF9; replace e9 := e9.symm; subst e9
  show LR l code 45 ret lw_tbl room_1 47 5558 ad [(q0, sL, a0)] (EL r) 1062 [(0, .ref q0), (1, .ref (ad 0)), (2, .ref q2), (3, .ref q3), (4, .int x4), (5, .int x5), (9, .int x9), (10, .int x10), (11, .ref q11), (12, .ref q12), (13, .ref q13), (17, .int x17), (28, .int x28), (30, .int x30), (31, .int x31), (32, .int x32)] [.int r3, .int z7] σ [(q2, 44, a2), (q3, 45, a3), (q11, 64, a11), (q12, 64, a12), (q13, 20, a13), (qn1, 20, r1)] (g + 1)
  refine LR.if_eq (pc := 1062) (tgt := 1069) dL_law_1062 (by decide) (fun c4 => ?_) (fun c4 => ?_)
  · replace h := ite_t c4 h
    refine LR.iconst (pc := 1069) (v := 1) dL_law_1069 (by decide) ?_
    refine LR.iload (pc := 1070) (j := 13) dL_law_1070 rfl ?_
    refine LR.ishl (pc := 1072) dL_law_1072 ?_
    exact LR.pick [0, 1, 2, 3, 4, 5, 6, 7, 8, 9, 10, 11, 12, 13, 14, 15] rfl (LR.sub (as2 := [(q2, 44, a2), (q3, 45, a3), (q11, 64, a11), (q12, 64, a12), (q13, 20, a13)]) [0, 1, 2, 3, 4] rfl rfl (G_law_1073 sL a0 k85 k562 k961 k979 k1010 a2 a3 x4 x5 x9 x10 a11 a12 a13 x17 x28 x30 x31 x32 (1 <<< (x30 &&& 31)) z7 σ (g + 1) hk85 hk562 hk961 hk979 hk1010 r h))
  · replace h := ite_f c4 h
    refine LR.iconst (pc := 1065) (v := 0) dL_law_1065 (by decide) ?_
    refine LR.goto (pc := 1066) (tgt := 1073) dL_law_1066 (by decide) ?_
    exact LR.pick [0, 1, 2, 3, 4, 5, 6, 7, 8, 9, 10, 11, 12, 13, 14, 15] rfl (LR.sub (as2 := [(q2, 44, a2), (q3, 45, a3), (q11, 64, a11), (q12, 64, a12), (q13, 20, a13)]) [0, 1, 2, 3, 4] rfl rfl (G_law_1073 sL a0 k85 k562 k961 k979 k1010 a2 a3 x4 x5 x9 x10 a11 a12 a13 x17 x28 x30 x31 x32 0 z7 σ (g + 1) hk85 hk562 hk961 hk979 hk1010 r h))
set_option maxHeartbeats 4000000 in
set_option maxRecDepth 100000 in
theorem G_law_1010_b {l : Launch} {ad : Nat → Nat} {q0 : Nat} (sL : Nat) (a0 : Nat → Int32) (k85 : (Nat → Int32) × Int32 × HS × Nat → Option (Int32)) (k562 : Int32 × HS × Nat → Option (Int32)) (k961 : Int32 × HS × Nat → Option (Int32)) (k979 : Int32 × Int32 × Nat → Option (Int32)) (k1010 : Int32 × Int32 × Nat → Option (Int32)) {q2 : Nat} {q3 : Nat} {q11 : Nat} {q12 : Nat} {q13 : Nat} (a2 : Nat → Int32) (a3 : Nat → Int32) (x4 : Int32) (x5 : Int32) (x9 : Int32) (x10 : Int32) (a11 : Nat → Int32) (a12 : Nat → Int32) (a13 : Nat → Int32) (x17 : Int32) (x28 : Int32) (x29 : Int32) (x30 : Int32) (x31 : Int32) (x32 : Int32) (σ : HS) (g : Nat) (hk85 : ∀ (p : (Nat → Int32) × Int32 × HS × Nat) (r : Int32), k85 p = some r → LR l code 45 ret lw_tbl room_1 47 5558 ad [(q0, sL, a0)] (EL r) 85 [(0, .ref q0), (1, .ref (ad 0)), (2, .ref q2), (3, .ref q3), (4, .int x4), (5, .int (p.2.1))] [] (p.2.2.1) [(q2, 44, p.1), (q3, 45, a3)] (p.2.2.2)) (hk562 : ∀ (p : Int32 × HS × Nat) (r : Int32), k562 p = some r → LR l code 45 ret lw_tbl room_1 47 5558 ad [(q0, sL, a0)] (EL r) 562 [(0, .ref q0), (1, .ref (ad 0)), (2, .ref q2), (3, .ref q3), (4, .int x4), (5, .int x5), (9, .int x9), (10, .int x10), (11, .ref q11), (12, .ref q12), (13, .ref q13), (17, .int (p.1))] [] (p.2.1) [(q2, 44, a2), (q3, 45, a3), (q11, 64, a11), (q12, 64, a12), (q13, 20, a13)] (p.2.2)) (hk961 : ∀ (p : Int32 × HS × Nat) (r : Int32), k961 p = some r → LR l code 45 ret lw_tbl room_1 47 5558 ad [(q0, sL, a0)] (EL r) 961 [(0, .ref q0), (1, .ref (ad 0)), (2, .ref q2), (3, .ref q3), (4, .int x4), (5, .int x5), (9, .int x9), (10, .int x10), (11, .ref q11), (12, .ref q12), (13, .ref q13), (17, .int x17), (28, .int (p.1))] [] (p.2.1) [(q2, 44, a2), (q3, 45, a3), (q11, 64, a11), (q12, 64, a12), (q13, 20, a13)] (p.2.2)) (hk979 : ∀ (p : Int32 × Int32 × Nat) (r : Int32), k979 p = some r → LR l code 45 ret lw_tbl room_1 47 5558 ad [(q0, sL, a0)] (EL r) 979 [(0, .ref q0), (1, .ref (ad 0)), (2, .ref q2), (3, .ref q3), (4, .int x4), (5, .int x5), (9, .int x9), (10, .int x10), (11, .ref q11), (12, .ref q12), (13, .ref q13), (17, .int x17), (28, .int x28), (29, .int (p.1)), (30, .int (p.2.1))] [] σ [(q2, 44, a2), (q3, 45, a3), (q11, 64, a11), (q12, 64, a12), (q13, 20, a13)] (p.2.2)) (hk1010 : ∀ (p : Int32 × Int32 × Nat) (r : Int32), k1010 p = some r → LR l code 45 ret lw_tbl room_1 47 5558 ad [(q0, sL, a0)] (EL r) 1010 [(0, .ref q0), (1, .ref (ad 0)), (2, .ref q2), (3, .ref q3), (4, .int x4), (5, .int x5), (9, .int x9), (10, .int x10), (11, .ref q11), (12, .ref q12), (13, .ref q13), (17, .int x17), (28, .int x28), (29, .int (p.1)), (30, .int x30), (31, .int x31), (32, .int (p.2.1))] [] σ [(q2, 44, a2), (q3, 45, a3), (q11, 64, a11), (q12, 64, a12), (q13, 20, a13)] (p.2.2)) (r : Int32) (h : g_law_1010_b sL a0 k85 k562 k961 k979 k1010 a2 a3 x4 x5 x9 x10 a11 a12 a13 x17 x28 x29 x30 x31 x32 σ g = some r) : LR l code 45 ret lw_tbl room_1 47 5558 ad [(q0, sL, a0)] (EL r) 1010 [(0, .ref q0), (1, .ref (ad 0)), (2, .ref q2), (3, .ref q3), (4, .int x4), (5, .int x5), (9, .int x9), (10, .int x10), (11, .ref q11), (12, .ref q12), (13, .ref q13), (17, .int x17), (28, .int x28), (29, .int x29), (30, .int x30), (31, .int x31), (32, .int x32)] [] σ [(q2, 44, a2), (q3, 45, a3), (q11, 64, a11), (q12, 64, a12), (q13, 20, a13)] g := by
  unfold g_law_1010_b at h
  refine LR.iload (pc := 1010) (j := 16) dL_law_1010 rfl ?_
  refine LR.aload_n (pc := 1012) (j := 2) dL_law_1012 rfl rfl ?_
  refine LR.bipush (pc := 1013) (v := 9) dL_law_1013 (by decide) ?_
  refine LR.iload (pc := 1015) (j := 14) dL_law_1015 rfl ?_
  refine LR.iadd (pc := 1017) dL_law_1017 ?_
  obtain ⟨c1, h⟩ := gn_some h
  refine LR.iaload (pc := 1018) (j := 0) dL_law_1018 rfl c1 ?_
  refine LR.icmp_ge (pc := 1019) (tgt := 1082) dL_law_1019 (by decide) (fun c2 => ?_) (fun c2 => ?_)
  · replace h := ite_t c2 h
    exact LR.pick [0, 1, 2, 3, 4, 5, 6, 7, 8, 9, 10, 11, 12, 13, 14] rfl (G_law_1082 sL a0 k85 k562 k961 k979 a2 a3 x4 x5 x9 x10 a11 a12 a13 x17 x28 x29 x30 σ g hk85 hk562 hk961 hk979 r h)
  · replace h := ite_f c2 h
    refine LR.iload (pc := 1022) (j := 14) dL_law_1022 rfl ?_
    refine LR.iload (pc := 1024) (j := 11) dL_law_1024 rfl ?_
    refine LR.icmp_eq (pc := 1026) (tgt := 1082) dL_law_1026 (by decide) (fun c3 => ?_) (fun c3 => ?_)
    · replace h := ite_t c3 h
      exact LR.pick [0, 1, 2, 3, 4, 5, 6, 7, 8, 9, 10, 11, 12, 13, 14] rfl (G_law_1082 sL a0 k85 k562 k961 k979 a2 a3 x4 x5 x9 x10 a11 a12 a13 x17 x28 x29 x30 σ g hk85 hk562 hk961 hk979 r h)
    · replace h := ite_f c3 h
      refine LR.iload (pc := 1029) (j := 13) dL_law_1029 rfl ?_
      refine LR.aload_n (pc := 1031) (j := 2) dL_law_1031 rfl rfl ?_
      refine LR.aload_n (pc := 1032) (j := 2) dL_law_1032 rfl rfl ?_
      refine LR.aload_n (pc := 1033) (j := 3) dL_law_1033 rfl rfl ?_
      refine LR.aload (pc := 1034) (j := 8) dL_law_1034 rfl ?_
      refine LR.aload (pc := 1036) (j := 9) dL_law_1036 rfl ?_
      refine LR.iload (pc := 1038) (j := 15) dL_law_1038 rfl ?_
      refine LR.iload (pc := 1040) (j := 16) dL_law_1040 rfl ?_
      refine LR.if_ge (pc := 1042) (tgt := 1050) dL_law_1042 (by decide) (fun c4 => ?_) (fun c4 => ?_)
      · replace h := ite_t c4 h
        refine LR.iload (pc := 1050) (j := 16) dL_law_1050 rfl ?_
        exact LR.pick [0, 1, 2, 3, 4, 5, 6, 7, 8, 9, 10, 11, 12, 14, 15, 16] rfl (G_law_1052 sL a0 k85 k562 k961 k979 k1010 a2 a3 x4 x5 x9 x10 a11 a12 a13 x17 x28 x30 x31 x32 x32 x31 x29 σ g hk85 hk562 hk961 hk979 hk1010 r h)
      · replace h := ite_f c4 h
        refine LR.bipush (pc := 1045) (v := (-9)) dL_law_1045 (by decide) ?_
        refine LR.goto (pc := 1047) (tgt := 1052) dL_law_1047 (by decide) ?_
        exact LR.pick [0, 1, 2, 3, 4, 5, 6, 7, 8, 9, 10, 11, 12, 14, 15, 16] rfl (G_law_1052 sL a0 k85 k562 k961 k979 k1010 a2 a3 x4 x5 x9 x10 a11 a12 a13 x17 x28 x30 x31 x32 (-9) x31 x29 σ g hk85 hk562 hk961 hk979 hk1010 r h)
theorem G_law_1010 {l : Launch} {ad : Nat → Nat} {q0 : Nat} (sL : Nat) (a0 : Nat → Int32) (k85 : (Nat → Int32) × Int32 × HS × Nat → Option (Int32)) (k562 : Int32 × HS × Nat → Option (Int32)) (k961 : Int32 × HS × Nat → Option (Int32)) (k979 : Int32 × Int32 × Nat → Option (Int32)) {q2 : Nat} {q3 : Nat} {q11 : Nat} {q12 : Nat} {q13 : Nat} (a2 : Nat → Int32) (a3 : Nat → Int32) (x4 : Int32) (x5 : Int32) (x9 : Int32) (x10 : Int32) (a11 : Nat → Int32) (a12 : Nat → Int32) (a13 : Nat → Int32) (x17 : Int32) (x28 : Int32) (x30 : Int32) (x31 : Int32) (σ : HS) (hk85 : ∀ (p : (Nat → Int32) × Int32 × HS × Nat) (r : Int32), k85 p = some r → LR l code 45 ret lw_tbl room_1 47 5558 ad [(q0, sL, a0)] (EL r) 85 [(0, .ref q0), (1, .ref (ad 0)), (2, .ref q2), (3, .ref q3), (4, .int x4), (5, .int (p.2.1))] [] (p.2.2.1) [(q2, 44, p.1), (q3, 45, a3)] (p.2.2.2)) (hk562 : ∀ (p : Int32 × HS × Nat) (r : Int32), k562 p = some r → LR l code 45 ret lw_tbl room_1 47 5558 ad [(q0, sL, a0)] (EL r) 562 [(0, .ref q0), (1, .ref (ad 0)), (2, .ref q2), (3, .ref q3), (4, .int x4), (5, .int x5), (9, .int x9), (10, .int x10), (11, .ref q11), (12, .ref q12), (13, .ref q13), (17, .int (p.1))] [] (p.2.1) [(q2, 44, a2), (q3, 45, a3), (q11, 64, a11), (q12, 64, a12), (q13, 20, a13)] (p.2.2)) (hk961 : ∀ (p : Int32 × HS × Nat) (r : Int32), k961 p = some r → LR l code 45 ret lw_tbl room_1 47 5558 ad [(q0, sL, a0)] (EL r) 961 [(0, .ref q0), (1, .ref (ad 0)), (2, .ref q2), (3, .ref q3), (4, .int x4), (5, .int x5), (9, .int x9), (10, .int x10), (11, .ref q11), (12, .ref q12), (13, .ref q13), (17, .int x17), (28, .int (p.1))] [] (p.2.1) [(q2, 44, a2), (q3, 45, a3), (q11, 64, a11), (q12, 64, a12), (q13, 20, a13)] (p.2.2)) (hk979 : ∀ (p : Int32 × Int32 × Nat) (r : Int32), k979 p = some r → LR l code 45 ret lw_tbl room_1 47 5558 ad [(q0, sL, a0)] (EL r) 979 [(0, .ref q0), (1, .ref (ad 0)), (2, .ref q2), (3, .ref q3), (4, .int x4), (5, .int x5), (9, .int x9), (10, .int x10), (11, .ref q11), (12, .ref q12), (13, .ref q13), (17, .int x17), (28, .int x28), (29, .int (p.1)), (30, .int (p.2.1))] [] σ [(q2, 44, a2), (q3, 45, a3), (q11, 64, a11), (q12, 64, a12), (q13, 20, a13)] (p.2.2)) (p : Int32 × Int32 × Nat) (r : Int32) (h : g_law_1010 sL a0 k85 k562 k961 k979 a2 a3 x4 x5 x9 x10 a11 a12 a13 x17 x28 x30 x31 σ p = some r) : LR l code 45 ret lw_tbl room_1 47 5558 ad [(q0, sL, a0)] (EL r) 1010 [(0, .ref q0), (1, .ref (ad 0)), (2, .ref q2), (3, .ref q3), (4, .int x4), (5, .int x5), (9, .int x9), (10, .int x10), (11, .ref q11), (12, .ref q12), (13, .ref q13), (17, .int x17), (28, .int x28), (29, .int (p.1)), (30, .int x30), (31, .int x31), (32, .int (p.2.1))] [] σ [(q2, 44, a2), (q3, 45, a3), (q11, 64, a11), (q12, 64, a12), (q13, 20, a13)] (p.2.2) := by
  unfold g_law_1010 at h
  exact wloop_run (body := fun k1010 p => g_law_1010_b sL a0 k85 k562 k961 k979 k1010 a2 a3 x4 x5 x9 x10 a11 a12 a13 x17 x28 p.1 x30 x31 p.2.1 σ p.2.2) (Q := (fun p r => LR l code 45 ret lw_tbl room_1 47 5558 ad [(q0, sL, a0)] (EL r) 1010 [(0, .ref q0), (1, .ref (ad 0)), (2, .ref q2), (3, .ref q3), (4, .int x4), (5, .int x5), (9, .int x9), (10, .int x10), (11, .ref q11), (12, .ref q12), (13, .ref q13), (17, .int x17), (28, .int x28), (29, .int (p.1)), (30, .int x30), (31, .int x31), (32, .int (p.2.1))] [] σ [(q2, 44, a2), (q3, 45, a3), (q11, 64, a11), (q12, 64, a12), (q13, 20, a13)] (p.2.2))) (fun k1010 hk1010 p r h => G_law_1010_b sL a0 k85 k562 k961 k979 k1010 a2 a3 x4 x5 x9 x10 a11 a12 a13 x17 x28 p.1 x30 x31 p.2.1 σ p.2.2 hk85 hk562 hk961 hk979 hk1010 r h) fuelN p r h
set_option maxHeartbeats 4000000 in
set_option maxRecDepth 100000 in
theorem G_law_989_b {l : Launch} {ad : Nat → Nat} {q0 : Nat} (sL : Nat) (a0 : Nat → Int32) (k85 : (Nat → Int32) × Int32 × HS × Nat → Option (Int32)) (k562 : Int32 × HS × Nat → Option (Int32)) (k961 : Int32 × HS × Nat → Option (Int32)) (k979 : Int32 × Int32 × Nat → Option (Int32)) (k989 : Int32 → Option (Int32)) {q2 : Nat} {q3 : Nat} {q11 : Nat} {q12 : Nat} {q13 : Nat} (a2 : Nat → Int32) (a3 : Nat → Int32) (x4 : Int32) (x5 : Int32) (x9 : Int32) (x10 : Int32) (a11 : Nat → Int32) (a12 : Nat → Int32) (a13 : Nat → Int32) (x17 : Int32) (x28 : Int32) (x29 : Int32) (x30 : Int32) (x31 : Int32) (σ : HS) (g : Nat) (hk85 : ∀ (p : (Nat → Int32) × Int32 × HS × Nat) (r : Int32), k85 p = some r → LR l code 45 ret lw_tbl room_1 47 5558 ad [(q0, sL, a0)] (EL r) 85 [(0, .ref q0), (1, .ref (ad 0)), (2, .ref q2), (3, .ref q3), (4, .int x4), (5, .int (p.2.1))] [] (p.2.2.1) [(q2, 44, p.1), (q3, 45, a3)] (p.2.2.2)) (hk562 : ∀ (p : Int32 × HS × Nat) (r : Int32), k562 p = some r → LR l code 45 ret lw_tbl room_1 47 5558 ad [(q0, sL, a0)] (EL r) 562 [(0, .ref q0), (1, .ref (ad 0)), (2, .ref q2), (3, .ref q3), (4, .int x4), (5, .int x5), (9, .int x9), (10, .int x10), (11, .ref q11), (12, .ref q12), (13, .ref q13), (17, .int (p.1))] [] (p.2.1) [(q2, 44, a2), (q3, 45, a3), (q11, 64, a11), (q12, 64, a12), (q13, 20, a13)] (p.2.2)) (hk961 : ∀ (p : Int32 × HS × Nat) (r : Int32), k961 p = some r → LR l code 45 ret lw_tbl room_1 47 5558 ad [(q0, sL, a0)] (EL r) 961 [(0, .ref q0), (1, .ref (ad 0)), (2, .ref q2), (3, .ref q3), (4, .int x4), (5, .int x5), (9, .int x9), (10, .int x10), (11, .ref q11), (12, .ref q12), (13, .ref q13), (17, .int x17), (28, .int (p.1))] [] (p.2.1) [(q2, 44, a2), (q3, 45, a3), (q11, 64, a11), (q12, 64, a12), (q13, 20, a13)] (p.2.2)) (hk979 : ∀ (p : Int32 × Int32 × Nat) (r : Int32), k979 p = some r → LR l code 45 ret lw_tbl room_1 47 5558 ad [(q0, sL, a0)] (EL r) 979 [(0, .ref q0), (1, .ref (ad 0)), (2, .ref q2), (3, .ref q3), (4, .int x4), (5, .int x5), (9, .int x9), (10, .int x10), (11, .ref q11), (12, .ref q12), (13, .ref q13), (17, .int x17), (28, .int x28), (29, .int (p.1)), (30, .int (p.2.1))] [] σ [(q2, 44, a2), (q3, 45, a3), (q11, 64, a11), (q12, 64, a12), (q13, 20, a13)] (p.2.2)) (hk989 : ∀ (p : Int32) (r : Int32), k989 p = some r → LR l code 45 ret lw_tbl room_1 47 5558 ad [(q0, sL, a0)] (EL r) 989 [(0, .ref q0), (1, .ref (ad 0)), (2, .ref q2), (3, .ref q3), (4, .int x4), (5, .int x5), (9, .int x9), (10, .int x10), (11, .ref q11), (12, .ref q12), (13, .ref q13), (17, .int x17), (28, .int x28), (29, .int x29), (30, .int x30), (31, .int p)] [] σ [(q2, 44, a2), (q3, 45, a3), (q11, 64, a11), (q12, 64, a12), (q13, 20, a13)] g) (r : Int32) (h : g_law_989_b sL a0 k85 k562 k961 k979 k989 a2 a3 x4 x5 x9 x10 a11 a12 a13 x17 x28 x29 x30 x31 σ g = some r) : LR l code 45 ret lw_tbl room_1 47 5558 ad [(q0, sL, a0)] (EL r) 989 [(0, .ref q0), (1, .ref (ad 0)), (2, .ref q2), (3, .ref q3), (4, .int x4), (5, .int x5), (9, .int x9), (10, .int x10), (11, .ref q11), (12, .ref q12), (13, .ref q13), (17, .int x17), (28, .int x28), (29, .int x29), (30, .int x30), (31, .int x31)] [] σ [(q2, 44, a2), (q3, 45, a3), (q11, 64, a11), (q12, 64, a12), (q13, 20, a13)] g := by
  unfold g_law_989_b at h
  refine LR.aload_n (pc := 989) (j := 2) dL_law_989 rfl rfl ?_
  refine LR.bipush (pc := 990) (v := 14) dL_law_990 (by decide) ?_
  refine LR.iload (pc := 992) (j := 15) dL_law_992 rfl ?_
  refine LR.iadd (pc := 994) dL_law_994 ?_
  obtain ⟨c1, h⟩ := gn_some h
  refine LR.iaload (pc := 995) (j := 0) dL_law_995 rfl c1 ?_
  refine LR.iload (pc := 996) (j := 14) dL_law_996 rfl ?_
  refine LR.icmp_eq (pc := 998) (tgt := 1007) dL_law_998 (by decide) (fun c2 => ?_) (fun c2 => ?_)
  · replace h := ite_t c2 h
    refine LR.iconst (pc := 1007) (v := (-1)) dL_law_1007 (by decide) ?_
    refine LR.istore (pc := 1008) (L2 := [(32, .int (-1)), (0, .ref q0), (1, .ref (ad 0)), (2, .ref q2), (3, .ref q3), (4, .int x4), (5, .int x5), (9, .int x9), (10, .int x10), (11, .ref q11), (12, .ref q12), (13, .ref q13), (17, .int x17), (28, .int x28), (29, .int x29), (30, .int x30), (31, .int x31)]) dL_law_1008 (by decide) rfl ?_
    exact LR.pick [1, 2, 3, 4, 5, 6, 7, 8, 9, 10, 11, 12, 13, 14, 15, 16, 0] rfl (G_law_1010 sL a0 k85 k562 k961 k979 a2 a3 x4 x5 x9 x10 a11 a12 a13 x17 x28 x30 x31 σ hk85 hk562 hk961 hk979 (x29, (-1), g) r h)
  · replace h := ite_f c2 h
    refine LR.iinc (pc := 1001) (j := 15) (v := (x31 + 1)) (L2 := [(31, .int (x31 + 1)), (0, .ref q0), (1, .ref (ad 0)), (2, .ref q2), (3, .ref q3), (4, .int x4), (5, .int x5), (9, .int x9), (10, .int x10), (11, .ref q11), (12, .ref q12), (13, .ref q13), (17, .int x17), (28, .int x28), (29, .int x29), (30, .int x30)]) dL_law_1001 rfl rfl (by decide) rfl ?_
    refine LR.goto (pc := 1004) (tgt := 989) dL_law_1004 (by decide) ?_
    exact LR.pick [1, 2, 3, 4, 5, 6, 7, 8, 9, 10, 11, 12, 13, 14, 15, 0] rfl (hk989 (x31 + 1) r h)
theorem G_law_989 {l : Launch} {ad : Nat → Nat} {q0 : Nat} (sL : Nat) (a0 : Nat → Int32) (k85 : (Nat → Int32) × Int32 × HS × Nat → Option (Int32)) (k562 : Int32 × HS × Nat → Option (Int32)) (k961 : Int32 × HS × Nat → Option (Int32)) (k979 : Int32 × Int32 × Nat → Option (Int32)) {q2 : Nat} {q3 : Nat} {q11 : Nat} {q12 : Nat} {q13 : Nat} (a2 : Nat → Int32) (a3 : Nat → Int32) (x4 : Int32) (x5 : Int32) (x9 : Int32) (x10 : Int32) (a11 : Nat → Int32) (a12 : Nat → Int32) (a13 : Nat → Int32) (x17 : Int32) (x28 : Int32) (x29 : Int32) (x30 : Int32) (σ : HS) (g : Nat) (hk85 : ∀ (p : (Nat → Int32) × Int32 × HS × Nat) (r : Int32), k85 p = some r → LR l code 45 ret lw_tbl room_1 47 5558 ad [(q0, sL, a0)] (EL r) 85 [(0, .ref q0), (1, .ref (ad 0)), (2, .ref q2), (3, .ref q3), (4, .int x4), (5, .int (p.2.1))] [] (p.2.2.1) [(q2, 44, p.1), (q3, 45, a3)] (p.2.2.2)) (hk562 : ∀ (p : Int32 × HS × Nat) (r : Int32), k562 p = some r → LR l code 45 ret lw_tbl room_1 47 5558 ad [(q0, sL, a0)] (EL r) 562 [(0, .ref q0), (1, .ref (ad 0)), (2, .ref q2), (3, .ref q3), (4, .int x4), (5, .int x5), (9, .int x9), (10, .int x10), (11, .ref q11), (12, .ref q12), (13, .ref q13), (17, .int (p.1))] [] (p.2.1) [(q2, 44, a2), (q3, 45, a3), (q11, 64, a11), (q12, 64, a12), (q13, 20, a13)] (p.2.2)) (hk961 : ∀ (p : Int32 × HS × Nat) (r : Int32), k961 p = some r → LR l code 45 ret lw_tbl room_1 47 5558 ad [(q0, sL, a0)] (EL r) 961 [(0, .ref q0), (1, .ref (ad 0)), (2, .ref q2), (3, .ref q3), (4, .int x4), (5, .int x5), (9, .int x9), (10, .int x10), (11, .ref q11), (12, .ref q12), (13, .ref q13), (17, .int x17), (28, .int (p.1))] [] (p.2.1) [(q2, 44, a2), (q3, 45, a3), (q11, 64, a11), (q12, 64, a12), (q13, 20, a13)] (p.2.2)) (hk979 : ∀ (p : Int32 × Int32 × Nat) (r : Int32), k979 p = some r → LR l code 45 ret lw_tbl room_1 47 5558 ad [(q0, sL, a0)] (EL r) 979 [(0, .ref q0), (1, .ref (ad 0)), (2, .ref q2), (3, .ref q3), (4, .int x4), (5, .int x5), (9, .int x9), (10, .int x10), (11, .ref q11), (12, .ref q12), (13, .ref q13), (17, .int x17), (28, .int x28), (29, .int (p.1)), (30, .int (p.2.1))] [] σ [(q2, 44, a2), (q3, 45, a3), (q11, 64, a11), (q12, 64, a12), (q13, 20, a13)] (p.2.2)) (p : Int32) (r : Int32) (h : g_law_989 sL a0 k85 k562 k961 k979 a2 a3 x4 x5 x9 x10 a11 a12 a13 x17 x28 x29 x30 σ g p = some r) : LR l code 45 ret lw_tbl room_1 47 5558 ad [(q0, sL, a0)] (EL r) 989 [(0, .ref q0), (1, .ref (ad 0)), (2, .ref q2), (3, .ref q3), (4, .int x4), (5, .int x5), (9, .int x9), (10, .int x10), (11, .ref q11), (12, .ref q12), (13, .ref q13), (17, .int x17), (28, .int x28), (29, .int x29), (30, .int x30), (31, .int p)] [] σ [(q2, 44, a2), (q3, 45, a3), (q11, 64, a11), (q12, 64, a12), (q13, 20, a13)] g := by
  unfold g_law_989 at h
  exact wloop_run (body := fun k989 p => g_law_989_b sL a0 k85 k562 k961 k979 k989 a2 a3 x4 x5 x9 x10 a11 a12 a13 x17 x28 x29 x30 p σ g) (Q := (fun p r => LR l code 45 ret lw_tbl room_1 47 5558 ad [(q0, sL, a0)] (EL r) 989 [(0, .ref q0), (1, .ref (ad 0)), (2, .ref q2), (3, .ref q3), (4, .int x4), (5, .int x5), (9, .int x9), (10, .int x10), (11, .ref q11), (12, .ref q12), (13, .ref q13), (17, .int x17), (28, .int x28), (29, .int x29), (30, .int x30), (31, .int p)] [] σ [(q2, 44, a2), (q3, 45, a3), (q11, 64, a11), (q12, 64, a12), (q13, 20, a13)] g)) (fun k989 hk989 p r h => G_law_989_b sL a0 k85 k562 k961 k979 k989 a2 a3 x4 x5 x9 x10 a11 a12 a13 x17 x28 x29 x30 p σ g hk85 hk562 hk961 hk979 hk989 r h) fuelN p r h
set_option maxHeartbeats 4000000 in
set_option maxRecDepth 100000 in
theorem G_law_979_b {l : Launch} {ad : Nat → Nat} {q0 : Nat} (sL : Nat) (a0 : Nat → Int32) (k85 : (Nat → Int32) × Int32 × HS × Nat → Option (Int32)) (k562 : Int32 × HS × Nat → Option (Int32)) (k961 : Int32 × HS × Nat → Option (Int32)) (k979 : Int32 × Int32 × Nat → Option (Int32)) {q2 : Nat} {q3 : Nat} {q11 : Nat} {q12 : Nat} {q13 : Nat} (a2 : Nat → Int32) (a3 : Nat → Int32) (x4 : Int32) (x5 : Int32) (x9 : Int32) (x10 : Int32) (a11 : Nat → Int32) (a12 : Nat → Int32) (a13 : Nat → Int32) (x17 : Int32) (x28 : Int32) (x29 : Int32) (x30 : Int32) (σ : HS) (g : Nat) (hk85 : ∀ (p : (Nat → Int32) × Int32 × HS × Nat) (r : Int32), k85 p = some r → LR l code 45 ret lw_tbl room_1 47 5558 ad [(q0, sL, a0)] (EL r) 85 [(0, .ref q0), (1, .ref (ad 0)), (2, .ref q2), (3, .ref q3), (4, .int x4), (5, .int (p.2.1))] [] (p.2.2.1) [(q2, 44, p.1), (q3, 45, a3)] (p.2.2.2)) (hk562 : ∀ (p : Int32 × HS × Nat) (r : Int32), k562 p = some r → LR l code 45 ret lw_tbl room_1 47 5558 ad [(q0, sL, a0)] (EL r) 562 [(0, .ref q0), (1, .ref (ad 0)), (2, .ref q2), (3, .ref q3), (4, .int x4), (5, .int x5), (9, .int x9), (10, .int x10), (11, .ref q11), (12, .ref q12), (13, .ref q13), (17, .int (p.1))] [] (p.2.1) [(q2, 44, a2), (q3, 45, a3), (q11, 64, a11), (q12, 64, a12), (q13, 20, a13)] (p.2.2)) (hk961 : ∀ (p : Int32 × HS × Nat) (r : Int32), k961 p = some r → LR l code 45 ret lw_tbl room_1 47 5558 ad [(q0, sL, a0)] (EL r) 961 [(0, .ref q0), (1, .ref (ad 0)), (2, .ref q2), (3, .ref q3), (4, .int x4), (5, .int x5), (9, .int x9), (10, .int x10), (11, .ref q11), (12, .ref q12), (13, .ref q13), (17, .int x17), (28, .int (p.1))] [] (p.2.1) [(q2, 44, a2), (q3, 45, a3), (q11, 64, a11), (q12, 64, a12), (q13, 20, a13)] (p.2.2)) (hk979 : ∀ (p : Int32 × Int32 × Nat) (r : Int32), k979 p = some r → LR l code 45 ret lw_tbl room_1 47 5558 ad [(q0, sL, a0)] (EL r) 979 [(0, .ref q0), (1, .ref (ad 0)), (2, .ref q2), (3, .ref q3), (4, .int x4), (5, .int x5), (9, .int x9), (10, .int x10), (11, .ref q11), (12, .ref q12), (13, .ref q13), (17, .int x17), (28, .int x28), (29, .int (p.1)), (30, .int (p.2.1))] [] σ [(q2, 44, a2), (q3, 45, a3), (q11, 64, a11), (q12, 64, a12), (q13, 20, a13)] (p.2.2)) (r : Int32) (h : g_law_979_b sL a0 k85 k562 k961 k979 a2 a3 x4 x5 x9 x10 a11 a12 a13 x17 x28 x29 x30 σ g = some r) : LR l code 45 ret lw_tbl room_1 47 5558 ad [(q0, sL, a0)] (EL r) 979 [(0, .ref q0), (1, .ref (ad 0)), (2, .ref q2), (3, .ref q3), (4, .int x4), (5, .int x5), (9, .int x9), (10, .int x10), (11, .ref q11), (12, .ref q12), (13, .ref q13), (17, .int x17), (28, .int x28), (29, .int x29), (30, .int x30)] [] σ [(q2, 44, a2), (q3, 45, a3), (q11, 64, a11), (q12, 64, a12), (q13, 20, a13)] g := by
  unfold g_law_979_b at h
  refine LR.iload (pc := 979) (j := 14) dL_law_979 rfl ?_
  refine LR.iload (pc := 981) (j := 4) dL_law_981 rfl ?_
  refine LR.icmp_ge (pc := 983) (tgt := 1088) dL_law_983 (by decide) (fun c1 => ?_) (fun c1 => ?_)
  · replace h := ite_t c1 h
    refine LR.aload_n (pc := 1088) (j := 1) dL_law_1088 rfl rfl ?_
    refine LR.iload (pc := 1089) (j := 11) dL_law_1089 rfl ?_
    refine LR.iload (pc := 1091) (j := 12) dL_law_1091 rfl ?_
    obtain ⟨r2, h2, h⟩ := bd_some h
    refine LR.callV (pc := 1093) (As := [.int x17, .int x28]) (st := []) (ci := 8) dL_law_1093 ⟨cd_X8_dry, im_X8_dry, se_X8_dry, ini_X8⟩ ml_L_104 (A8_dry x17 x28 σ _ h2) rfl rfl ⟨rfl, pd_X8_dry⟩ ⟨Nat.le_of_ble_eq_true rfl, Nat.le_of_ble_eq_true rfl⟩ ⟨rfl, rfl⟩ rfl rfl rfl (Nat.le_of_ble_eq_true rfl) ?_
    refine LR.iload (pc := 1096) (j := 13) dL_law_1096 rfl ?_
    refine LR.icmp_eq (pc := 1098) (tgt := 1103) dL_law_1098 (by decide) (fun c3 => ?_) (fun c3 => ?_)
    · replace h := ite_t c3 h
      refine LR.iinc (pc := 1103) (j := 12) (v := (x28 + 1)) (L2 := [(28, .int (x28 + 1)), (0, .ref q0), (1, .ref (ad 0)), (2, .ref q2), (3, .ref q3), (4, .int x4), (5, .int x5), (9, .int x9), (10, .int x10), (11, .ref q11), (12, .ref q12), (13, .ref q13), (17, .int x17), (29, .int x29), (30, .int x30)]) dL_law_1103 rfl rfl (by decide) rfl ?_
      refine LR.goto (pc := 1106) (tgt := 961) dL_law_1106 (by decide) ?_
      exact LR.pick [1, 2, 3, 4, 5, 6, 7, 8, 9, 10, 11, 12, 0] rfl (hk961 ((x28 + 1), r2.2, g) r h)
    · replace h := ite_f c3 h
      refine LR.iconst (pc := 1101) (v := 0) dL_law_1101 (by decide) ?_
      exact LR.fin ⟨congrArg (fun z => [Value.int z]) (Option.some.inj h), dL_law_1102⟩
  · replace h := ite_f c1 h
    refine LR.iconst (pc := 986) (v := 0) dL_law_986 (by decide) ?_
    refine LR.istore (pc := 987) (L2 := [(31, .int 0), (0, .ref q0), (1, .ref (ad 0)), (2, .ref q2), (3, .ref q3), (4, .int x4), (5, .int x5), (9, .int x9), (10, .int x10), (11, .ref q11), (12, .ref q12), (13, .ref q13), (17, .int x17), (28, .int x28), (29, .int x29), (30, .int x30)]) dL_law_987 (by decide) rfl ?_
    exact LR.pick [1, 2, 3, 4, 5, 6, 7, 8, 9, 10, 11, 12, 13, 14, 15, 0] rfl (G_law_989 sL a0 k85 k562 k961 k979 a2 a3 x4 x5 x9 x10 a11 a12 a13 x17 x28 x29 x30 σ g hk85 hk562 hk961 hk979 0 r h)
theorem G_law_979 {l : Launch} {ad : Nat → Nat} {q0 : Nat} (sL : Nat) (a0 : Nat → Int32) (k85 : (Nat → Int32) × Int32 × HS × Nat → Option (Int32)) (k562 : Int32 × HS × Nat → Option (Int32)) (k961 : Int32 × HS × Nat → Option (Int32)) {q2 : Nat} {q3 : Nat} {q11 : Nat} {q12 : Nat} {q13 : Nat} (a2 : Nat → Int32) (a3 : Nat → Int32) (x4 : Int32) (x5 : Int32) (x9 : Int32) (x10 : Int32) (a11 : Nat → Int32) (a12 : Nat → Int32) (a13 : Nat → Int32) (x17 : Int32) (x28 : Int32) (σ : HS) (hk85 : ∀ (p : (Nat → Int32) × Int32 × HS × Nat) (r : Int32), k85 p = some r → LR l code 45 ret lw_tbl room_1 47 5558 ad [(q0, sL, a0)] (EL r) 85 [(0, .ref q0), (1, .ref (ad 0)), (2, .ref q2), (3, .ref q3), (4, .int x4), (5, .int (p.2.1))] [] (p.2.2.1) [(q2, 44, p.1), (q3, 45, a3)] (p.2.2.2)) (hk562 : ∀ (p : Int32 × HS × Nat) (r : Int32), k562 p = some r → LR l code 45 ret lw_tbl room_1 47 5558 ad [(q0, sL, a0)] (EL r) 562 [(0, .ref q0), (1, .ref (ad 0)), (2, .ref q2), (3, .ref q3), (4, .int x4), (5, .int x5), (9, .int x9), (10, .int x10), (11, .ref q11), (12, .ref q12), (13, .ref q13), (17, .int (p.1))] [] (p.2.1) [(q2, 44, a2), (q3, 45, a3), (q11, 64, a11), (q12, 64, a12), (q13, 20, a13)] (p.2.2)) (hk961 : ∀ (p : Int32 × HS × Nat) (r : Int32), k961 p = some r → LR l code 45 ret lw_tbl room_1 47 5558 ad [(q0, sL, a0)] (EL r) 961 [(0, .ref q0), (1, .ref (ad 0)), (2, .ref q2), (3, .ref q3), (4, .int x4), (5, .int x5), (9, .int x9), (10, .int x10), (11, .ref q11), (12, .ref q12), (13, .ref q13), (17, .int x17), (28, .int (p.1))] [] (p.2.1) [(q2, 44, a2), (q3, 45, a3), (q11, 64, a11), (q12, 64, a12), (q13, 20, a13)] (p.2.2)) (p : Int32 × Int32 × Nat) (r : Int32) (h : g_law_979 sL a0 k85 k562 k961 a2 a3 x4 x5 x9 x10 a11 a12 a13 x17 x28 σ p = some r) : LR l code 45 ret lw_tbl room_1 47 5558 ad [(q0, sL, a0)] (EL r) 979 [(0, .ref q0), (1, .ref (ad 0)), (2, .ref q2), (3, .ref q3), (4, .int x4), (5, .int x5), (9, .int x9), (10, .int x10), (11, .ref q11), (12, .ref q12), (13, .ref q13), (17, .int x17), (28, .int x28), (29, .int (p.1)), (30, .int (p.2.1))] [] σ [(q2, 44, a2), (q3, 45, a3), (q11, 64, a11), (q12, 64, a12), (q13, 20, a13)] (p.2.2) := by
  unfold g_law_979 at h
  exact wloop_run (body := fun k979 p => g_law_979_b sL a0 k85 k562 k961 k979 a2 a3 x4 x5 x9 x10 a11 a12 a13 x17 x28 p.1 p.2.1 σ p.2.2) (Q := (fun p r => LR l code 45 ret lw_tbl room_1 47 5558 ad [(q0, sL, a0)] (EL r) 979 [(0, .ref q0), (1, .ref (ad 0)), (2, .ref q2), (3, .ref q3), (4, .int x4), (5, .int x5), (9, .int x9), (10, .int x10), (11, .ref q11), (12, .ref q12), (13, .ref q13), (17, .int x17), (28, .int x28), (29, .int (p.1)), (30, .int (p.2.1))] [] σ [(q2, 44, a2), (q3, 45, a3), (q11, 64, a11), (q12, 64, a12), (q13, 20, a13)] (p.2.2))) (fun k979 hk979 p r h => G_law_979_b sL a0 k85 k562 k961 k979 a2 a3 x4 x5 x9 x10 a11 a12 a13 x17 x28 p.1 p.2.1 σ p.2.2 hk85 hk562 hk961 hk979 r h) fuelN p r h
set_option maxHeartbeats 4000000 in
set_option maxRecDepth 100000 in
theorem G_law_961_b {l : Launch} {ad : Nat → Nat} {q0 : Nat} (sL : Nat) (a0 : Nat → Int32) (k85 : (Nat → Int32) × Int32 × HS × Nat → Option (Int32)) (k562 : Int32 × HS × Nat → Option (Int32)) (k961 : Int32 × HS × Nat → Option (Int32)) {q2 : Nat} {q3 : Nat} {q11 : Nat} {q12 : Nat} {q13 : Nat} (a2 : Nat → Int32) (a3 : Nat → Int32) (x4 : Int32) (x5 : Int32) (x9 : Int32) (x10 : Int32) (a11 : Nat → Int32) (a12 : Nat → Int32) (a13 : Nat → Int32) (x17 : Int32) (x28 : Int32) (σ : HS) (g : Nat) (hk85 : ∀ (p : (Nat → Int32) × Int32 × HS × Nat) (r : Int32), k85 p = some r → LR l code 45 ret lw_tbl room_1 47 5558 ad [(q0, sL, a0)] (EL r) 85 [(0, .ref q0), (1, .ref (ad 0)), (2, .ref q2), (3, .ref q3), (4, .int x4), (5, .int (p.2.1))] [] (p.2.2.1) [(q2, 44, p.1), (q3, 45, a3)] (p.2.2.2)) (hk562 : ∀ (p : Int32 × HS × Nat) (r : Int32), k562 p = some r → LR l code 45 ret lw_tbl room_1 47 5558 ad [(q0, sL, a0)] (EL r) 562 [(0, .ref q0), (1, .ref (ad 0)), (2, .ref q2), (3, .ref q3), (4, .int x4), (5, .int x5), (9, .int x9), (10, .int x10), (11, .ref q11), (12, .ref q12), (13, .ref q13), (17, .int (p.1))] [] (p.2.1) [(q2, 44, a2), (q3, 45, a3), (q11, 64, a11), (q12, 64, a12), (q13, 20, a13)] (p.2.2)) (hk961 : ∀ (p : Int32 × HS × Nat) (r : Int32), k961 p = some r → LR l code 45 ret lw_tbl room_1 47 5558 ad [(q0, sL, a0)] (EL r) 961 [(0, .ref q0), (1, .ref (ad 0)), (2, .ref q2), (3, .ref q3), (4, .int x4), (5, .int x5), (9, .int x9), (10, .int x10), (11, .ref q11), (12, .ref q12), (13, .ref q13), (17, .int x17), (28, .int (p.1))] [] (p.2.1) [(q2, 44, a2), (q3, 45, a3), (q11, 64, a11), (q12, 64, a12), (q13, 20, a13)] (p.2.2)) (r : Int32) (h : g_law_961_b sL a0 k85 k562 k961 a2 a3 x4 x5 x9 x10 a11 a12 a13 x17 x28 σ g = some r) : LR l code 45 ret lw_tbl room_1 47 5558 ad [(q0, sL, a0)] (EL r) 961 [(0, .ref q0), (1, .ref (ad 0)), (2, .ref q2), (3, .ref q3), (4, .int x4), (5, .int x5), (9, .int x9), (10, .int x10), (11, .ref q11), (12, .ref q12), (13, .ref q13), (17, .int x17), (28, .int x28)] [] σ [(q2, 44, a2), (q3, 45, a3), (q11, 64, a11), (q12, 64, a12), (q13, 20, a13)] g := by
  unfold g_law_961_b at h
  refine LR.iload (pc := 961) (j := 12) dL_law_961 rfl ?_
  refine LR.aload_n (pc := 963) (j := 2) dL_law_963 rfl rfl ?_
  refine LR.bipush (pc := 964) (v := 9) dL_law_964 (by decide) ?_
  refine LR.iload (pc := 966) (j := 11) dL_law_966 rfl ?_
  refine LR.iadd (pc := 968) dL_law_968 ?_
  obtain ⟨c1, h⟩ := gn_some h
  refine LR.iaload (pc := 969) (j := 0) dL_law_969 rfl c1 ?_
  refine LR.icmp_ge (pc := 970) (tgt := 1109) dL_law_970 (by decide) (fun c2 => ?_) (fun c2 => ?_)
  · replace h := ite_t c2 h
    refine LR.aload_n (pc := 1109) (j := 1) dL_law_1109 rfl rfl ?_
    refine LR.iload (pc := 1110) (j := 11) dL_law_1110 rfl ?_
    refine LR.aload_n (pc := 1112) (j := 2) dL_law_1112 rfl rfl ?_
    refine LR.bipush (pc := 1113) (v := 9) dL_law_1113 (by decide) ?_
    refine LR.iload (pc := 1115) (j := 11) dL_law_1115 rfl ?_
    refine LR.iadd (pc := 1117) dL_law_1117 ?_
    obtain ⟨c3, h⟩ := gn_some h
    refine LR.iaload (pc := 1118) (j := 0) dL_law_1118 rfl c3 ?_
    obtain ⟨r4, h4, h⟩ := bd_some h
    refine LR.callV (pc := 1119) (As := [.int x17, .int (a2 ((9 + x17) : Int32).toNatClampNeg)]) (st := []) (ci := 8) dL_law_1119 ⟨cd_X8_dry, im_X8_dry, se_X8_dry, ini_X8⟩ ml_L_104 (A8_dry x17 (a2 ((9 + x17) : Int32).toNatClampNeg) σ _ h4) rfl rfl ⟨rfl, pd_X8_dry⟩ ⟨Nat.le_of_ble_eq_true rfl, Nat.le_of_ble_eq_true rfl⟩ ⟨rfl, rfl⟩ rfl rfl rfl (Nat.le_of_ble_eq_true rfl) ?_
    refine LR.iconst (pc := 1122) (v := (-1)) dL_law_1122 (by decide) ?_
    refine LR.icmp_eq (pc := 1123) (tgt := 1128) dL_law_1123 (by decide) (fun c5 => ?_) (fun c5 => ?_)
    · replace h := ite_t c5 h
      refine LR.iinc (pc := 1128) (j := 11) (v := (x17 + 1)) (L2 := [(17, .int (x17 + 1)), (0, .ref q0), (1, .ref (ad 0)), (2, .ref q2), (3, .ref q3), (4, .int x4), (5, .int x5), (9, .int x9), (10, .int x10), (11, .ref q11), (12, .ref q12), (13, .ref q13), (28, .int x28)]) dL_law_1128 rfl rfl (by decide) rfl ?_
      refine LR.goto (pc := 1131) (tgt := 562) dL_law_1131 (by decide) ?_
      exact LR.pick [1, 2, 3, 4, 5, 6, 7, 8, 9, 10, 11, 0] rfl (hk562 ((x17 + 1), r4.2, g) r h)
    · replace h := ite_f c5 h
      refine LR.iconst (pc := 1126) (v := 0) dL_law_1126 (by decide) ?_
      exact LR.fin ⟨congrArg (fun z => [Value.int z]) (Option.some.inj h), dL_law_1127⟩
  · replace h := ite_f c2 h
    refine LR.iconst (pc := 973) (v := 0) dL_law_973 (by decide) ?_
    refine LR.istore (pc := 974) (L2 := [(29, .int 0), (0, .ref q0), (1, .ref (ad 0)), (2, .ref q2), (3, .ref q3), (4, .int x4), (5, .int x5), (9, .int x9), (10, .int x10), (11, .ref q11), (12, .ref q12), (13, .ref q13), (17, .int x17), (28, .int x28)]) dL_law_974 (by decide) rfl ?_
    refine LR.iconst (pc := 976) (v := 0) dL_law_976 (by decide) ?_
    refine LR.istore (pc := 977) (L2 := [(30, .int 0), (29, .int 0), (0, .ref q0), (1, .ref (ad 0)), (2, .ref q2), (3, .ref q3), (4, .int x4), (5, .int x5), (9, .int x9), (10, .int x10), (11, .ref q11), (12, .ref q12), (13, .ref q13), (17, .int x17), (28, .int x28)]) dL_law_977 (by decide) rfl ?_
    exact LR.pick [2, 3, 4, 5, 6, 7, 8, 9, 10, 11, 12, 13, 14, 1, 0] rfl (G_law_979 sL a0 k85 k562 k961 a2 a3 x4 x5 x9 x10 a11 a12 a13 x17 x28 σ hk85 hk562 hk961 (0, 0, g) r h)
theorem G_law_961 {l : Launch} {ad : Nat → Nat} {q0 : Nat} (sL : Nat) (a0 : Nat → Int32) (k85 : (Nat → Int32) × Int32 × HS × Nat → Option (Int32)) (k562 : Int32 × HS × Nat → Option (Int32)) {q2 : Nat} {q3 : Nat} {q11 : Nat} {q12 : Nat} {q13 : Nat} (a2 : Nat → Int32) (a3 : Nat → Int32) (x4 : Int32) (x5 : Int32) (x9 : Int32) (x10 : Int32) (a11 : Nat → Int32) (a12 : Nat → Int32) (a13 : Nat → Int32) (x17 : Int32) (hk85 : ∀ (p : (Nat → Int32) × Int32 × HS × Nat) (r : Int32), k85 p = some r → LR l code 45 ret lw_tbl room_1 47 5558 ad [(q0, sL, a0)] (EL r) 85 [(0, .ref q0), (1, .ref (ad 0)), (2, .ref q2), (3, .ref q3), (4, .int x4), (5, .int (p.2.1))] [] (p.2.2.1) [(q2, 44, p.1), (q3, 45, a3)] (p.2.2.2)) (hk562 : ∀ (p : Int32 × HS × Nat) (r : Int32), k562 p = some r → LR l code 45 ret lw_tbl room_1 47 5558 ad [(q0, sL, a0)] (EL r) 562 [(0, .ref q0), (1, .ref (ad 0)), (2, .ref q2), (3, .ref q3), (4, .int x4), (5, .int x5), (9, .int x9), (10, .int x10), (11, .ref q11), (12, .ref q12), (13, .ref q13), (17, .int (p.1))] [] (p.2.1) [(q2, 44, a2), (q3, 45, a3), (q11, 64, a11), (q12, 64, a12), (q13, 20, a13)] (p.2.2)) (p : Int32 × HS × Nat) (r : Int32) (h : g_law_961 sL a0 k85 k562 a2 a3 x4 x5 x9 x10 a11 a12 a13 x17 p = some r) : LR l code 45 ret lw_tbl room_1 47 5558 ad [(q0, sL, a0)] (EL r) 961 [(0, .ref q0), (1, .ref (ad 0)), (2, .ref q2), (3, .ref q3), (4, .int x4), (5, .int x5), (9, .int x9), (10, .int x10), (11, .ref q11), (12, .ref q12), (13, .ref q13), (17, .int x17), (28, .int (p.1))] [] (p.2.1) [(q2, 44, a2), (q3, 45, a3), (q11, 64, a11), (q12, 64, a12), (q13, 20, a13)] (p.2.2) := by
  unfold g_law_961 at h
  exact wloop_run (body := fun k961 p => g_law_961_b sL a0 k85 k562 k961 a2 a3 x4 x5 x9 x10 a11 a12 a13 x17 p.1 p.2.1 p.2.2) (Q := (fun p r => LR l code 45 ret lw_tbl room_1 47 5558 ad [(q0, sL, a0)] (EL r) 961 [(0, .ref q0), (1, .ref (ad 0)), (2, .ref q2), (3, .ref q3), (4, .int x4), (5, .int x5), (9, .int x9), (10, .int x10), (11, .ref q11), (12, .ref q12), (13, .ref q13), (17, .int x17), (28, .int (p.1))] [] (p.2.1) [(q2, 44, a2), (q3, 45, a3), (q11, 64, a11), (q12, 64, a12), (q13, 20, a13)] (p.2.2))) (fun k961 hk961 p r h => G_law_961_b sL a0 k85 k562 k961 a2 a3 x4 x5 x9 x10 a11 a12 a13 x17 p.1 p.2.1 p.2.2 hk85 hk562 hk961 r h) fuelN p r h
set_option maxHeartbeats 4000000 in
set_option maxRecDepth 100000 in
theorem G_law_850 {l : Launch} {ad : Nat → Nat} {q0 : Nat} (sL : Nat) (a0 : Nat → Int32) (k85 : (Nat → Int32) × Int32 × HS × Nat → Option (Int32)) (k562 : Int32 × HS × Nat → Option (Int32)) (k779 : Int32 × HS → Option (Int32)) {q2 : Nat} {q3 : Nat} {q11 : Nat} {q12 : Nat} {q13 : Nat} {q22 : Nat} {q23 : Nat} (a2 : Nat → Int32) (a3 : Nat → Int32) (x4 : Int32) (x5 : Int32) (x9 : Int32) (x10 : Int32) (a11 : Nat → Int32) (a12 : Nat → Int32) (a13 : Nat → Int32) (x17 : Int32) (x21 : Int32) (a22 : Nat → Int32) (a23 : Nat → Int32) (x24 : Int32) (x25 : Int64) (z0 : Int64) (σ : HS) (g : Nat) (hk85 : ∀ (p : (Nat → Int32) × Int32 × HS × Nat) (r : Int32), k85 p = some r → LR l code 45 ret lw_tbl room_1 47 5558 ad [(q0, sL, a0)] (EL r) 85 [(0, .ref q0), (1, .ref (ad 0)), (2, .ref q2), (3, .ref q3), (4, .int x4), (5, .int (p.2.1))] [] (p.2.2.1) [(q2, 44, p.1), (q3, 45, a3)] (p.2.2.2)) (hk562 : ∀ (p : Int32 × HS × Nat) (r : Int32), k562 p = some r → LR l code 45 ret lw_tbl room_1 47 5558 ad [(q0, sL, a0)] (EL r) 562 [(0, .ref q0), (1, .ref (ad 0)), (2, .ref q2), (3, .ref q3), (4, .int x4), (5, .int x5), (9, .int x9), (10, .int x10), (11, .ref q11), (12, .ref q12), (13, .ref q13), (17, .int (p.1))] [] (p.2.1) [(q2, 44, a2), (q3, 45, a3), (q11, 64, a11), (q12, 64, a12), (q13, 20, a13)] (p.2.2)) (hk779 : ∀ (p : Int32 × HS) (r : Int32), k779 p = some r → LR l code 45 ret lw_tbl room_1 47 5558 ad [(q0, sL, a0)] (EL r) 779 [(0, .ref q0), (1, .ref (ad 0)), (2, .ref q2), (3, .ref q3), (4, .int x4), (5, .int x5), (9, .int x9), (10, .int x10), (11, .ref q11), (12, .ref q12), (13, .ref q13), (17, .int x17), (21, .int x21), (22, .ref q22), (23, .ref q23), (24, .int (p.1))] [] (p.2) [(q2, 44, a2), (q3, 45, a3), (q11, 64, a11), (q12, 64, a12), (q13, 20, a13), (q22, 20, a22), (q23, 20, a23)] g) (r : Int32) (h : g_law_850 sL a0 k85 k562 k779 a2 a3 x4 x5 x9 x10 a11 a12 a13 x17 x21 a22 a23 x24 x25 z0 σ g = some r) : LR l code 45 ret lw_tbl room_1 47 5558 ad [(q0, sL, a0)] (EL r) 850 [(0, .ref q0), (1, .ref (ad 0)), (2, .ref q2), (3, .ref q3), (4, .int x4), (5, .int x5), (9, .int x9), (10, .int x10), (11, .ref q11), (12, .ref q12), (13, .ref q13), (17, .int x17), (21, .int x21), (22, .ref q22), (23, .ref q23), (24, .int x24), (25, .long x25)] [.long z0] σ [(q2, 44, a2), (q3, 45, a3), (q11, 64, a11), (q12, 64, a12), (q13, 20, a13), (q22, 20, a22), (q23, 20, a23)] g := by
  unfold g_law_850 at h
  refine LR.lstore (pc := 850) (L2 := [(27, .long z0), (0, .ref q0), (1, .ref (ad 0)), (2, .ref q2), (3, .ref q3), (4, .int x4), (5, .int x5), (9, .int x9), (10, .int x10), (11, .ref q11), (12, .ref q12), (13, .ref q13), (17, .int x17), (21, .int x21), (22, .ref q22), (23, .ref q23), (24, .int x24), (25, .long x25)]) dL_law_850 (by decide) rfl ?_
  refine LR.aload_n (pc := 852) (j := 2) dL_law_852 rfl rfl ?_
  refine LR.iload (pc := 853) (j := 12) dL_law_853 rfl ?_
  refine LR.iload (pc := 855) (j := 16) dL_law_855 rfl ?_
  obtain ⟨r1, h1, h⟩ := bd_some h
  refine LR.callV (pc := 857) (As := [.int x17, .int x24]) (st := []) (ci := 8) dL_law_857 ⟨cd_X8_owed, im_X8_owed, se_X8_owed, ini_X8⟩ ml_L_90 (A8_owed x17 x24 σ _ h1) rfl rfl ⟨rfl, pd_X8_owed⟩ ⟨Nat.le_of_ble_eq_true rfl, Nat.le_of_ble_eq_true rfl⟩ ⟨rfl, rfl⟩ rfl rfl rfl (Nat.le_of_ble_eq_true rfl) ?_
  refine LR.lload (pc := 860) (j := 17) dL_law_860 rfl ?_
  refine LR.lcmp (pc := 862) dL_law_862 ?_
  refine LR.if_ne (pc := 863) (tgt := 880) dL_law_863 (by decide) (fun c2 => ?_) (fun c2 => ?_)
  · replace h := ite_f (lg_ne.mp c2) h
    refine LR.iconst (pc := 880) (v := 0) dL_law_880 (by decide) ?_
    exact LR.fin ⟨congrArg (fun z => [Value.int z]) (Option.some.inj h), dL_law_881⟩
  · replace h := ite_t (lg_ne_n.mp c2) h
    refine LR.aload_n (pc := 866) (j := 2) dL_law_866 rfl rfl ?_
    refine LR.iload (pc := 867) (j := 12) dL_law_867 rfl ?_
    refine LR.iload (pc := 869) (j := 16) dL_law_869 rfl ?_
    obtain ⟨r3, h3, h⟩ := bd_some h
    refine LR.callV (pc := 871) (As := [.int x17, .int x24]) (st := []) (ci := 8) dL_law_871 ⟨cd_X8_bargain, im_X8_bargain, se_X8_bargain, ini_X8⟩ ml_L_94 (A8_bargain x17 x24 (r1.2) _ h3) rfl rfl ⟨rfl, pd_X8_bargain⟩ ⟨Nat.le_of_ble_eq_true rfl, Nat.le_of_ble_eq_true rfl⟩ ⟨rfl, rfl⟩ rfl rfl rfl (Nat.le_of_ble_eq_true rfl) ?_
    refine LR.lload (pc := 874) (j := 0) dL_law_874 rfl ?_
    refine LR.lcmp (pc := 876) dL_law_876 ?_
    refine LR.if_eq (pc := 877) (tgt := 882) dL_law_877 (by decide) (fun c4 => ?_) (fun c4 => ?_)
    · replace h := ite_t (lg_eq.mp c4) h
      refine LR.iinc (pc := 882) (j := 16) (v := (x24 + 1)) (L2 := [(24, .int (x24 + 1)), (27, .long z0), (0, .ref q0), (1, .ref (ad 0)), (2, .ref q2), (3, .ref q3), (4, .int x4), (5, .int x5), (9, .int x9), (10, .int x10), (11, .ref q11), (12, .ref q12), (13, .ref q13), (17, .int x17), (21, .int x21), (22, .ref q22), (23, .ref q23), (25, .long x25)]) dL_law_882 rfl rfl (by decide) rfl ?_
      refine LR.goto (pc := 885) (tgt := 779) dL_law_885 (by decide) ?_
      exact LR.pick [2, 3, 4, 5, 6, 7, 8, 9, 10, 11, 12, 13, 14, 15, 16, 0] rfl (hk779 ((x24 + 1), r3.2) r h)
    · replace h := ite_f (lg_eq_n.mp c4) h
      refine LR.iconst (pc := 880) (v := 0) dL_law_880 (by decide) ?_
      exact LR.fin ⟨congrArg (fun z => [Value.int z]) (Option.some.inj h), dL_law_881⟩
set_option maxHeartbeats 4000000 in
set_option maxRecDepth 100000 in
theorem G_law_811 {l : Launch} {ad : Nat → Nat} {q0 : Nat} (sL : Nat) (a0 : Nat → Int32) (k85 : (Nat → Int32) × Int32 × HS × Nat → Option (Int32)) (k562 : Int32 × HS × Nat → Option (Int32)) (k779 : Int32 × HS → Option (Int32)) {q2 : Nat} {q3 : Nat} {q11 : Nat} {q12 : Nat} {q13 : Nat} {q22 : Nat} {q23 : Nat} (a2 : Nat → Int32) (a3 : Nat → Int32) (x4 : Int32) (x5 : Int32) (x9 : Int32) (x10 : Int32) (a11 : Nat → Int32) (a12 : Nat → Int32) (a13 : Nat → Int32) (x17 : Int32) (x21 : Int32) (a22 : Nat → Int32) (a23 : Nat → Int32) (x24 : Int32) (z0 : Int64) (σ : HS) (g : Nat) (hk85 : ∀ (p : (Nat → Int32) × Int32 × HS × Nat) (r : Int32), k85 p = some r → LR l code 45 ret lw_tbl room_1 47 5558 ad [(q0, sL, a0)] (EL r) 85 [(0, .ref q0), (1, .ref (ad 0)), (2, .ref q2), (3, .ref q3), (4, .int x4), (5, .int (p.2.1))] [] (p.2.2.1) [(q2, 44, p.1), (q3, 45, a3)] (p.2.2.2)) (hk562 : ∀ (p : Int32 × HS × Nat) (r : Int32), k562 p = some r → LR l code 45 ret lw_tbl room_1 47 5558 ad [(q0, sL, a0)] (EL r) 562 [(0, .ref q0), (1, .ref (ad 0)), (2, .ref q2), (3, .ref q3), (4, .int x4), (5, .int x5), (9, .int x9), (10, .int x10), (11, .ref q11), (12, .ref q12), (13, .ref q13), (17, .int (p.1))] [] (p.2.1) [(q2, 44, a2), (q3, 45, a3), (q11, 64, a11), (q12, 64, a12), (q13, 20, a13)] (p.2.2)) (hk779 : ∀ (p : Int32 × HS) (r : Int32), k779 p = some r → LR l code 45 ret lw_tbl room_1 47 5558 ad [(q0, sL, a0)] (EL r) 779 [(0, .ref q0), (1, .ref (ad 0)), (2, .ref q2), (3, .ref q3), (4, .int x4), (5, .int x5), (9, .int x9), (10, .int x10), (11, .ref q11), (12, .ref q12), (13, .ref q13), (17, .int x17), (21, .int x21), (22, .ref q22), (23, .ref q23), (24, .int (p.1))] [] (p.2) [(q2, 44, a2), (q3, 45, a3), (q11, 64, a11), (q12, 64, a12), (q13, 20, a13), (q22, 20, a22), (q23, 20, a23)] g) (r : Int32) (h : g_law_811 sL a0 k85 k562 k779 a2 a3 x4 x5 x9 x10 a11 a12 a13 x17 x21 a22 a23 x24 z0 σ g = some r) : LR l code 45 ret lw_tbl room_1 47 5558 ad [(q0, sL, a0)] (EL r) 811 [(0, .ref q0), (1, .ref (ad 0)), (2, .ref q2), (3, .ref q3), (4, .int x4), (5, .int x5), (9, .int x9), (10, .int x10), (11, .ref q11), (12, .ref q12), (13, .ref q13), (17, .int x17), (21, .int x21), (22, .ref q22), (23, .ref q23), (24, .int x24)] [.long z0] σ [(q2, 44, a2), (q3, 45, a3), (q11, 64, a11), (q12, 64, a12), (q13, 20, a13), (q22, 20, a22), (q23, 20, a23)] g := by
  unfold g_law_811 at h
  refine LR.lstore (pc := 811) (L2 := [(25, .long z0), (0, .ref q0), (1, .ref (ad 0)), (2, .ref q2), (3, .ref q3), (4, .int x4), (5, .int x5), (9, .int x9), (10, .int x10), (11, .ref q11), (12, .ref q12), (13, .ref q13), (17, .int x17), (21, .int x21), (22, .ref q22), (23, .ref q23), (24, .int x24)]) dL_law_811 (by decide) rfl ?_
  refine LR.iload (pc := 813) (j := 16) dL_law_813 rfl ?_
  refine LR.iload (pc := 815) (j := 12) dL_law_815 rfl ?_
  refine LR.icmp_ne (pc := 817) (tgt := 826) dL_law_817 (by decide) (fun c1 => ?_) (fun c1 => ?_)
  · replace h := ite_f c1 h
    refine LR.aload (pc := 826) (j := 14) dL_law_826 rfl ?_
    refine LR.iload (pc := 828) (j := 16) dL_law_828 rfl ?_
    obtain ⟨c2, h⟩ := gn_some h
    refine LR.iaload (pc := 830) (j := 5) dL_law_830 rfl c2 ?_
    refine LR.aload (pc := 831) (j := 14) dL_law_831 rfl ?_
    refine LR.iload (pc := 833) (j := 12) dL_law_833 rfl ?_
    obtain ⟨c3, h⟩ := gn_some h
    refine LR.iaload (pc := 835) (j := 5) dL_law_835 rfl c3 ?_
    refine LR.iadd (pc := 836) dL_law_836 ?_
    refine LR.aload (pc := 837) (j := 11) dL_law_837 rfl ?_
    refine LR.iload (pc := 839) (j := 16) dL_law_839 rfl ?_
    obtain ⟨c4, h⟩ := gn_some h
    refine LR.iaload (pc := 841) (j := 4) dL_law_841 rfl c4 ?_
    refine LR.isub (pc := 842) dL_law_842 ?_
    refine LR.aload (pc := 843) (j := 11) dL_law_843 rfl ?_
    refine LR.iload (pc := 845) (j := 12) dL_law_845 rfl ?_
    obtain ⟨c5, h⟩ := gn_some h
    refine LR.iaload (pc := 847) (j := 4) dL_law_847 rfl c5 ?_
    refine LR.isub (pc := 848) dL_law_848 ?_
    refine LR.i2l (pc := 849) dL_law_849 ?_
    exact LR.pick [1, 2, 3, 4, 5, 6, 7, 8, 9, 10, 11, 12, 13, 14, 15, 16, 0] rfl (G_law_850 sL a0 k85 k562 k779 a2 a3 x4 x5 x9 x10 a11 a12 a13 x17 x21 a22 a23 x24 z0 ((((((a22 (x24 : Int32).toNatClampNeg) + (a22 (x17 : Int32).toNatClampNeg)) - (a13 (x24 : Int32).toNatClampNeg)) - (a13 (x17 : Int32).toNatClampNeg)) : Int32).toInt64) σ g hk85 hk562 hk779 r h)
  · replace h := ite_t c1 h
    refine LR.ldc2 (pc := 820) (v := (-9223372036854775808)) dL_law_820 kl_L_88 ?_
    refine LR.goto (pc := 823) (tgt := 850) dL_law_823 (by decide) ?_
    exact LR.pick [1, 2, 3, 4, 5, 6, 7, 8, 9, 10, 11, 12, 13, 14, 15, 16, 0] rfl (G_law_850 sL a0 k85 k562 k779 a2 a3 x4 x5 x9 x10 a11 a12 a13 x17 x21 a22 a23 x24 z0 (-9223372036854775808) σ g hk85 hk562 hk779 r h)
set_option maxHeartbeats 4000000 in
set_option maxRecDepth 100000 in
theorem G_law_779_b {l : Launch} {ad : Nat → Nat} {q0 : Nat} (sL : Nat) (a0 : Nat → Int32) (k85 : (Nat → Int32) × Int32 × HS × Nat → Option (Int32)) (k562 : Int32 × HS × Nat → Option (Int32)) (k779 : Int32 × HS → Option (Int32)) {q2 : Nat} {q3 : Nat} {q11 : Nat} {q12 : Nat} {q13 : Nat} {q22 : Nat} {q23 : Nat} (a2 : Nat → Int32) (a3 : Nat → Int32) (x4 : Int32) (x5 : Int32) (x9 : Int32) (x10 : Int32) (a11 : Nat → Int32) (a12 : Nat → Int32) (a13 : Nat → Int32) (x17 : Int32) (x21 : Int32) (a22 : Nat → Int32) (a23 : Nat → Int32) (x24 : Int32) (σ : HS) (g : Nat) (hk85 : ∀ (p : (Nat → Int32) × Int32 × HS × Nat) (r : Int32), k85 p = some r → LR l code 45 ret lw_tbl room_1 47 5558 ad [(q0, sL, a0)] (EL r) 85 [(0, .ref q0), (1, .ref (ad 0)), (2, .ref q2), (3, .ref q3), (4, .int x4), (5, .int (p.2.1))] [] (p.2.2.1) [(q2, 44, p.1), (q3, 45, a3)] (p.2.2.2)) (hk562 : ∀ (p : Int32 × HS × Nat) (r : Int32), k562 p = some r → LR l code 45 ret lw_tbl room_1 47 5558 ad [(q0, sL, a0)] (EL r) 562 [(0, .ref q0), (1, .ref (ad 0)), (2, .ref q2), (3, .ref q3), (4, .int x4), (5, .int x5), (9, .int x9), (10, .int x10), (11, .ref q11), (12, .ref q12), (13, .ref q13), (17, .int (p.1))] [] (p.2.1) [(q2, 44, a2), (q3, 45, a3), (q11, 64, a11), (q12, 64, a12), (q13, 20, a13)] (p.2.2)) (hk779 : ∀ (p : Int32 × HS) (r : Int32), k779 p = some r → LR l code 45 ret lw_tbl room_1 47 5558 ad [(q0, sL, a0)] (EL r) 779 [(0, .ref q0), (1, .ref (ad 0)), (2, .ref q2), (3, .ref q3), (4, .int x4), (5, .int x5), (9, .int x9), (10, .int x10), (11, .ref q11), (12, .ref q12), (13, .ref q13), (17, .int x17), (21, .int x21), (22, .ref q22), (23, .ref q23), (24, .int (p.1))] [] (p.2) [(q2, 44, a2), (q3, 45, a3), (q11, 64, a11), (q12, 64, a12), (q13, 20, a13), (q22, 20, a22), (q23, 20, a23)] g) (r : Int32) (h : g_law_779_b sL a0 k85 k562 k779 a2 a3 x4 x5 x9 x10 a11 a12 a13 x17 x21 a22 a23 x24 σ g = some r) : LR l code 45 ret lw_tbl room_1 47 5558 ad [(q0, sL, a0)] (EL r) 779 [(0, .ref q0), (1, .ref (ad 0)), (2, .ref q2), (3, .ref q3), (4, .int x4), (5, .int x5), (9, .int x9), (10, .int x10), (11, .ref q11), (12, .ref q12), (13, .ref q13), (17, .int x17), (21, .int x21), (22, .ref q22), (23, .ref q23), (24, .int x24)] [] σ [(q2, 44, a2), (q3, 45, a3), (q11, 64, a11), (q12, 64, a12), (q13, 20, a13), (q22, 20, a22), (q23, 20, a23)] g := by
  unfold g_law_779_b at h
  refine LR.iload (pc := 779) (j := 15) dL_law_779 rfl ?_
  refine LR.iload (pc := 781) (j := 4) dL_law_781 rfl ?_
  refine LR.icmp_ge (pc := 783) (tgt := 888) dL_law_783 (by decide) (fun c1 => ?_) (fun c1 => ?_)
  · replace h := ite_t c1 h
    refine LR.aload_n (pc := 888) (j := 1) dL_law_888 rfl rfl ?_
    refine LR.iload (pc := 889) (j := 11) dL_law_889 rfl ?_
    refine LR.iconst (pc := 891) (v := 0) dL_law_891 (by decide) ?_
    obtain ⟨r2, h2, h⟩ := bd_some h
    refine LR.callV (pc := 892) (As := [.int x17, .int 0]) (st := []) (ci := 8) dL_law_892 ⟨cd_X8_share, im_X8_share, se_X8_share, ini_X8⟩ ml_L_97 (A8_share x17 0 σ _ h2) rfl rfl ⟨rfl, pd_X8_share⟩ ⟨Nat.le_of_ble_eq_true rfl, Nat.le_of_ble_eq_true rfl⟩ ⟨rfl, rfl⟩ rfl rfl rfl (Nat.le_of_ble_eq_true rfl) ?_
    refine LR.lstore (pc := 895) (L2 := [(24, .long (r2.1)), (0, .ref q0), (1, .ref (ad 0)), (2, .ref q2), (3, .ref q3), (4, .int x4), (5, .int x5), (9, .int x9), (10, .int x10), (11, .ref q11), (12, .ref q12), (13, .ref q13), (17, .int x17), (21, .int x21), (22, .ref q22), (23, .ref q23)]) dL_law_895 (by decide) rfl ?_
    refine LR.aload_n (pc := 897) (j := 2) dL_law_897 rfl rfl ?_
    refine LR.iload (pc := 898) (j := 12) dL_law_898 rfl ?_
    refine LR.iconst (pc := 900) (v := 1) dL_law_900 (by decide) ?_
    obtain ⟨r3, h3, h⟩ := bd_some h
    refine LR.callV (pc := 901) (As := [.int x17, .int 1]) (st := []) (ci := 8) dL_law_901 ⟨cd_X8_share, im_X8_share, se_X8_share, ini_X8⟩ ml_L_97 (A8_share x17 1 (r2.2) _ h3) rfl rfl ⟨rfl, pd_X8_share⟩ ⟨Nat.le_of_ble_eq_true rfl, Nat.le_of_ble_eq_true rfl⟩ ⟨rfl, rfl⟩ rfl rfl rfl (Nat.le_of_ble_eq_true rfl) ?_
    refine LR.lstore (pc := 904) (L2 := [(26, .long (r3.1)), (24, .long (r2.1)), (0, .ref q0), (1, .ref (ad 0)), (2, .ref q2), (3, .ref q3), (4, .int x4), (5, .int x5), (9, .int x9), (10, .int x10), (11, .ref q11), (12, .ref q12), (13, .ref q13), (17, .int x17), (21, .int x21), (22, .ref q22), (23, .ref q23)]) dL_law_904 (by decide) rfl ?_
    refine LR.lload (pc := 906) (j := 0) dL_law_906 rfl ?_
    refine LR.lconst (pc := 908) (v := 1) dL_law_908 (by decide) ?_
    refine LR.lcmp (pc := 909) dL_law_909 ?_
    refine LR.if_lt (pc := 910) (tgt := 956) dL_law_910 (by decide) (fun c4 => ?_) (fun c4 => ?_)
    · replace h := ite_t (lg_lt.mp c4) h
      refine LR.iconst (pc := 956) (v := 0) dL_law_956 (by decide) ?_
      exact LR.fin ⟨congrArg (fun z => [Value.int z]) (Option.some.inj h), dL_law_957⟩
    · replace h := ite_f (lg_lt_n.mp c4) h
      refine LR.aload_n (pc := 913) (j := 4) dL_law_913 rfl rfl ?_
      refine LR.iconst (pc := 914) (v := 1) dL_law_914 (by decide) ?_
      refine LR.iaload (pc := 915) (j := 0) dL_law_915 rfl (by decide) ?_
      refine LR.i2l (pc := 916) dL_law_916 ?_
      refine LR.lload (pc := 917) (j := 0) dL_law_917 rfl ?_
      obtain ⟨c5, h⟩ := gn_some h
      refine LR.lrem (pc := 919) dL_law_919 c5 ?_
      refine LR.lconst (pc := 920) (v := 0) dL_law_920 (by decide) ?_
      refine LR.lcmp (pc := 921) dL_law_921 ?_
      refine LR.if_ne (pc := 922) (tgt := 956) dL_law_922 (by decide) (fun c6 => ?_) (fun c6 => ?_)
      · replace h := ite_f (lg_ne.mp c6) h
        refine LR.iconst (pc := 956) (v := 0) dL_law_956 (by decide) ?_
        exact LR.fin ⟨congrArg (fun z => [Value.int z]) (Option.some.inj h), dL_law_957⟩
      · replace h := ite_t (lg_ne_n.mp c6) h
        refine LR.lload (pc := 925) (j := 1) dL_law_925 rfl ?_
        refine LR.aload_n (pc := 927) (j := 4) dL_law_927 rfl rfl ?_
        refine LR.iconst (pc := 928) (v := 1) dL_law_928 (by decide) ?_
        refine LR.iaload (pc := 929) (j := 0) dL_law_929 rfl (by decide) ?_
        refine LR.i2l (pc := 930) dL_law_930 ?_
        refine LR.lload (pc := 931) (j := 0) dL_law_931 rfl ?_
        obtain ⟨c7, h⟩ := gn_some h
        refine LR.ldiv (pc := 933) dL_law_933 c7 ?_
        refine LR.lmul (pc := 934) dL_law_934 ?_
        refine LR.iload (pc := 935) (j := 14) dL_law_935 rfl ?_
        refine LR.i2l (pc := 937) dL_law_937 ?_
        refine LR.lcmp (pc := 938) dL_law_938 ?_
        refine LR.if_ne (pc := 939) (tgt := 956) dL_law_939 (by decide) (fun c8 => ?_) (fun c8 => ?_)
        · replace h := ite_f (lg_ne.mp c8) h
          refine LR.iconst (pc := 956) (v := 0) dL_law_956 (by decide) ?_
          exact LR.fin ⟨congrArg (fun z => [Value.int z]) (Option.some.inj h), dL_law_957⟩
        · replace h := ite_t (lg_ne_n.mp c8) h
          refine LR.aload_n (pc := 942) (j := 3) dL_law_942 rfl rfl ?_
          refine LR.iload (pc := 943) (j := 13) dL_law_943 rfl ?_
          refine LR.iconst (pc := 945) (v := 2) dL_law_945 (by decide) ?_
          obtain ⟨r9, h9, h⟩ := bd_some h
          refine LR.callV (pc := 946) (As := [.int x17, .int 2]) (st := []) (ci := 8) dL_law_946 ⟨cd_X8_share, im_X8_share, se_X8_share, ini_X8⟩ ml_L_97 (A8_share x17 2 (r3.2) _ h9) rfl rfl ⟨rfl, pd_X8_share⟩ ⟨Nat.le_of_ble_eq_true rfl, Nat.le_of_ble_eq_true rfl⟩ ⟨rfl, rfl⟩ rfl rfl rfl (Nat.le_of_ble_eq_true rfl) ?_
          refine LR.ldc2 (pc := 949) (v := (-9223372036854775808)) dL_law_949 kl_L_88 ?_
          refine LR.lcmp (pc := 952) dL_law_952 ?_
          refine LR.if_eq (pc := 953) (tgt := 958) dL_law_953 (by decide) (fun c10 => ?_) (fun c10 => ?_)
          · replace h := ite_t (lg_eq.mp c10) h
            refine LR.iconst (pc := 958) (v := 0) dL_law_958 (by decide) ?_
            refine LR.istore (pc := 959) (L2 := [(28, .int 0), (26, .long (r3.1)), (24, .long (r2.1)), (0, .ref q0), (1, .ref (ad 0)), (2, .ref q2), (3, .ref q3), (4, .int x4), (5, .int x5), (9, .int x9), (10, .int x10), (11, .ref q11), (12, .ref q12), (13, .ref q13), (17, .int x17), (21, .int x21), (22, .ref q22), (23, .ref q23)]) dL_law_959 (by decide) rfl ?_
            exact LR.pick [3, 4, 5, 6, 7, 8, 9, 10, 11, 12, 13, 14, 0] rfl (LR.sub (as2 := [(q2, 44, a2), (q3, 45, a3), (q11, 64, a11), (q12, 64, a12), (q13, 20, a13)]) [0, 1, 2, 3, 4] rfl rfl (G_law_961 sL a0 k85 k562 a2 a3 x4 x5 x9 x10 a11 a12 a13 x17 hk85 hk562 (0, r9.2, g) r h))
          · replace h := ite_f (lg_eq_n.mp c10) h
            refine LR.iconst (pc := 956) (v := 0) dL_law_956 (by decide) ?_
            exact LR.fin ⟨congrArg (fun z => [Value.int z]) (Option.some.inj h), dL_law_957⟩
  · replace h := ite_f c1 h
    refine LR.iload (pc := 786) (j := 15) dL_law_786 rfl ?_
    refine LR.iload (pc := 788) (j := 11) dL_law_788 rfl ?_
    refine LR.icmp_ne (pc := 790) (tgt := 799) dL_law_790 (by decide) (fun c11 => ?_) (fun c11 => ?_)
    · replace h := ite_f c11 h
      refine LR.aload (pc := 799) (j := 13) dL_law_799 rfl ?_
      refine LR.iload (pc := 801) (j := 15) dL_law_801 rfl ?_
      obtain ⟨c12, h⟩ := gn_some h
      refine LR.iaload (pc := 803) (j := 5) dL_law_803 rfl c12 ?_
      refine LR.aload (pc := 804) (j := 14) dL_law_804 rfl ?_
      refine LR.iload (pc := 806) (j := 15) dL_law_806 rfl ?_
      obtain ⟨c13, h⟩ := gn_some h
      refine LR.iaload (pc := 808) (j := 6) dL_law_808 rfl c13 ?_
      refine LR.isub (pc := 809) dL_law_809 ?_
      refine LR.i2l (pc := 810) dL_law_810 ?_
      exact LR.pick [0, 1, 2, 3, 4, 5, 6, 7, 8, 9, 10, 11, 12, 13, 14, 15] rfl (G_law_811 sL a0 k85 k562 k779 a2 a3 x4 x5 x9 x10 a11 a12 a13 x17 x21 a22 a23 x24 ((((a22 (x24 : Int32).toNatClampNeg) - (a23 (x24 : Int32).toNatClampNeg)) : Int32).toInt64) σ g hk85 hk562 hk779 r h)
    · replace h := ite_t c11 h
      refine LR.ldc2 (pc := 793) (v := (-9223372036854775808)) dL_law_793 kl_L_88 ?_
      refine LR.goto (pc := 796) (tgt := 811) dL_law_796 (by decide) ?_
      exact LR.pick [0, 1, 2, 3, 4, 5, 6, 7, 8, 9, 10, 11, 12, 13, 14, 15] rfl (G_law_811 sL a0 k85 k562 k779 a2 a3 x4 x5 x9 x10 a11 a12 a13 x17 x21 a22 a23 x24 (-9223372036854775808) σ g hk85 hk562 hk779 r h)
theorem G_law_779 {l : Launch} {ad : Nat → Nat} {q0 : Nat} (sL : Nat) (a0 : Nat → Int32) (k85 : (Nat → Int32) × Int32 × HS × Nat → Option (Int32)) (k562 : Int32 × HS × Nat → Option (Int32)) {q2 : Nat} {q3 : Nat} {q11 : Nat} {q12 : Nat} {q13 : Nat} {q22 : Nat} {q23 : Nat} (a2 : Nat → Int32) (a3 : Nat → Int32) (x4 : Int32) (x5 : Int32) (x9 : Int32) (x10 : Int32) (a11 : Nat → Int32) (a12 : Nat → Int32) (a13 : Nat → Int32) (x17 : Int32) (x21 : Int32) (a22 : Nat → Int32) (a23 : Nat → Int32) (g : Nat) (hk85 : ∀ (p : (Nat → Int32) × Int32 × HS × Nat) (r : Int32), k85 p = some r → LR l code 45 ret lw_tbl room_1 47 5558 ad [(q0, sL, a0)] (EL r) 85 [(0, .ref q0), (1, .ref (ad 0)), (2, .ref q2), (3, .ref q3), (4, .int x4), (5, .int (p.2.1))] [] (p.2.2.1) [(q2, 44, p.1), (q3, 45, a3)] (p.2.2.2)) (hk562 : ∀ (p : Int32 × HS × Nat) (r : Int32), k562 p = some r → LR l code 45 ret lw_tbl room_1 47 5558 ad [(q0, sL, a0)] (EL r) 562 [(0, .ref q0), (1, .ref (ad 0)), (2, .ref q2), (3, .ref q3), (4, .int x4), (5, .int x5), (9, .int x9), (10, .int x10), (11, .ref q11), (12, .ref q12), (13, .ref q13), (17, .int (p.1))] [] (p.2.1) [(q2, 44, a2), (q3, 45, a3), (q11, 64, a11), (q12, 64, a12), (q13, 20, a13)] (p.2.2)) (p : Int32 × HS) (r : Int32) (h : g_law_779 sL a0 k85 k562 a2 a3 x4 x5 x9 x10 a11 a12 a13 x17 x21 a22 a23 g p = some r) : LR l code 45 ret lw_tbl room_1 47 5558 ad [(q0, sL, a0)] (EL r) 779 [(0, .ref q0), (1, .ref (ad 0)), (2, .ref q2), (3, .ref q3), (4, .int x4), (5, .int x5), (9, .int x9), (10, .int x10), (11, .ref q11), (12, .ref q12), (13, .ref q13), (17, .int x17), (21, .int x21), (22, .ref q22), (23, .ref q23), (24, .int (p.1))] [] (p.2) [(q2, 44, a2), (q3, 45, a3), (q11, 64, a11), (q12, 64, a12), (q13, 20, a13), (q22, 20, a22), (q23, 20, a23)] g := by
  unfold g_law_779 at h
  exact wloop_run (body := fun k779 p => g_law_779_b sL a0 k85 k562 k779 a2 a3 x4 x5 x9 x10 a11 a12 a13 x17 x21 a22 a23 p.1 p.2 g) (Q := (fun p r => LR l code 45 ret lw_tbl room_1 47 5558 ad [(q0, sL, a0)] (EL r) 779 [(0, .ref q0), (1, .ref (ad 0)), (2, .ref q2), (3, .ref q3), (4, .int x4), (5, .int x5), (9, .int x9), (10, .int x10), (11, .ref q11), (12, .ref q12), (13, .ref q13), (17, .int x17), (21, .int x21), (22, .ref q22), (23, .ref q23), (24, .int (p.1))] [] (p.2) [(q2, 44, a2), (q3, 45, a3), (q11, 64, a11), (q12, 64, a12), (q13, 20, a13), (q22, 20, a22), (q23, 20, a23)] g)) (fun k779 hk779 p r h => G_law_779_b sL a0 k85 k562 k779 a2 a3 x4 x5 x9 x10 a11 a12 a13 x17 x21 a22 a23 p.1 p.2 g hk85 hk562 hk779 r h) fuelN p r h
set_option maxHeartbeats 4000000 in
set_option maxRecDepth 100000 in
theorem G_law_737 {l : Launch} {ad : Nat → Nat} {q0 : Nat} (sL : Nat) (a0 : Nat → Int32) (k85 : (Nat → Int32) × Int32 × HS × Nat → Option (Int32)) (k562 : Int32 × HS × Nat → Option (Int32)) (k684 : Int32 × Int32 → Option (Int32)) {q2 : Nat} {q3 : Nat} {q11 : Nat} {q12 : Nat} {q13 : Nat} (a2 : Nat → Int32) (a3 : Nat → Int32) (x4 : Int32) (x5 : Int32) (x9 : Int32) (x10 : Int32) (a11 : Nat → Int32) (a12 : Nat → Int32) (a13 : Nat → Int32) (x17 : Int32) (x18 : Int32) (x20 : Int32) (x22 : Int32) (z0 : Int32) (z1 : Int32) (σ : HS) (g : Nat) (hk85 : ∀ (p : (Nat → Int32) × Int32 × HS × Nat) (r : Int32), k85 p = some r → LR l code 45 ret lw_tbl room_1 47 5558 ad [(q0, sL, a0)] (EL r) 85 [(0, .ref q0), (1, .ref (ad 0)), (2, .ref q2), (3, .ref q3), (4, .int x4), (5, .int (p.2.1))] [] (p.2.2.1) [(q2, 44, p.1), (q3, 45, a3)] (p.2.2.2)) (hk562 : ∀ (p : Int32 × HS × Nat) (r : Int32), k562 p = some r → LR l code 45 ret lw_tbl room_1 47 5558 ad [(q0, sL, a0)] (EL r) 562 [(0, .ref q0), (1, .ref (ad 0)), (2, .ref q2), (3, .ref q3), (4, .int x4), (5, .int x5), (9, .int x9), (10, .int x10), (11, .ref q11), (12, .ref q12), (13, .ref q13), (17, .int (p.1))] [] (p.2.1) [(q2, 44, a2), (q3, 45, a3), (q11, 64, a11), (q12, 64, a12), (q13, 20, a13)] (p.2.2)) (hk684 : ∀ (p : Int32 × Int32) (r : Int32), k684 p = some r → LR l code 45 ret lw_tbl room_1 47 5558 ad [(q0, sL, a0)] (EL r) 684 [(0, .ref q0), (1, .ref (ad 0)), (2, .ref q2), (3, .ref q3), (4, .int x4), (5, .int x5), (9, .int x9), (10, .int x10), (11, .ref q11), (12, .ref q12), (13, .ref q13), (17, .int x17), (18, .int x18), (20, .int x20), (21, .int (p.1)), (22, .int (p.2))] [] σ [(q2, 44, a2), (q3, 45, a3), (q11, 64, a11), (q12, 64, a12), (q13, 20, a13)] g) (r : Int32) (h : g_law_737 sL a0 k85 k562 k684 a2 a3 x4 x5 x9 x10 a11 a12 a13 x17 x18 x20 x22 z0 z1 σ g = some r) : LR l code 45 ret lw_tbl room_1 47 5558 ad [(q0, sL, a0)] (EL r) 737 [(0, .ref q0), (1, .ref (ad 0)), (2, .ref q2), (3, .ref q3), (4, .int x4), (5, .int x5), (9, .int x9), (10, .int x10), (11, .ref q11), (12, .ref q12), (13, .ref q13), (17, .int x17), (18, .int x18), (20, .int x20), (22, .int x22)] [.int z0, .int z1] σ [(q2, 44, a2), (q3, 45, a3), (q11, 64, a11), (q12, 64, a12), (q13, 20, a13)] g := by
  unfold g_law_737 at h
  refine LR.iadd (pc := 737) dL_law_737 ?_
  refine LR.istore (pc := 738) (L2 := [(21, .int (z1 + z0)), (0, .ref q0), (1, .ref (ad 0)), (2, .ref q2), (3, .ref q3), (4, .int x4), (5, .int x5), (9, .int x9), (10, .int x10), (11, .ref q11), (12, .ref q12), (13, .ref q13), (17, .int x17), (18, .int x18), (20, .int x20), (22, .int x22)]) dL_law_738 (by decide) rfl ?_
  refine LR.iinc (pc := 740) (j := 15) (v := (x22 + 1)) (L2 := [(22, .int (x22 + 1)), (21, .int (z1 + z0)), (0, .ref q0), (1, .ref (ad 0)), (2, .ref q2), (3, .ref q3), (4, .int x4), (5, .int x5), (9, .int x9), (10, .int x10), (11, .ref q11), (12, .ref q12), (13, .ref q13), (17, .int x17), (18, .int x18), (20, .int x20)]) dL_law_740 rfl rfl (by decide) rfl ?_
  refine LR.goto (pc := 743) (tgt := 684) dL_law_743 (by decide) ?_
  exact LR.pick [2, 3, 4, 5, 6, 7, 8, 9, 10, 11, 12, 13, 14, 15, 1, 0] rfl (hk684 ((z1 + z0), (x22 + 1)) r h)
set_option maxHeartbeats 4000000 in
set_option maxRecDepth 100000 in
theorem G_law_736 {l : Launch} {ad : Nat → Nat} {q0 : Nat} (sL : Nat) (a0 : Nat → Int32) (k85 : (Nat → Int32) × Int32 × HS × Nat → Option (Int32)) (k562 : Int32 × HS × Nat → Option (Int32)) (k684 : Int32 × Int32 → Option (Int32)) {q2 : Nat} {q3 : Nat} {q11 : Nat} {q12 : Nat} {q13 : Nat} (a2 : Nat → Int32) (a3 : Nat → Int32) (x4 : Int32) (x5 : Int32) (x9 : Int32) (x10 : Int32) (a11 : Nat → Int32) (a12 : Nat → Int32) (a13 : Nat → Int32) (x17 : Int32) (x18 : Int32) (x20 : Int32) (x22 : Int32) (z0 : Int32) (σ : HS) (g : Nat) (hk85 : ∀ (p : (Nat → Int32) × Int32 × HS × Nat) (r : Int32), k85 p = some r → LR l code 45 ret lw_tbl room_1 47 5558 ad [(q0, sL, a0)] (EL r) 85 [(0, .ref q0), (1, .ref (ad 0)), (2, .ref q2), (3, .ref q3), (4, .int x4), (5, .int (p.2.1))] [] (p.2.2.1) [(q2, 44, p.1), (q3, 45, a3)] (p.2.2.2)) (hk562 : ∀ (p : Int32 × HS × Nat) (r : Int32), k562 p = some r → LR l code 45 ret lw_tbl room_1 47 5558 ad [(q0, sL, a0)] (EL r) 562 [(0, .ref q0), (1, .ref (ad 0)), (2, .ref q2), (3, .ref q3), (4, .int x4), (5, .int x5), (9, .int x9), (10, .int x10), (11, .ref q11), (12, .ref q12), (13, .ref q13), (17, .int (p.1))] [] (p.2.1) [(q2, 44, a2), (q3, 45, a3), (q11, 64, a11), (q12, 64, a12), (q13, 20, a13)] (p.2.2)) (hk684 : ∀ (p : Int32 × Int32) (r : Int32), k684 p = some r → LR l code 45 ret lw_tbl room_1 47 5558 ad [(q0, sL, a0)] (EL r) 684 [(0, .ref q0), (1, .ref (ad 0)), (2, .ref q2), (3, .ref q3), (4, .int x4), (5, .int x5), (9, .int x9), (10, .int x10), (11, .ref q11), (12, .ref q12), (13, .ref q13), (17, .int x17), (18, .int x18), (20, .int x20), (21, .int (p.1)), (22, .int (p.2))] [] σ [(q2, 44, a2), (q3, 45, a3), (q11, 64, a11), (q12, 64, a12), (q13, 20, a13)] g) (r : Int32) (h : g_law_736 sL a0 k85 k562 k684 a2 a3 x4 x5 x9 x10 a11 a12 a13 x17 x18 x20 x22 z0 σ g = some r) : LR l code 45 ret lw_tbl room_1 47 5558 ad [(q0, sL, a0)] (EL r) 736 [(0, .ref q0), (1, .ref (ad 0)), (2, .ref q2), (3, .ref q3), (4, .int x4), (5, .int x5), (9, .int x9), (10, .int x10), (11, .ref q11), (12, .ref q12), (13, .ref q13), (17, .int x17), (18, .int x18), (20, .int x20), (22, .int x22)] [.int z0] σ [(q2, 44, a2), (q3, 45, a3), (q11, 64, a11), (q12, 64, a12), (q13, 20, a13)] g := by
  unfold g_law_736 at h
  refine LR.iconst (pc := 736) (v := 0) dL_law_736 (by decide) ?_
  exact LR.pick [0, 1, 2, 3, 4, 5, 6, 7, 8, 9, 10, 11, 12, 13, 14] rfl (G_law_737 sL a0 k85 k562 k684 a2 a3 x4 x5 x9 x10 a11 a12 a13 x17 x18 x20 x22 0 z0 σ g hk85 hk562 hk684 r h)
set_option maxHeartbeats 4000000 in
set_option maxRecDepth 100000 in
theorem G_law_684_b {l : Launch} {ad : Nat → Nat} {q0 : Nat} (sL : Nat) (a0 : Nat → Int32) (k85 : (Nat → Int32) × Int32 × HS × Nat → Option (Int32)) (k562 : Int32 × HS × Nat → Option (Int32)) (k684 : Int32 × Int32 → Option (Int32)) {q2 : Nat} {q3 : Nat} {q11 : Nat} {q12 : Nat} {q13 : Nat} (a2 : Nat → Int32) (a3 : Nat → Int32) (x4 : Int32) (x5 : Int32) (x9 : Int32) (x10 : Int32) (a11 : Nat → Int32) (a12 : Nat → Int32) (a13 : Nat → Int32) (x17 : Int32) (x18 : Int32) (x20 : Int32) (x21 : Int32) (x22 : Int32) (σ : HS) (g : Nat) (hk85 : ∀ (p : (Nat → Int32) × Int32 × HS × Nat) (r : Int32), k85 p = some r → LR l code 45 ret lw_tbl room_1 47 5558 ad [(q0, sL, a0)] (EL r) 85 [(0, .ref q0), (1, .ref (ad 0)), (2, .ref q2), (3, .ref q3), (4, .int x4), (5, .int (p.2.1))] [] (p.2.2.1) [(q2, 44, p.1), (q3, 45, a3)] (p.2.2.2)) (hk562 : ∀ (p : Int32 × HS × Nat) (r : Int32), k562 p = some r → LR l code 45 ret lw_tbl room_1 47 5558 ad [(q0, sL, a0)] (EL r) 562 [(0, .ref q0), (1, .ref (ad 0)), (2, .ref q2), (3, .ref q3), (4, .int x4), (5, .int x5), (9, .int x9), (10, .int x10), (11, .ref q11), (12, .ref q12), (13, .ref q13), (17, .int (p.1))] [] (p.2.1) [(q2, 44, a2), (q3, 45, a3), (q11, 64, a11), (q12, 64, a12), (q13, 20, a13)] (p.2.2)) (hk684 : ∀ (p : Int32 × Int32) (r : Int32), k684 p = some r → LR l code 45 ret lw_tbl room_1 47 5558 ad [(q0, sL, a0)] (EL r) 684 [(0, .ref q0), (1, .ref (ad 0)), (2, .ref q2), (3, .ref q3), (4, .int x4), (5, .int x5), (9, .int x9), (10, .int x10), (11, .ref q11), (12, .ref q12), (13, .ref q13), (17, .int x17), (18, .int x18), (20, .int x20), (21, .int (p.1)), (22, .int (p.2))] [] σ [(q2, 44, a2), (q3, 45, a3), (q11, 64, a11), (q12, 64, a12), (q13, 20, a13)] g) (r : Int32) (h : g_law_684_b sL a0 k85 k562 k684 a2 a3 x4 x5 x9 x10 a11 a12 a13 x17 x18 x20 x21 x22 σ g = some r) : LR l code 45 ret lw_tbl room_1 47 5558 ad [(q0, sL, a0)] (EL r) 684 [(0, .ref q0), (1, .ref (ad 0)), (2, .ref q2), (3, .ref q3), (4, .int x4), (5, .int x5), (9, .int x9), (10, .int x10), (11, .ref q11), (12, .ref q12), (13, .ref q13), (17, .int x17), (18, .int x18), (20, .int x20), (21, .int x21), (22, .int x22)] [] σ [(q2, 44, a2), (q3, 45, a3), (q11, 64, a11), (q12, 64, a12), (q13, 20, a13)] g := by
  unfold g_law_684_b at h
  refine LR.iload (pc := 684) (j := 15) dL_law_684 rfl ?_
  refine LR.iload (pc := 686) (j := 7) dL_law_686 rfl ?_
  refine LR.icmp_ge (pc := 688) (tgt := 746) dL_law_688 (by decide) (fun c1 => ?_) (fun c1 => ?_)
  · replace h := ite_t c1 h
    refine LR.aload_n (pc := 746) (j := 2) dL_law_746 rfl rfl ?_
    refine LR.aload_n (pc := 747) (j := 3) dL_law_747 rfl rfl ?_
    refine LR.aload (pc := 748) (j := 8) dL_law_748 rfl ?_
    refine LR.aload (pc := 750) (j := 9) dL_law_750 rfl ?_
    refine LR.iload (pc := 752) (j := 12) dL_law_752 rfl ?_
    refine LR.bipush (pc := 754) (v := (-9)) dL_law_754 (by decide) ?_
    obtain ⟨r2, h2, h⟩ := bd_some h
    obtain ⟨c3, h⟩ := gn_some h
    refine LR.callS (pc := 756) (As := [.ref q2, .ref q3, .ref q11, .ref q12, .int x18, .int (-9)]) (st := []) (as2 := []) (asR := [(q2, 44, a2), (q3, 45, a3), (q11, 64, a11), (q12, 64, a12), (q13, 20, a13)]) (ro2 := [(q2, 44, a2), (q3, 45, a3), (q11, 64, a11), (q12, 64, a12)]) (mg := 1) (FIN := (FA 20 σ r2)) [] [0, 1, 2, 3, 4] dL_law_756 ⟨cd_L_but, sm_L_but, ini_L⟩ ml_L_84 (G_but a2 a3 a11 a12 x18 (-9) r2 h2) ⟨rfl, pd_L_but⟩ ⟨Nat.le_of_ble_eq_true rfl, Nat.le_of_ble_eq_true rfl⟩ ⟨rfl, rfl⟩ (groom c3) rfl rfl rfl rfl (by decide) (Or.inr ⟨[0, 1, 2, 3], rfl, by decide⟩) rfl (Nat.le_of_ble_eq_true rfl) (fun v9 σ9 as9 hF9 => ?_)
    obtain ⟨qn2, rfl, e9, rfl⟩ := hF9; replace e9 := e9.symm; subst e9
    show LR l code 45 ret lw_tbl room_1 47 5558 ad [(q0, sL, a0)] (EL r) 759 [(0, .ref q0), (1, .ref (ad 0)), (2, .ref q2), (3, .ref q3), (4, .int x4), (5, .int x5), (9, .int x9), (10, .int x10), (11, .ref q11), (12, .ref q12), (13, .ref q13), (17, .int x17), (18, .int x18), (20, .int x20), (21, .int x21), (22, .int x22)] [.ref qn2] σ [(q2, 44, a2), (q3, 45, a3), (q11, 64, a11), (q12, 64, a12), (q13, 20, a13), (qn2, 20, r2)] (g + 1)
    refine LR.astore (pc := 759) (L2 := [(22, .ref qn2), (0, .ref q0), (1, .ref (ad 0)), (2, .ref q2), (3, .ref q3), (4, .int x4), (5, .int x5), (9, .int x9), (10, .int x10), (11, .ref q11), (12, .ref q12), (13, .ref q13), (17, .int x17), (18, .int x18), (20, .int x20), (21, .int x21)]) dL_law_759 (by decide) rfl ?_
    refine LR.aload_n (pc := 761) (j := 3) dL_law_761 rfl rfl ?_
    refine LR.aload_n (pc := 762) (j := 4) dL_law_762 rfl rfl ?_
    refine LR.aload (pc := 763) (j := 9) dL_law_763 rfl ?_
    refine LR.aload (pc := 765) (j := 10) dL_law_765 rfl ?_
    refine LR.iload (pc := 767) (j := 13) dL_law_767 rfl ?_
    refine LR.iload (pc := 769) (j := 14) dL_law_769 rfl ?_
    obtain ⟨r4, h4, h⟩ := bd_some h
    obtain ⟨c5, h⟩ := gn_some h
    refine LR.callS (pc := 771) (As := [.ref q2, .ref q3, .ref q11, .ref q12, .int x18, .int x20]) (st := []) (as2 := []) (asR := [(q2, 44, a2), (q3, 45, a3), (q11, 64, a11), (q12, 64, a12), (q13, 20, a13), (qn2, 20, r2)]) (ro2 := [(q2, 44, a2), (q3, 45, a3), (q11, 64, a11), (q12, 64, a12)]) (mg := 1) (FIN := (FA 20 σ r4)) [] [0, 1, 2, 3, 4, 5] dL_law_771 ⟨cd_L_but, sm_L_but, ini_L⟩ ml_L_84 (G_but a2 a3 a11 a12 x18 x20 r4 h4) ⟨rfl, pd_L_but⟩ ⟨Nat.le_of_ble_eq_true rfl, Nat.le_of_ble_eq_true rfl⟩ ⟨rfl, rfl⟩ (groom c5) rfl rfl rfl rfl (by decide) (Or.inr ⟨[0, 1, 2, 3], rfl, by decide⟩) rfl (Nat.le_of_ble_eq_true rfl) (fun v9 σ9 as9 hF9 => ?_)
    obtain ⟨qn4, rfl, e9, rfl⟩ := hF9; replace e9 := e9.symm; subst e9
    show LR l code 45 ret lw_tbl room_1 47 5558 ad [(q0, sL, a0)] (EL r) 774 [(22, .ref qn2), (0, .ref q0), (1, .ref (ad 0)), (2, .ref q2), (3, .ref q3), (4, .int x4), (5, .int x5), (9, .int x9), (10, .int x10), (11, .ref q11), (12, .ref q12), (13, .ref q13), (17, .int x17), (18, .int x18), (20, .int x20), (21, .int x21)] [.ref qn4] σ [(q2, 44, a2), (q3, 45, a3), (q11, 64, a11), (q12, 64, a12), (q13, 20, a13), (qn2, 20, r2), (qn4, 20, r4)] ((g + 1) + 1)
    refine LR.astore (pc := 774) (L2 := [(23, .ref qn4), (22, .ref qn2), (0, .ref q0), (1, .ref (ad 0)), (2, .ref q2), (3, .ref q3), (4, .int x4), (5, .int x5), (9, .int x9), (10, .int x10), (11, .ref q11), (12, .ref q12), (13, .ref q13), (17, .int x17), (18, .int x18), (20, .int x20), (21, .int x21)]) dL_law_774 (by decide) rfl ?_
    refine LR.iconst (pc := 776) (v := 0) dL_law_776 (by decide) ?_
    refine LR.istore (pc := 777) (L2 := [(24, .int 0), (23, .ref qn4), (22, .ref qn2), (0, .ref q0), (1, .ref (ad 0)), (2, .ref q2), (3, .ref q3), (4, .int x4), (5, .int x5), (9, .int x9), (10, .int x10), (11, .ref q11), (12, .ref q12), (13, .ref q13), (17, .int x17), (18, .int x18), (20, .int x20), (21, .int x21)]) dL_law_777 (by decide) rfl ?_
    exact LR.pick [3, 4, 5, 6, 7, 8, 9, 10, 11, 12, 13, 14, 17, 2, 1, 0] rfl (G_law_779 sL a0 k85 k562 a2 a3 x4 x5 x9 x10 a11 a12 a13 x17 x21 r2 r4 ((g + 1) + 1) hk85 hk562 (0, σ) r h)
  · replace h := ite_f c1 h
    refine LR.iload (pc := 691) (j := 14) dL_law_691 rfl ?_
    refine LR.aload_n (pc := 693) (j := 2) dL_law_693 rfl rfl ?_
    refine LR.iload (pc := 694) (j := 15) dL_law_694 rfl ?_
    obtain ⟨r6, h6, h⟩ := bd_some h
    refine LR.callS0 (pc := 696) (As := [.ref q2, .int x22]) (st := [.int x21]) (as2 := []) (asR := [(q2, 44, a2), (q3, 45, a3), (q11, 64, a11), (q12, 64, a12), (q13, 20, a13)]) (ro2 := [(q2, 44, a2)]) (mg := 0) (FIN := (FI σ r6)) [] [0, 1, 2, 3, 4] dL_law_696 ⟨cd_L_who, sm_L_who, ini_L⟩ ml_L_33 (G_who a2 x22 r6 h6) ⟨rfl, pd_L_who⟩ ⟨Nat.le_of_ble_eq_true rfl, Nat.le_of_ble_eq_true rfl⟩ ⟨rfl, rfl⟩ rfl rfl rfl rfl rfl (by decide) (Or.inr ⟨[0], rfl, by decide⟩) rfl (Nat.le_of_ble_eq_true rfl) (fun v9 σ9 as9 hF9 => ?_)
    obtain ⟨rfl, e9, rfl⟩ := hF9; replace e9 := e9.symm; subst e9
    show LR l code 45 ret lw_tbl room_1 47 5558 ad [(q0, sL, a0)] (EL r) 699 [(0, .ref q0), (1, .ref (ad 0)), (2, .ref q2), (3, .ref q3), (4, .int x4), (5, .int x5), (9, .int x9), (10, .int x10), (11, .ref q11), (12, .ref q12), (13, .ref q13), (17, .int x17), (18, .int x18), (20, .int x20), (21, .int x21), (22, .int x22)] [.int r6, .int x21] σ [(q2, 44, a2), (q3, 45, a3), (q11, 64, a11), (q12, 64, a12), (q13, 20, a13)] g
    refine LR.iload (pc := 699) (j := 11) dL_law_699 rfl ?_
    refine LR.icmp_ne (pc := 701) (tgt := 736) dL_law_701 (by decide) (fun c7 => ?_) (fun c7 => ?_)
    · replace h := ite_f c7 h
      exact LR.pick [0, 1, 2, 3, 4, 5, 6, 7, 8, 9, 10, 11, 12, 13, 15] rfl (G_law_736 sL a0 k85 k562 k684 a2 a3 x4 x5 x9 x10 a11 a12 a13 x17 x18 x20 x22 x21 σ g hk85 hk562 hk684 r h)
    · replace h := ite_t c7 h
      refine LR.aload (pc := 704) (j := 10) dL_law_704 rfl ?_
      refine LR.bipush (pc := 706) (v := 6) dL_law_706 (by decide) ?_
      refine LR.iload (pc := 708) (j := 15) dL_law_708 rfl ?_
      refine LR.iadd (pc := 710) dL_law_710 ?_
      obtain ⟨c8, h⟩ := gn_some h
      refine LR.iaload (pc := 711) (j := 4) dL_law_711 rfl c8 ?_
      refine LR.if_lt (pc := 712) (tgt := 736) dL_law_712 (by decide) (fun c9 => ?_) (fun c9 => ?_)
      · replace h := ite_t c9 h
        exact LR.pick [0, 1, 2, 3, 4, 5, 6, 7, 8, 9, 10, 11, 12, 13, 15] rfl (G_law_736 sL a0 k85 k562 k684 a2 a3 x4 x5 x9 x10 a11 a12 a13 x17 x18 x20 x22 x21 σ g hk85 hk562 hk684 r h)
      · replace h := ite_f c9 h
        refine LR.aload_n (pc := 715) (j := 3) dL_law_715 rfl rfl ?_
        refine LR.bipush (pc := 716) (v := 9) dL_law_716 (by decide) ?_
        refine LR.iload (pc := 718) (j := 11) dL_law_718 rfl ?_
        refine LR.imul (pc := 720) dL_law_720 ?_
        refine LR.iconst (pc := 721) (v := 3) dL_law_721 (by decide) ?_
        refine LR.aload (pc := 722) (j := 10) dL_law_722 rfl ?_
        refine LR.bipush (pc := 724) (v := 6) dL_law_724 (by decide) ?_
        refine LR.iload (pc := 726) (j := 15) dL_law_726 rfl ?_
        refine LR.iadd (pc := 728) dL_law_728 ?_
        obtain ⟨c10, h⟩ := gn_some h
        refine LR.iaload (pc := 729) (j := 4) dL_law_729 rfl c10 ?_
        refine LR.imul (pc := 730) dL_law_730 ?_
        refine LR.iadd (pc := 731) dL_law_731 ?_
        obtain ⟨c11, h⟩ := gn_some h
        refine LR.iaload (pc := 732) (j := 1) dL_law_732 rfl c11 ?_
        refine LR.goto (pc := 733) (tgt := 737) dL_law_733 (by decide) ?_
        exact LR.pick [0, 1, 2, 3, 4, 5, 6, 7, 8, 9, 10, 11, 12, 13, 15] rfl (G_law_737 sL a0 k85 k562 k684 a2 a3 x4 x5 x9 x10 a11 a12 a13 x17 x18 x20 x22 (a3 (((9 * x17) + (3 * (a13 ((6 + x22) : Int32).toNatClampNeg))) : Int32).toNatClampNeg) x21 σ g hk85 hk562 hk684 r h)
theorem G_law_684 {l : Launch} {ad : Nat → Nat} {q0 : Nat} (sL : Nat) (a0 : Nat → Int32) (k85 : (Nat → Int32) × Int32 × HS × Nat → Option (Int32)) (k562 : Int32 × HS × Nat → Option (Int32)) {q2 : Nat} {q3 : Nat} {q11 : Nat} {q12 : Nat} {q13 : Nat} (a2 : Nat → Int32) (a3 : Nat → Int32) (x4 : Int32) (x5 : Int32) (x9 : Int32) (x10 : Int32) (a11 : Nat → Int32) (a12 : Nat → Int32) (a13 : Nat → Int32) (x17 : Int32) (x18 : Int32) (x20 : Int32) (σ : HS) (g : Nat) (hk85 : ∀ (p : (Nat → Int32) × Int32 × HS × Nat) (r : Int32), k85 p = some r → LR l code 45 ret lw_tbl room_1 47 5558 ad [(q0, sL, a0)] (EL r) 85 [(0, .ref q0), (1, .ref (ad 0)), (2, .ref q2), (3, .ref q3), (4, .int x4), (5, .int (p.2.1))] [] (p.2.2.1) [(q2, 44, p.1), (q3, 45, a3)] (p.2.2.2)) (hk562 : ∀ (p : Int32 × HS × Nat) (r : Int32), k562 p = some r → LR l code 45 ret lw_tbl room_1 47 5558 ad [(q0, sL, a0)] (EL r) 562 [(0, .ref q0), (1, .ref (ad 0)), (2, .ref q2), (3, .ref q3), (4, .int x4), (5, .int x5), (9, .int x9), (10, .int x10), (11, .ref q11), (12, .ref q12), (13, .ref q13), (17, .int (p.1))] [] (p.2.1) [(q2, 44, a2), (q3, 45, a3), (q11, 64, a11), (q12, 64, a12), (q13, 20, a13)] (p.2.2)) (p : Int32 × Int32) (r : Int32) (h : g_law_684 sL a0 k85 k562 a2 a3 x4 x5 x9 x10 a11 a12 a13 x17 x18 x20 σ g p = some r) : LR l code 45 ret lw_tbl room_1 47 5558 ad [(q0, sL, a0)] (EL r) 684 [(0, .ref q0), (1, .ref (ad 0)), (2, .ref q2), (3, .ref q3), (4, .int x4), (5, .int x5), (9, .int x9), (10, .int x10), (11, .ref q11), (12, .ref q12), (13, .ref q13), (17, .int x17), (18, .int x18), (20, .int x20), (21, .int (p.1)), (22, .int (p.2))] [] σ [(q2, 44, a2), (q3, 45, a3), (q11, 64, a11), (q12, 64, a12), (q13, 20, a13)] g := by
  unfold g_law_684 at h
  exact wloop_run (body := fun k684 p => g_law_684_b sL a0 k85 k562 k684 a2 a3 x4 x5 x9 x10 a11 a12 a13 x17 x18 x20 p.1 p.2 σ g) (Q := (fun p r => LR l code 45 ret lw_tbl room_1 47 5558 ad [(q0, sL, a0)] (EL r) 684 [(0, .ref q0), (1, .ref (ad 0)), (2, .ref q2), (3, .ref q3), (4, .int x4), (5, .int x5), (9, .int x9), (10, .int x10), (11, .ref q11), (12, .ref q12), (13, .ref q13), (17, .int x17), (18, .int x18), (20, .int x20), (21, .int (p.1)), (22, .int (p.2))] [] σ [(q2, 44, a2), (q3, 45, a3), (q11, 64, a11), (q12, 64, a12), (q13, 20, a13)] g)) (fun k684 hk684 p r h => G_law_684_b sL a0 k85 k562 k684 a2 a3 x4 x5 x9 x10 a11 a12 a13 x17 x18 x20 p.1 p.2 σ g hk85 hk562 hk684 r h) fuelN p r h
set_option maxHeartbeats 4000000 in
set_option maxRecDepth 100000 in
theorem G_law_673 {l : Launch} {ad : Nat → Nat} {q0 : Nat} (sL : Nat) (a0 : Nat → Int32) (k85 : (Nat → Int32) × Int32 × HS × Nat → Option (Int32)) (k562 : Int32 × HS × Nat → Option (Int32)) (k618 : Int32 × Int32 → Option (Int32)) {q2 : Nat} {q3 : Nat} {q11 : Nat} {q12 : Nat} {q13 : Nat} (a2 : Nat → Int32) (a3 : Nat → Int32) (x4 : Int32) (x5 : Int32) (x9 : Int32) (x10 : Int32) (a11 : Nat → Int32) (a12 : Nat → Int32) (a13 : Nat → Int32) (x17 : Int32) (x18 : Int32) (x19 : Int32) (x21 : Int32) (x22 : Int32) (z0 : Int32) (σ : HS) (g : Nat) (hk85 : ∀ (p : (Nat → Int32) × Int32 × HS × Nat) (r : Int32), k85 p = some r → LR l code 45 ret lw_tbl room_1 47 5558 ad [(q0, sL, a0)] (EL r) 85 [(0, .ref q0), (1, .ref (ad 0)), (2, .ref q2), (3, .ref q3), (4, .int x4), (5, .int (p.2.1))] [] (p.2.2.1) [(q2, 44, p.1), (q3, 45, a3)] (p.2.2.2)) (hk562 : ∀ (p : Int32 × HS × Nat) (r : Int32), k562 p = some r → LR l code 45 ret lw_tbl room_1 47 5558 ad [(q0, sL, a0)] (EL r) 562 [(0, .ref q0), (1, .ref (ad 0)), (2, .ref q2), (3, .ref q3), (4, .int x4), (5, .int x5), (9, .int x9), (10, .int x10), (11, .ref q11), (12, .ref q12), (13, .ref q13), (17, .int (p.1))] [] (p.2.1) [(q2, 44, a2), (q3, 45, a3), (q11, 64, a11), (q12, 64, a12), (q13, 20, a13)] (p.2.2)) (hk618 : ∀ (p : Int32 × Int32) (r : Int32), k618 p = some r → LR l code 45 ret lw_tbl room_1 47 5558 ad [(q0, sL, a0)] (EL r) 618 [(0, .ref q0), (1, .ref (ad 0)), (2, .ref q2), (3, .ref q3), (4, .int x4), (5, .int x5), (9, .int x9), (10, .int x10), (11, .ref q11), (12, .ref q12), (13, .ref q13), (17, .int x17), (18, .int x18), (19, .int x19), (20, .int (p.1)), (21, .int x21), (22, .int (p.2))] [] σ [(q2, 44, a2), (q3, 45, a3), (q11, 64, a11), (q12, 64, a12), (q13, 20, a13)] g) (r : Int32) (h : g_law_673 sL a0 k85 k562 k618 a2 a3 x4 x5 x9 x10 a11 a12 a13 x17 x18 x19 x21 x22 z0 σ g = some r) : LR l code 45 ret lw_tbl room_1 47 5558 ad [(q0, sL, a0)] (EL r) 673 [(0, .ref q0), (1, .ref (ad 0)), (2, .ref q2), (3, .ref q3), (4, .int x4), (5, .int x5), (9, .int x9), (10, .int x10), (11, .ref q11), (12, .ref q12), (13, .ref q13), (17, .int x17), (18, .int x18), (19, .int x19), (21, .int x21), (22, .int x22)] [.int z0] σ [(q2, 44, a2), (q3, 45, a3), (q11, 64, a11), (q12, 64, a12), (q13, 20, a13)] g := by
  unfold g_law_673 at h
  refine LR.istore (pc := 673) (L2 := [(20, .int z0), (0, .ref q0), (1, .ref (ad 0)), (2, .ref q2), (3, .ref q3), (4, .int x4), (5, .int x5), (9, .int x9), (10, .int x10), (11, .ref q11), (12, .ref q12), (13, .ref q13), (17, .int x17), (18, .int x18), (19, .int x19), (21, .int x21), (22, .int x22)]) dL_law_673 (by decide) rfl ?_
  refine LR.iinc (pc := 675) (j := 16) (v := (x22 + (-1))) (L2 := [(22, .int (x22 + (-1))), (20, .int z0), (0, .ref q0), (1, .ref (ad 0)), (2, .ref q2), (3, .ref q3), (4, .int x4), (5, .int x5), (9, .int x9), (10, .int x10), (11, .ref q11), (12, .ref q12), (13, .ref q13), (17, .int x17), (18, .int x18), (19, .int x19), (21, .int x21)]) dL_law_675 rfl rfl (by decide) rfl ?_
  refine LR.goto (pc := 678) (tgt := 618) dL_law_678 (by decide) ?_
  exact LR.pick [2, 3, 4, 5, 6, 7, 8, 9, 10, 11, 12, 13, 14, 15, 1, 16, 0] rfl (hk618 (z0, (x22 + (-1))) r h)
set_option maxHeartbeats 4000000 in
set_option maxRecDepth 100000 in
theorem G_law_671 {l : Launch} {ad : Nat → Nat} {q0 : Nat} (sL : Nat) (a0 : Nat → Int32) (k85 : (Nat → Int32) × Int32 × HS × Nat → Option (Int32)) (k562 : Int32 × HS × Nat → Option (Int32)) (k618 : Int32 × Int32 → Option (Int32)) {q2 : Nat} {q3 : Nat} {q11 : Nat} {q12 : Nat} {q13 : Nat} (a2 : Nat → Int32) (a3 : Nat → Int32) (x4 : Int32) (x5 : Int32) (x9 : Int32) (x10 : Int32) (a11 : Nat → Int32) (a12 : Nat → Int32) (a13 : Nat → Int32) (x17 : Int32) (x18 : Int32) (x19 : Int32) (x20 : Int32) (x21 : Int32) (x22 : Int32) (σ : HS) (g : Nat) (hk85 : ∀ (p : (Nat → Int32) × Int32 × HS × Nat) (r : Int32), k85 p = some r → LR l code 45 ret lw_tbl room_1 47 5558 ad [(q0, sL, a0)] (EL r) 85 [(0, .ref q0), (1, .ref (ad 0)), (2, .ref q2), (3, .ref q3), (4, .int x4), (5, .int (p.2.1))] [] (p.2.2.1) [(q2, 44, p.1), (q3, 45, a3)] (p.2.2.2)) (hk562 : ∀ (p : Int32 × HS × Nat) (r : Int32), k562 p = some r → LR l code 45 ret lw_tbl room_1 47 5558 ad [(q0, sL, a0)] (EL r) 562 [(0, .ref q0), (1, .ref (ad 0)), (2, .ref q2), (3, .ref q3), (4, .int x4), (5, .int x5), (9, .int x9), (10, .int x10), (11, .ref q11), (12, .ref q12), (13, .ref q13), (17, .int (p.1))] [] (p.2.1) [(q2, 44, a2), (q3, 45, a3), (q11, 64, a11), (q12, 64, a12), (q13, 20, a13)] (p.2.2)) (hk618 : ∀ (p : Int32 × Int32) (r : Int32), k618 p = some r → LR l code 45 ret lw_tbl room_1 47 5558 ad [(q0, sL, a0)] (EL r) 618 [(0, .ref q0), (1, .ref (ad 0)), (2, .ref q2), (3, .ref q3), (4, .int x4), (5, .int x5), (9, .int x9), (10, .int x10), (11, .ref q11), (12, .ref q12), (13, .ref q13), (17, .int x17), (18, .int x18), (19, .int x19), (20, .int (p.1)), (21, .int x21), (22, .int (p.2))] [] σ [(q2, 44, a2), (q3, 45, a3), (q11, 64, a11), (q12, 64, a12), (q13, 20, a13)] g) (r : Int32) (h : g_law_671 sL a0 k85 k562 k618 a2 a3 x4 x5 x9 x10 a11 a12 a13 x17 x18 x19 x20 x21 x22 σ g = some r) : LR l code 45 ret lw_tbl room_1 47 5558 ad [(q0, sL, a0)] (EL r) 671 [(0, .ref q0), (1, .ref (ad 0)), (2, .ref q2), (3, .ref q3), (4, .int x4), (5, .int x5), (9, .int x9), (10, .int x10), (11, .ref q11), (12, .ref q12), (13, .ref q13), (17, .int x17), (18, .int x18), (19, .int x19), (20, .int x20), (21, .int x21), (22, .int x22)] [] σ [(q2, 44, a2), (q3, 45, a3), (q11, 64, a11), (q12, 64, a12), (q13, 20, a13)] g := by
  unfold g_law_671 at h
  refine LR.iload (pc := 671) (j := 14) dL_law_671 rfl ?_
  exact LR.pick [0, 1, 2, 3, 4, 5, 6, 7, 8, 9, 10, 11, 12, 13, 15, 16] rfl (G_law_673 sL a0 k85 k562 k618 a2 a3 x4 x5 x9 x10 a11 a12 a13 x17 x18 x19 x21 x22 x20 σ g hk85 hk562 hk618 r h)
set_option maxHeartbeats 4000000 in
set_option maxRecDepth 100000 in
theorem G_law_666 {l : Launch} {ad : Nat → Nat} {q0 : Nat} (sL : Nat) (a0 : Nat → Int32) (k85 : (Nat → Int32) × Int32 × HS × Nat → Option (Int32)) (k562 : Int32 × HS × Nat → Option (Int32)) (k618 : Int32 × Int32 → Option (Int32)) {q2 : Nat} {q3 : Nat} {q11 : Nat} {q12 : Nat} {q13 : Nat} (a2 : Nat → Int32) (a3 : Nat → Int32) (x4 : Int32) (x5 : Int32) (x9 : Int32) (x10 : Int32) (a11 : Nat → Int32) (a12 : Nat → Int32) (a13 : Nat → Int32) (x17 : Int32) (x18 : Int32) (x19 : Int32) (x21 : Int32) (x22 : Int32) (σ : HS) (g : Nat) (hk85 : ∀ (p : (Nat → Int32) × Int32 × HS × Nat) (r : Int32), k85 p = some r → LR l code 45 ret lw_tbl room_1 47 5558 ad [(q0, sL, a0)] (EL r) 85 [(0, .ref q0), (1, .ref (ad 0)), (2, .ref q2), (3, .ref q3), (4, .int x4), (5, .int (p.2.1))] [] (p.2.2.1) [(q2, 44, p.1), (q3, 45, a3)] (p.2.2.2)) (hk562 : ∀ (p : Int32 × HS × Nat) (r : Int32), k562 p = some r → LR l code 45 ret lw_tbl room_1 47 5558 ad [(q0, sL, a0)] (EL r) 562 [(0, .ref q0), (1, .ref (ad 0)), (2, .ref q2), (3, .ref q3), (4, .int x4), (5, .int x5), (9, .int x9), (10, .int x10), (11, .ref q11), (12, .ref q12), (13, .ref q13), (17, .int (p.1))] [] (p.2.1) [(q2, 44, a2), (q3, 45, a3), (q11, 64, a11), (q12, 64, a12), (q13, 20, a13)] (p.2.2)) (hk618 : ∀ (p : Int32 × Int32) (r : Int32), k618 p = some r → LR l code 45 ret lw_tbl room_1 47 5558 ad [(q0, sL, a0)] (EL r) 618 [(0, .ref q0), (1, .ref (ad 0)), (2, .ref q2), (3, .ref q3), (4, .int x4), (5, .int x5), (9, .int x9), (10, .int x10), (11, .ref q11), (12, .ref q12), (13, .ref q13), (17, .int x17), (18, .int x18), (19, .int x19), (20, .int (p.1)), (21, .int x21), (22, .int (p.2))] [] σ [(q2, 44, a2), (q3, 45, a3), (q11, 64, a11), (q12, 64, a12), (q13, 20, a13)] g) (r : Int32) (h : g_law_666 sL a0 k85 k562 k618 a2 a3 x4 x5 x9 x10 a11 a12 a13 x17 x18 x19 x21 x22 σ g = some r) : LR l code 45 ret lw_tbl room_1 47 5558 ad [(q0, sL, a0)] (EL r) 666 [(0, .ref q0), (1, .ref (ad 0)), (2, .ref q2), (3, .ref q3), (4, .int x4), (5, .int x5), (9, .int x9), (10, .int x10), (11, .ref q11), (12, .ref q12), (13, .ref q13), (17, .int x17), (18, .int x18), (19, .int x19), (21, .int x21), (22, .int x22)] [] σ [(q2, 44, a2), (q3, 45, a3), (q11, 64, a11), (q12, 64, a12), (q13, 20, a13)] g := by
  unfold g_law_666 at h
  refine LR.iload (pc := 666) (j := 15) dL_law_666 rfl ?_
  refine LR.goto (pc := 668) (tgt := 673) dL_law_668 (by decide) ?_
  exact LR.pick [0, 1, 2, 3, 4, 5, 6, 7, 8, 9, 10, 11, 12, 13, 14, 15] rfl (G_law_673 sL a0 k85 k562 k618 a2 a3 x4 x5 x9 x10 a11 a12 a13 x17 x18 x19 x21 x22 x22 σ g hk85 hk562 hk618 r h)
set_option maxHeartbeats 4000000 in
set_option maxRecDepth 100000 in
theorem G_law_618_b {l : Launch} {ad : Nat → Nat} {q0 : Nat} (sL : Nat) (a0 : Nat → Int32) (k85 : (Nat → Int32) × Int32 × HS × Nat → Option (Int32)) (k562 : Int32 × HS × Nat → Option (Int32)) (k618 : Int32 × Int32 → Option (Int32)) {q2 : Nat} {q3 : Nat} {q11 : Nat} {q12 : Nat} {q13 : Nat} (a2 : Nat → Int32) (a3 : Nat → Int32) (x4 : Int32) (x5 : Int32) (x9 : Int32) (x10 : Int32) (a11 : Nat → Int32) (a12 : Nat → Int32) (a13 : Nat → Int32) (x17 : Int32) (x18 : Int32) (x19 : Int32) (x20 : Int32) (x21 : Int32) (x22 : Int32) (σ : HS) (g : Nat) (hk85 : ∀ (p : (Nat → Int32) × Int32 × HS × Nat) (r : Int32), k85 p = some r → LR l code 45 ret lw_tbl room_1 47 5558 ad [(q0, sL, a0)] (EL r) 85 [(0, .ref q0), (1, .ref (ad 0)), (2, .ref q2), (3, .ref q3), (4, .int x4), (5, .int (p.2.1))] [] (p.2.2.1) [(q2, 44, p.1), (q3, 45, a3)] (p.2.2.2)) (hk562 : ∀ (p : Int32 × HS × Nat) (r : Int32), k562 p = some r → LR l code 45 ret lw_tbl room_1 47 5558 ad [(q0, sL, a0)] (EL r) 562 [(0, .ref q0), (1, .ref (ad 0)), (2, .ref q2), (3, .ref q3), (4, .int x4), (5, .int x5), (9, .int x9), (10, .int x10), (11, .ref q11), (12, .ref q12), (13, .ref q13), (17, .int (p.1))] [] (p.2.1) [(q2, 44, a2), (q3, 45, a3), (q11, 64, a11), (q12, 64, a12), (q13, 20, a13)] (p.2.2)) (hk618 : ∀ (p : Int32 × Int32) (r : Int32), k618 p = some r → LR l code 45 ret lw_tbl room_1 47 5558 ad [(q0, sL, a0)] (EL r) 618 [(0, .ref q0), (1, .ref (ad 0)), (2, .ref q2), (3, .ref q3), (4, .int x4), (5, .int x5), (9, .int x9), (10, .int x10), (11, .ref q11), (12, .ref q12), (13, .ref q13), (17, .int x17), (18, .int x18), (19, .int x19), (20, .int (p.1)), (21, .int x21), (22, .int (p.2))] [] σ [(q2, 44, a2), (q3, 45, a3), (q11, 64, a11), (q12, 64, a12), (q13, 20, a13)] g) (r : Int32) (h : g_law_618_b sL a0 k85 k562 k618 a2 a3 x4 x5 x9 x10 a11 a12 a13 x17 x18 x19 x20 x21 x22 σ g = some r) : LR l code 45 ret lw_tbl room_1 47 5558 ad [(q0, sL, a0)] (EL r) 618 [(0, .ref q0), (1, .ref (ad 0)), (2, .ref q2), (3, .ref q3), (4, .int x4), (5, .int x5), (9, .int x9), (10, .int x10), (11, .ref q11), (12, .ref q12), (13, .ref q13), (17, .int x17), (18, .int x18), (19, .int x19), (20, .int x20), (21, .int x21), (22, .int x22)] [] σ [(q2, 44, a2), (q3, 45, a3), (q11, 64, a11), (q12, 64, a12), (q13, 20, a13)] g := by
  unfold g_law_618_b at h
  refine LR.iload (pc := 618) (j := 16) dL_law_618 rfl ?_
  refine LR.if_lt (pc := 620) (tgt := 681) dL_law_620 (by decide) (fun c1 => ?_) (fun c1 => ?_)
  · replace h := ite_t c1 h
    refine LR.iconst (pc := 681) (v := 0) dL_law_681 (by decide) ?_
    refine LR.istore (pc := 682) (L2 := [(22, .int 0), (0, .ref q0), (1, .ref (ad 0)), (2, .ref q2), (3, .ref q3), (4, .int x4), (5, .int x5), (9, .int x9), (10, .int x10), (11, .ref q11), (12, .ref q12), (13, .ref q13), (17, .int x17), (18, .int x18), (19, .int x19), (20, .int x20), (21, .int x21)]) dL_law_682 (by decide) rfl ?_
    exact LR.pick [1, 2, 3, 4, 5, 6, 7, 8, 9, 10, 11, 12, 13, 15, 16, 0] rfl (G_law_684 sL a0 k85 k562 a2 a3 x4 x5 x9 x10 a11 a12 a13 x17 x18 x20 σ g hk85 hk562 (x21, 0) r h)
  · replace h := ite_f c1 h
    refine LR.aload_n (pc := 623) (j := 3) dL_law_623 rfl rfl ?_
    refine LR.bipush (pc := 624) (v := 9) dL_law_624 (by decide) ?_
    refine LR.iload (pc := 626) (j := 11) dL_law_626 rfl ?_
    refine LR.imul (pc := 628) dL_law_628 ?_
    refine LR.iconst (pc := 629) (v := 3) dL_law_629 (by decide) ?_
    refine LR.iload (pc := 630) (j := 16) dL_law_630 rfl ?_
    refine LR.imul (pc := 632) dL_law_632 ?_
    refine LR.iadd (pc := 633) dL_law_633 ?_
    obtain ⟨c2, h⟩ := gn_some h
    refine LR.iaload (pc := 634) (j := 1) dL_law_634 rfl c2 ?_
    refine LR.istore (pc := 635) (L2 := [(23, .int (a3 (((9 * x17) + (3 * x22)) : Int32).toNatClampNeg)), (0, .ref q0), (1, .ref (ad 0)), (2, .ref q2), (3, .ref q3), (4, .int x4), (5, .int x5), (9, .int x9), (10, .int x10), (11, .ref q11), (12, .ref q12), (13, .ref q13), (17, .int x17), (18, .int x18), (19, .int x19), (20, .int x20), (21, .int x21), (22, .int x22)]) dL_law_635 (by decide) rfl ?_
    refine LR.iload (pc := 637) (j := 0) dL_law_637 rfl ?_
    refine LR.iload (pc := 639) (j := 14) dL_law_639 rfl ?_
    refine LR.icmp_gt (pc := 641) (tgt := 671) dL_law_641 (by decide) (fun c3 => ?_) (fun c3 => ?_)
    · replace h := ite_t c3 h
      exact LR.pick [1, 2, 3, 4, 5, 6, 7, 8, 9, 10, 11, 12, 13, 14, 15, 16, 17] rfl (G_law_671 sL a0 k85 k562 k618 a2 a3 x4 x5 x9 x10 a11 a12 a13 x17 x18 x19 x20 x21 x22 σ g hk85 hk562 hk618 r h)
    · replace h := ite_f c3 h
      refine LR.iload (pc := 644) (j := 15) dL_law_644 rfl ?_
      refine LR.if_lt (pc := 646) (tgt := 666) dL_law_646 (by decide) (fun c4 => ?_) (fun c4 => ?_)
      · replace h := ite_t c4 h
        exact LR.pick [1, 2, 3, 4, 5, 6, 7, 8, 9, 10, 11, 12, 13, 14, 16, 17] rfl (G_law_666 sL a0 k85 k562 k618 a2 a3 x4 x5 x9 x10 a11 a12 a13 x17 x18 x19 x21 x22 σ g hk85 hk562 hk618 r h)
      · replace h := ite_f c4 h
        refine LR.iload (pc := 649) (j := 0) dL_law_649 rfl ?_
        refine LR.aload_n (pc := 651) (j := 4) dL_law_651 rfl rfl ?_
        refine LR.bipush (pc := 652) (v := 9) dL_law_652 (by decide) ?_
        refine LR.iload (pc := 654) (j := 12) dL_law_654 rfl ?_
        refine LR.imul (pc := 656) dL_law_656 ?_
        refine LR.iconst (pc := 657) (v := 3) dL_law_657 (by decide) ?_
        refine LR.iload (pc := 658) (j := 15) dL_law_658 rfl ?_
        refine LR.imul (pc := 660) dL_law_660 ?_
        refine LR.iadd (pc := 661) dL_law_661 ?_
        obtain ⟨c5, h⟩ := gn_some h
        refine LR.iaload (pc := 662) (j := 1) dL_law_662 rfl c5 ?_
        refine LR.icmp_lt (pc := 663) (tgt := 671) dL_law_663 (by decide) (fun c6 => ?_) (fun c6 => ?_)
        · replace h := ite_t c6 h
          exact LR.pick [1, 2, 3, 4, 5, 6, 7, 8, 9, 10, 11, 12, 13, 14, 15, 16, 17] rfl (G_law_671 sL a0 k85 k562 k618 a2 a3 x4 x5 x9 x10 a11 a12 a13 x17 x18 x19 x20 x21 x22 σ g hk85 hk562 hk618 r h)
        · replace h := ite_f c6 h
          exact LR.pick [1, 2, 3, 4, 5, 6, 7, 8, 9, 10, 11, 12, 13, 14, 16, 17] rfl (G_law_666 sL a0 k85 k562 k618 a2 a3 x4 x5 x9 x10 a11 a12 a13 x17 x18 x19 x21 x22 σ g hk85 hk562 hk618 r h)
theorem G_law_618 {l : Launch} {ad : Nat → Nat} {q0 : Nat} (sL : Nat) (a0 : Nat → Int32) (k85 : (Nat → Int32) × Int32 × HS × Nat → Option (Int32)) (k562 : Int32 × HS × Nat → Option (Int32)) {q2 : Nat} {q3 : Nat} {q11 : Nat} {q12 : Nat} {q13 : Nat} (a2 : Nat → Int32) (a3 : Nat → Int32) (x4 : Int32) (x5 : Int32) (x9 : Int32) (x10 : Int32) (a11 : Nat → Int32) (a12 : Nat → Int32) (a13 : Nat → Int32) (x17 : Int32) (x18 : Int32) (x19 : Int32) (x21 : Int32) (σ : HS) (g : Nat) (hk85 : ∀ (p : (Nat → Int32) × Int32 × HS × Nat) (r : Int32), k85 p = some r → LR l code 45 ret lw_tbl room_1 47 5558 ad [(q0, sL, a0)] (EL r) 85 [(0, .ref q0), (1, .ref (ad 0)), (2, .ref q2), (3, .ref q3), (4, .int x4), (5, .int (p.2.1))] [] (p.2.2.1) [(q2, 44, p.1), (q3, 45, a3)] (p.2.2.2)) (hk562 : ∀ (p : Int32 × HS × Nat) (r : Int32), k562 p = some r → LR l code 45 ret lw_tbl room_1 47 5558 ad [(q0, sL, a0)] (EL r) 562 [(0, .ref q0), (1, .ref (ad 0)), (2, .ref q2), (3, .ref q3), (4, .int x4), (5, .int x5), (9, .int x9), (10, .int x10), (11, .ref q11), (12, .ref q12), (13, .ref q13), (17, .int (p.1))] [] (p.2.1) [(q2, 44, a2), (q3, 45, a3), (q11, 64, a11), (q12, 64, a12), (q13, 20, a13)] (p.2.2)) (p : Int32 × Int32) (r : Int32) (h : g_law_618 sL a0 k85 k562 a2 a3 x4 x5 x9 x10 a11 a12 a13 x17 x18 x19 x21 σ g p = some r) : LR l code 45 ret lw_tbl room_1 47 5558 ad [(q0, sL, a0)] (EL r) 618 [(0, .ref q0), (1, .ref (ad 0)), (2, .ref q2), (3, .ref q3), (4, .int x4), (5, .int x5), (9, .int x9), (10, .int x10), (11, .ref q11), (12, .ref q12), (13, .ref q13), (17, .int x17), (18, .int x18), (19, .int x19), (20, .int (p.1)), (21, .int x21), (22, .int (p.2))] [] σ [(q2, 44, a2), (q3, 45, a3), (q11, 64, a11), (q12, 64, a12), (q13, 20, a13)] g := by
  unfold g_law_618 at h
  exact wloop_run (body := fun k618 p => g_law_618_b sL a0 k85 k562 k618 a2 a3 x4 x5 x9 x10 a11 a12 a13 x17 x18 x19 p.1 x21 p.2 σ g) (Q := (fun p r => LR l code 45 ret lw_tbl room_1 47 5558 ad [(q0, sL, a0)] (EL r) 618 [(0, .ref q0), (1, .ref (ad 0)), (2, .ref q2), (3, .ref q3), (4, .int x4), (5, .int x5), (9, .int x9), (10, .int x10), (11, .ref q11), (12, .ref q12), (13, .ref q13), (17, .int x17), (18, .int x18), (19, .int x19), (20, .int (p.1)), (21, .int x21), (22, .int (p.2))] [] σ [(q2, 44, a2), (q3, 45, a3), (q11, 64, a11), (q12, 64, a12), (q13, 20, a13)] g)) (fun k618 hk618 p r h => G_law_618_b sL a0 k85 k562 k618 a2 a3 x4 x5 x9 x10 a11 a12 a13 x17 x18 x19 p.1 x21 p.2 σ g hk85 hk562 hk618 r h) fuelN p r h
set_option maxHeartbeats 4000000 in
set_option maxRecDepth 100000 in
theorem G_law_572_b {l : Launch} {ad : Nat → Nat} {q0 : Nat} (sL : Nat) (a0 : Nat → Int32) (k85 : (Nat → Int32) × Int32 × HS × Nat → Option (Int32)) (k562 : Int32 × HS × Nat → Option (Int32)) (k572 : Int32 → Option (Int32)) {q2 : Nat} {q3 : Nat} {q11 : Nat} {q12 : Nat} {q13 : Nat} (a2 : Nat → Int32) (a3 : Nat → Int32) (x4 : Int32) (x5 : Int32) (x9 : Int32) (x10 : Int32) (a11 : Nat → Int32) (a12 : Nat → Int32) (a13 : Nat → Int32) (x17 : Int32) (x18 : Int32) (σ : HS) (g : Nat) (hk85 : ∀ (p : (Nat → Int32) × Int32 × HS × Nat) (r : Int32), k85 p = some r → LR l code 45 ret lw_tbl room_1 47 5558 ad [(q0, sL, a0)] (EL r) 85 [(0, .ref q0), (1, .ref (ad 0)), (2, .ref q2), (3, .ref q3), (4, .int x4), (5, .int (p.2.1))] [] (p.2.2.1) [(q2, 44, p.1), (q3, 45, a3)] (p.2.2.2)) (hk562 : ∀ (p : Int32 × HS × Nat) (r : Int32), k562 p = some r → LR l code 45 ret lw_tbl room_1 47 5558 ad [(q0, sL, a0)] (EL r) 562 [(0, .ref q0), (1, .ref (ad 0)), (2, .ref q2), (3, .ref q3), (4, .int x4), (5, .int x5), (9, .int x9), (10, .int x10), (11, .ref q11), (12, .ref q12), (13, .ref q13), (17, .int (p.1))] [] (p.2.1) [(q2, 44, a2), (q3, 45, a3), (q11, 64, a11), (q12, 64, a12), (q13, 20, a13)] (p.2.2)) (hk572 : ∀ (p : Int32) (r : Int32), k572 p = some r → LR l code 45 ret lw_tbl room_1 47 5558 ad [(q0, sL, a0)] (EL r) 572 [(0, .ref q0), (1, .ref (ad 0)), (2, .ref q2), (3, .ref q3), (4, .int x4), (5, .int x5), (9, .int x9), (10, .int x10), (11, .ref q11), (12, .ref q12), (13, .ref q13), (17, .int x17), (18, .int p)] [] σ [(q2, 44, a2), (q3, 45, a3), (q11, 64, a11), (q12, 64, a12), (q13, 20, a13)] g) (r : Int32) (h : g_law_572_b sL a0 k85 k562 k572 a2 a3 x4 x5 x9 x10 a11 a12 a13 x17 x18 σ g = some r) : LR l code 45 ret lw_tbl room_1 47 5558 ad [(q0, sL, a0)] (EL r) 572 [(0, .ref q0), (1, .ref (ad 0)), (2, .ref q2), (3, .ref q3), (4, .int x4), (5, .int x5), (9, .int x9), (10, .int x10), (11, .ref q11), (12, .ref q12), (13, .ref q13), (17, .int x17), (18, .int x18)] [] σ [(q2, 44, a2), (q3, 45, a3), (q11, 64, a11), (q12, 64, a12), (q13, 20, a13)] g := by
  unfold g_law_572_b at h
  refine LR.aload_n (pc := 572) (j := 2) dL_law_572 rfl rfl ?_
  refine LR.bipush (pc := 573) (v := 14) dL_law_573 (by decide) ?_
  refine LR.iload (pc := 575) (j := 12) dL_law_575 rfl ?_
  refine LR.iadd (pc := 577) dL_law_577 ?_
  obtain ⟨c1, h⟩ := gn_some h
  refine LR.iaload (pc := 578) (j := 0) dL_law_578 rfl c1 ?_
  refine LR.iload (pc := 579) (j := 11) dL_law_579 rfl ?_
  refine LR.icmp_eq (pc := 581) (tgt := 590) dL_law_581 (by decide) (fun c2 => ?_) (fun c2 => ?_)
  · replace h := ite_t c2 h
    refine LR.aload (pc := 590) (j := 10) dL_law_590 rfl ?_
    refine LR.bipush (pc := 592) (v := 12) dL_law_592 (by decide) ?_
    refine LR.iload (pc := 594) (j := 12) dL_law_594 rfl ?_
    refine LR.iadd (pc := 596) dL_law_596 ?_
    obtain ⟨c3, h⟩ := gn_some h
    refine LR.iaload (pc := 597) (j := 4) dL_law_597 rfl c3 ?_
    refine LR.istore (pc := 598) (L2 := [(19, .int (a13 ((12 + x18) : Int32).toNatClampNeg)), (0, .ref q0), (1, .ref (ad 0)), (2, .ref q2), (3, .ref q3), (4, .int x4), (5, .int x5), (9, .int x9), (10, .int x10), (11, .ref q11), (12, .ref q12), (13, .ref q13), (17, .int x17), (18, .int x18)]) dL_law_598 (by decide) rfl ?_
    refine LR.bipush (pc := 600) (v := (-9)) dL_law_600 (by decide) ?_
    refine LR.istore (pc := 602) (L2 := [(20, .int (-9)), (19, .int (a13 ((12 + x18) : Int32).toNatClampNeg)), (0, .ref q0), (1, .ref (ad 0)), (2, .ref q2), (3, .ref q3), (4, .int x4), (5, .int x5), (9, .int x9), (10, .int x10), (11, .ref q11), (12, .ref q12), (13, .ref q13), (17, .int x17), (18, .int x18)]) dL_law_602 (by decide) rfl ?_
    refine LR.iconst (pc := 604) (v := 0) dL_law_604 (by decide) ?_
    refine LR.istore (pc := 605) (L2 := [(21, .int 0), (20, .int (-9)), (19, .int (a13 ((12 + x18) : Int32).toNatClampNeg)), (0, .ref q0), (1, .ref (ad 0)), (2, .ref q2), (3, .ref q3), (4, .int x4), (5, .int x5), (9, .int x9), (10, .int x10), (11, .ref q11), (12, .ref q12), (13, .ref q13), (17, .int x17), (18, .int x18)]) dL_law_605 (by decide) rfl ?_
    refine LR.aload_n (pc := 607) (j := 5) dL_law_607 rfl rfl ?_
    refine LR.bipush (pc := 608) (v := 9) dL_law_608 (by decide) ?_
    refine LR.iload (pc := 610) (j := 14) dL_law_610 rfl ?_
    refine LR.iadd (pc := 612) dL_law_612 ?_
    obtain ⟨c4, h⟩ := gn_some h
    refine LR.iaload (pc := 613) (j := 0) dL_law_613 rfl c4 ?_
    refine LR.iconst (pc := 614) (v := 1) dL_law_614 (by decide) ?_
    refine LR.isub (pc := 615) dL_law_615 ?_
    refine LR.istore (pc := 616) (L2 := [(22, .int ((a2 ((9 + x17) : Int32).toNatClampNeg) - 1)), (21, .int 0), (20, .int (-9)), (19, .int (a13 ((12 + x18) : Int32).toNatClampNeg)), (0, .ref q0), (1, .ref (ad 0)), (2, .ref q2), (3, .ref q3), (4, .int x4), (5, .int x5), (9, .int x9), (10, .int x10), (11, .ref q11), (12, .ref q12), (13, .ref q13), (17, .int x17), (18, .int x18)]) dL_law_616 (by decide) rfl ?_
    exact LR.pick [4, 5, 6, 7, 8, 9, 10, 11, 12, 13, 14, 15, 16, 3, 2, 1, 0] rfl (G_law_618 sL a0 k85 k562 a2 a3 x4 x5 x9 x10 a11 a12 a13 x17 x18 (a13 ((12 + x18) : Int32).toNatClampNeg) 0 σ g hk85 hk562 ((-9), ((a2 ((9 + x17) : Int32).toNatClampNeg) - 1)) r h)
  · replace h := ite_f c2 h
    refine LR.iinc (pc := 584) (j := 12) (v := (x18 + 1)) (L2 := [(18, .int (x18 + 1)), (0, .ref q0), (1, .ref (ad 0)), (2, .ref q2), (3, .ref q3), (4, .int x4), (5, .int x5), (9, .int x9), (10, .int x10), (11, .ref q11), (12, .ref q12), (13, .ref q13), (17, .int x17)]) dL_law_584 rfl rfl (by decide) rfl ?_
    refine LR.goto (pc := 587) (tgt := 572) dL_law_587 (by decide) ?_
    exact LR.pick [1, 2, 3, 4, 5, 6, 7, 8, 9, 10, 11, 12, 0] rfl (hk572 (x18 + 1) r h)
theorem G_law_572 {l : Launch} {ad : Nat → Nat} {q0 : Nat} (sL : Nat) (a0 : Nat → Int32) (k85 : (Nat → Int32) × Int32 × HS × Nat → Option (Int32)) (k562 : Int32 × HS × Nat → Option (Int32)) {q2 : Nat} {q3 : Nat} {q11 : Nat} {q12 : Nat} {q13 : Nat} (a2 : Nat → Int32) (a3 : Nat → Int32) (x4 : Int32) (x5 : Int32) (x9 : Int32) (x10 : Int32) (a11 : Nat → Int32) (a12 : Nat → Int32) (a13 : Nat → Int32) (x17 : Int32) (σ : HS) (g : Nat) (hk85 : ∀ (p : (Nat → Int32) × Int32 × HS × Nat) (r : Int32), k85 p = some r → LR l code 45 ret lw_tbl room_1 47 5558 ad [(q0, sL, a0)] (EL r) 85 [(0, .ref q0), (1, .ref (ad 0)), (2, .ref q2), (3, .ref q3), (4, .int x4), (5, .int (p.2.1))] [] (p.2.2.1) [(q2, 44, p.1), (q3, 45, a3)] (p.2.2.2)) (hk562 : ∀ (p : Int32 × HS × Nat) (r : Int32), k562 p = some r → LR l code 45 ret lw_tbl room_1 47 5558 ad [(q0, sL, a0)] (EL r) 562 [(0, .ref q0), (1, .ref (ad 0)), (2, .ref q2), (3, .ref q3), (4, .int x4), (5, .int x5), (9, .int x9), (10, .int x10), (11, .ref q11), (12, .ref q12), (13, .ref q13), (17, .int (p.1))] [] (p.2.1) [(q2, 44, a2), (q3, 45, a3), (q11, 64, a11), (q12, 64, a12), (q13, 20, a13)] (p.2.2)) (p : Int32) (r : Int32) (h : g_law_572 sL a0 k85 k562 a2 a3 x4 x5 x9 x10 a11 a12 a13 x17 σ g p = some r) : LR l code 45 ret lw_tbl room_1 47 5558 ad [(q0, sL, a0)] (EL r) 572 [(0, .ref q0), (1, .ref (ad 0)), (2, .ref q2), (3, .ref q3), (4, .int x4), (5, .int x5), (9, .int x9), (10, .int x10), (11, .ref q11), (12, .ref q12), (13, .ref q13), (17, .int x17), (18, .int p)] [] σ [(q2, 44, a2), (q3, 45, a3), (q11, 64, a11), (q12, 64, a12), (q13, 20, a13)] g := by
  unfold g_law_572 at h
  exact wloop_run (body := fun k572 p => g_law_572_b sL a0 k85 k562 k572 a2 a3 x4 x5 x9 x10 a11 a12 a13 x17 p σ g) (Q := (fun p r => LR l code 45 ret lw_tbl room_1 47 5558 ad [(q0, sL, a0)] (EL r) 572 [(0, .ref q0), (1, .ref (ad 0)), (2, .ref q2), (3, .ref q3), (4, .int x4), (5, .int x5), (9, .int x9), (10, .int x10), (11, .ref q11), (12, .ref q12), (13, .ref q13), (17, .int x17), (18, .int p)] [] σ [(q2, 44, a2), (q3, 45, a3), (q11, 64, a11), (q12, 64, a12), (q13, 20, a13)] g)) (fun k572 hk572 p r h => G_law_572_b sL a0 k85 k562 k572 a2 a3 x4 x5 x9 x10 a11 a12 a13 x17 p σ g hk85 hk562 hk572 r h) fuelN p r h
set_option maxHeartbeats 4000000 in
set_option maxRecDepth 100000 in
theorem G_law_562_b {l : Launch} {ad : Nat → Nat} {q0 : Nat} (sL : Nat) (a0 : Nat → Int32) (k85 : (Nat → Int32) × Int32 × HS × Nat → Option (Int32)) (k562 : Int32 × HS × Nat → Option (Int32)) {q2 : Nat} {q3 : Nat} {q11 : Nat} {q12 : Nat} {q13 : Nat} (a2 : Nat → Int32) (a3 : Nat → Int32) (x4 : Int32) (x5 : Int32) (x9 : Int32) (x10 : Int32) (a11 : Nat → Int32) (a12 : Nat → Int32) (a13 : Nat → Int32) (x17 : Int32) (σ : HS) (g : Nat) (hk85 : ∀ (p : (Nat → Int32) × Int32 × HS × Nat) (r : Int32), k85 p = some r → LR l code 45 ret lw_tbl room_1 47 5558 ad [(q0, sL, a0)] (EL r) 85 [(0, .ref q0), (1, .ref (ad 0)), (2, .ref q2), (3, .ref q3), (4, .int x4), (5, .int (p.2.1))] [] (p.2.2.1) [(q2, 44, p.1), (q3, 45, a3)] (p.2.2.2)) (hk562 : ∀ (p : Int32 × HS × Nat) (r : Int32), k562 p = some r → LR l code 45 ret lw_tbl room_1 47 5558 ad [(q0, sL, a0)] (EL r) 562 [(0, .ref q0), (1, .ref (ad 0)), (2, .ref q2), (3, .ref q3), (4, .int x4), (5, .int x5), (9, .int x9), (10, .int x10), (11, .ref q11), (12, .ref q12), (13, .ref q13), (17, .int (p.1))] [] (p.2.1) [(q2, 44, a2), (q3, 45, a3), (q11, 64, a11), (q12, 64, a12), (q13, 20, a13)] (p.2.2)) (r : Int32) (h : g_law_562_b sL a0 k85 k562 a2 a3 x4 x5 x9 x10 a11 a12 a13 x17 σ g = some r) : LR l code 45 ret lw_tbl room_1 47 5558 ad [(q0, sL, a0)] (EL r) 562 [(0, .ref q0), (1, .ref (ad 0)), (2, .ref q2), (3, .ref q3), (4, .int x4), (5, .int x5), (9, .int x9), (10, .int x10), (11, .ref q11), (12, .ref q12), (13, .ref q13), (17, .int x17)] [] σ [(q2, 44, a2), (q3, 45, a3), (q11, 64, a11), (q12, 64, a12), (q13, 20, a13)] g := by
  unfold g_law_562_b at h
  refine LR.iload (pc := 562) (j := 11) dL_law_562 rfl ?_
  refine LR.iload (pc := 564) (j := 4) dL_law_564 rfl ?_
  refine LR.icmp_ge (pc := 566) (tgt := 1134) dL_law_566 (by decide) (fun c1 => ?_) (fun c1 => ?_)
  · replace h := ite_t c1 h
    refine LR.iconst (pc := 1134) (v := 0) dL_law_1134 (by decide) ?_
    refine LR.istore (pc := 1135) (L2 := [(17, .int 0), (0, .ref q0), (1, .ref (ad 0)), (2, .ref q2), (3, .ref q3), (4, .int x4), (5, .int x5), (9, .int x9), (10, .int x10), (11, .ref q11), (12, .ref q12), (13, .ref q13)]) dL_law_1135 (by decide) rfl ?_
    refine LR.iconst (pc := 1137) (v := (-1)) dL_law_1137 (by decide) ?_
    refine LR.istore (pc := 1138) (L2 := [(18, .int (-1)), (17, .int 0), (0, .ref q0), (1, .ref (ad 0)), (2, .ref q2), (3, .ref q3), (4, .int x4), (5, .int x5), (9, .int x9), (10, .int x10), (11, .ref q11), (12, .ref q12), (13, .ref q13)]) dL_law_1138 (by decide) rfl ?_
    refine LR.iconst (pc := 1140) (v := 0) dL_law_1140 (by decide) ?_
    refine LR.istore (pc := 1141) (L2 := [(19, .int 0), (18, .int (-1)), (17, .int 0), (0, .ref q0), (1, .ref (ad 0)), (2, .ref q2), (3, .ref q3), (4, .int x4), (5, .int x5), (9, .int x9), (10, .int x10), (11, .ref q11), (12, .ref q12), (13, .ref q13)]) dL_law_1141 (by decide) rfl ?_
    exact LR.pick [3, 4, 5, 6, 7, 8, 9, 10, 13, 2, 1, 0] rfl (LR.sub (as2 := [(q2, 44, a2), (q3, 45, a3), (q13, 20, a13)]) [0, 1, 4] rfl rfl (G_law_1143 sL a0 k85 a2 a3 x4 x5 x9 x10 a13 g hk85 (0, (-1), 0, σ) r h))
  · replace h := ite_f c1 h
    refine LR.iconst (pc := 569) (v := 0) dL_law_569 (by decide) ?_
    refine LR.istore (pc := 570) (L2 := [(18, .int 0), (0, .ref q0), (1, .ref (ad 0)), (2, .ref q2), (3, .ref q3), (4, .int x4), (5, .int x5), (9, .int x9), (10, .int x10), (11, .ref q11), (12, .ref q12), (13, .ref q13), (17, .int x17)]) dL_law_570 (by decide) rfl ?_
    exact LR.pick [1, 2, 3, 4, 5, 6, 7, 8, 9, 10, 11, 12, 0] rfl (G_law_572 sL a0 k85 k562 a2 a3 x4 x5 x9 x10 a11 a12 a13 x17 σ g hk85 hk562 0 r h)
theorem G_law_562 {l : Launch} {ad : Nat → Nat} {q0 : Nat} (sL : Nat) (a0 : Nat → Int32) (k85 : (Nat → Int32) × Int32 × HS × Nat → Option (Int32)) {q2 : Nat} {q3 : Nat} {q11 : Nat} {q12 : Nat} {q13 : Nat} (a2 : Nat → Int32) (a3 : Nat → Int32) (x4 : Int32) (x5 : Int32) (x9 : Int32) (x10 : Int32) (a11 : Nat → Int32) (a12 : Nat → Int32) (a13 : Nat → Int32) (hk85 : ∀ (p : (Nat → Int32) × Int32 × HS × Nat) (r : Int32), k85 p = some r → LR l code 45 ret lw_tbl room_1 47 5558 ad [(q0, sL, a0)] (EL r) 85 [(0, .ref q0), (1, .ref (ad 0)), (2, .ref q2), (3, .ref q3), (4, .int x4), (5, .int (p.2.1))] [] (p.2.2.1) [(q2, 44, p.1), (q3, 45, a3)] (p.2.2.2)) (p : Int32 × HS × Nat) (r : Int32) (h : g_law_562 sL a0 k85 a2 a3 x4 x5 x9 x10 a11 a12 a13 p = some r) : LR l code 45 ret lw_tbl room_1 47 5558 ad [(q0, sL, a0)] (EL r) 562 [(0, .ref q0), (1, .ref (ad 0)), (2, .ref q2), (3, .ref q3), (4, .int x4), (5, .int x5), (9, .int x9), (10, .int x10), (11, .ref q11), (12, .ref q12), (13, .ref q13), (17, .int (p.1))] [] (p.2.1) [(q2, 44, a2), (q3, 45, a3), (q11, 64, a11), (q12, 64, a12), (q13, 20, a13)] (p.2.2) := by
  unfold g_law_562 at h
  exact wloop_run (body := fun k562 p => g_law_562_b sL a0 k85 k562 a2 a3 x4 x5 x9 x10 a11 a12 a13 p.1 p.2.1 p.2.2) (Q := (fun p r => LR l code 45 ret lw_tbl room_1 47 5558 ad [(q0, sL, a0)] (EL r) 562 [(0, .ref q0), (1, .ref (ad 0)), (2, .ref q2), (3, .ref q3), (4, .int x4), (5, .int x5), (9, .int x9), (10, .int x10), (11, .ref q11), (12, .ref q12), (13, .ref q13), (17, .int (p.1))] [] (p.2.1) [(q2, 44, a2), (q3, 45, a3), (q11, 64, a11), (q12, 64, a12), (q13, 20, a13)] (p.2.2))) (fun k562 hk562 p r h => G_law_562_b sL a0 k85 k562 a2 a3 x4 x5 x9 x10 a11 a12 a13 p.1 p.2.1 p.2.2 hk85 hk562 r h) fuelN p r h
set_option maxHeartbeats 4000000 in
set_option maxRecDepth 100000 in
theorem G_law_542 {l : Launch} {ad : Nat → Nat} {q0 : Nat} (sL : Nat) (a0 : Nat → Int32) (k85 : (Nat → Int32) × Int32 × HS × Nat → Option (Int32)) (k514 : Int32 × Int32 × HS → Option (Int32)) {q2 : Nat} {q3 : Nat} {q11 : Nat} {q12 : Nat} {q13 : Nat} (a2 : Nat → Int32) (a3 : Nat → Int32) (x4 : Int32) (x5 : Int32) (x9 : Int32) (x10 : Int32) (a11 : Nat → Int32) (a12 : Nat → Int32) (a13 : Nat → Int32) (x16 : Int32) (x17 : Int32) (z0 : Int32) (z1 : Int32) (σ : HS) (g : Nat) (hk85 : ∀ (p : (Nat → Int32) × Int32 × HS × Nat) (r : Int32), k85 p = some r → LR l code 45 ret lw_tbl room_1 47 5558 ad [(q0, sL, a0)] (EL r) 85 [(0, .ref q0), (1, .ref (ad 0)), (2, .ref q2), (3, .ref q3), (4, .int x4), (5, .int (p.2.1))] [] (p.2.2.1) [(q2, 44, p.1), (q3, 45, a3)] (p.2.2.2)) (hk514 : ∀ (p : Int32 × Int32 × HS) (r : Int32), k514 p = some r → LR l code 45 ret lw_tbl room_1 47 5558 ad [(q0, sL, a0)] (EL r) 514 [(0, .ref q0), (1, .ref (ad 0)), (2, .ref q2), (3, .ref q3), (4, .int x4), (5, .int x5), (9, .int x9), (10, .int x10), (11, .ref q11), (12, .ref q12), (13, .ref q13), (16, .int (p.1)), (17, .int (p.2.1))] [] (p.2.2) [(q2, 44, a2), (q3, 45, a3), (q11, 64, a11), (q12, 64, a12), (q13, 20, a13)] g) (r : Int32) (h : g_law_542 sL a0 k85 k514 a2 a3 x4 x5 x9 x10 a11 a12 a13 x16 x17 z0 z1 σ g = some r) : LR l code 45 ret lw_tbl room_1 47 5558 ad [(q0, sL, a0)] (EL r) 542 [(0, .ref q0), (1, .ref (ad 0)), (2, .ref q2), (3, .ref q3), (4, .int x4), (5, .int x5), (9, .int x9), (10, .int x10), (11, .ref q11), (12, .ref q12), (13, .ref q13), (16, .int x16), (17, .int x17)] [.int z0, .int z1] σ [(q2, 44, a2), (q3, 45, a3), (q11, 64, a11), (q12, 64, a12), (q13, 20, a13)] g := by
  unfold g_law_542 at h
  refine LR.icmp_eq (pc := 542) (tgt := 547) dL_law_542 (by decide) (fun c1 => ?_) (fun c1 => ?_)
  · replace h := ite_t c1 h
    refine LR.iload (pc := 547) (j := 11) dL_law_547 rfl ?_
    refine LR.iconst (pc := 549) (v := 4) dL_law_549 (by decide) ?_
    refine LR.idiv (pc := 550) dL_law_550 (by decide) ?_
    refine LR.istore (pc := 551) (L2 := [(16, .int (x16 / 4)), (0, .ref q0), (1, .ref (ad 0)), (2, .ref q2), (3, .ref q3), (4, .int x4), (5, .int x5), (9, .int x9), (10, .int x10), (11, .ref q11), (12, .ref q12), (13, .ref q13), (17, .int x17)]) dL_law_551 (by decide) rfl ?_
    refine LR.iinc (pc := 553) (j := 12) (v := (x17 + (-1))) (L2 := [(17, .int (x17 + (-1))), (16, .int (x16 / 4)), (0, .ref q0), (1, .ref (ad 0)), (2, .ref q2), (3, .ref q3), (4, .int x4), (5, .int x5), (9, .int x9), (10, .int x10), (11, .ref q11), (12, .ref q12), (13, .ref q13)]) dL_law_553 rfl rfl (by decide) rfl ?_
    refine LR.goto (pc := 556) (tgt := 514) dL_law_556 (by decide) ?_
    exact LR.pick [2, 3, 4, 5, 6, 7, 8, 9, 10, 11, 12, 1, 0] rfl (hk514 ((x16 / 4), (x17 + (-1)), σ) r h)
  · replace h := ite_f c1 h
    refine LR.iconst (pc := 545) (v := 0) dL_law_545 (by decide) ?_
    exact LR.fin ⟨congrArg (fun z => [Value.int z]) (Option.some.inj h), dL_law_546⟩
set_option maxHeartbeats 4000000 in
set_option maxRecDepth 100000 in
theorem G_law_514_b {l : Launch} {ad : Nat → Nat} {q0 : Nat} (sL : Nat) (a0 : Nat → Int32) (k85 : (Nat → Int32) × Int32 × HS × Nat → Option (Int32)) (k514 : Int32 × Int32 × HS → Option (Int32)) {q2 : Nat} {q3 : Nat} {q11 : Nat} {q12 : Nat} {q13 : Nat} (a2 : Nat → Int32) (a3 : Nat → Int32) (x4 : Int32) (x5 : Int32) (x9 : Int32) (x10 : Int32) (a11 : Nat → Int32) (a12 : Nat → Int32) (a13 : Nat → Int32) (x16 : Int32) (x17 : Int32) (σ : HS) (g : Nat) (hk85 : ∀ (p : (Nat → Int32) × Int32 × HS × Nat) (r : Int32), k85 p = some r → LR l code 45 ret lw_tbl room_1 47 5558 ad [(q0, sL, a0)] (EL r) 85 [(0, .ref q0), (1, .ref (ad 0)), (2, .ref q2), (3, .ref q3), (4, .int x4), (5, .int (p.2.1))] [] (p.2.2.1) [(q2, 44, p.1), (q3, 45, a3)] (p.2.2.2)) (hk514 : ∀ (p : Int32 × Int32 × HS) (r : Int32), k514 p = some r → LR l code 45 ret lw_tbl room_1 47 5558 ad [(q0, sL, a0)] (EL r) 514 [(0, .ref q0), (1, .ref (ad 0)), (2, .ref q2), (3, .ref q3), (4, .int x4), (5, .int x5), (9, .int x9), (10, .int x10), (11, .ref q11), (12, .ref q12), (13, .ref q13), (16, .int (p.1)), (17, .int (p.2.1))] [] (p.2.2) [(q2, 44, a2), (q3, 45, a3), (q11, 64, a11), (q12, 64, a12), (q13, 20, a13)] g) (r : Int32) (h : g_law_514_b sL a0 k85 k514 a2 a3 x4 x5 x9 x10 a11 a12 a13 x16 x17 σ g = some r) : LR l code 45 ret lw_tbl room_1 47 5558 ad [(q0, sL, a0)] (EL r) 514 [(0, .ref q0), (1, .ref (ad 0)), (2, .ref q2), (3, .ref q3), (4, .int x4), (5, .int x5), (9, .int x9), (10, .int x10), (11, .ref q11), (12, .ref q12), (13, .ref q13), (16, .int x16), (17, .int x17)] [] σ [(q2, 44, a2), (q3, 45, a3), (q11, 64, a11), (q12, 64, a12), (q13, 20, a13)] g := by
  unfold g_law_514_b at h
  refine LR.iload (pc := 514) (j := 12) dL_law_514 rfl ?_
  refine LR.if_lt (pc := 516) (tgt := 559) dL_law_516 (by decide) (fun c1 => ?_) (fun c1 => ?_)
  · replace h := ite_t c1 h
    refine LR.iconst (pc := 559) (v := 0) dL_law_559 (by decide) ?_
    refine LR.istore (pc := 560) (L2 := [(17, .int 0), (0, .ref q0), (1, .ref (ad 0)), (2, .ref q2), (3, .ref q3), (4, .int x4), (5, .int x5), (9, .int x9), (10, .int x10), (11, .ref q11), (12, .ref q12), (13, .ref q13), (16, .int x16)]) dL_law_560 (by decide) rfl ?_
    exact LR.pick [1, 2, 3, 4, 5, 6, 7, 8, 9, 10, 11, 0] rfl (G_law_562 sL a0 k85 a2 a3 x4 x5 x9 x10 a11 a12 a13 hk85 (0, σ, g) r h)
  · replace h := ite_f c1 h
    refine LR.aload_n (pc := 519) (j := 1) dL_law_519 rfl rfl ?_
    refine LR.iload (pc := 520) (j := 12) dL_law_520 rfl ?_
    obtain ⟨r2, h2, h⟩ := bd_some h
    refine LR.callV (pc := 522) (As := [.int x17]) (st := []) (ci := 8) dL_law_522 ⟨cd_X8_together, im_X8_together, se_X8_together, ini_X8⟩ ml_L_81 (A8_together x17 σ _ h2) rfl rfl ⟨rfl, pd_X8_together⟩ ⟨Nat.le_of_ble_eq_true rfl, Nat.le_of_ble_eq_true rfl⟩ ⟨rfl, rfl⟩ rfl rfl rfl (Nat.le_of_ble_eq_true rfl) ?_
    refine LR.iload (pc := 525) (j := 11) dL_law_525 rfl ?_
    refine LR.iconst (pc := 527) (v := 4) dL_law_527 (by decide) ?_
    refine LR.irem (pc := 528) dL_law_528 (by decide) ?_
    refine LR.iconst (pc := 529) (v := 3) dL_law_529 (by decide) ?_
    refine LR.icmp_ne (pc := 530) (tgt := 538) dL_law_530 (by decide) (fun c3 => ?_) (fun c3 => ?_)
    · replace h := ite_f c3 h
      refine LR.iload (pc := 538) (j := 11) dL_law_538 rfl ?_
      refine LR.iconst (pc := 540) (v := 4) dL_law_540 (by decide) ?_
      refine LR.irem (pc := 541) dL_law_541 (by decide) ?_
      exact LR.pick [0, 1, 2, 3, 4, 5, 6, 7, 8, 9, 10, 11, 12] rfl (G_law_542 sL a0 k85 k514 a2 a3 x4 x5 x9 x10 a11 a12 a13 x16 x17 (x16 - x16 / 4 * 4) (r2.1) (r2.2) g hk85 hk514 r h)
    · replace h := ite_t c3 h
      refine LR.bipush (pc := 533) (v := (-9)) dL_law_533 (by decide) ?_
      refine LR.goto (pc := 535) (tgt := 542) dL_law_535 (by decide) ?_
      exact LR.pick [0, 1, 2, 3, 4, 5, 6, 7, 8, 9, 10, 11, 12] rfl (G_law_542 sL a0 k85 k514 a2 a3 x4 x5 x9 x10 a11 a12 a13 x16 x17 (-9) (r2.1) (r2.2) g hk85 hk514 r h)
theorem G_law_514 {l : Launch} {ad : Nat → Nat} {q0 : Nat} (sL : Nat) (a0 : Nat → Int32) (k85 : (Nat → Int32) × Int32 × HS × Nat → Option (Int32)) {q2 : Nat} {q3 : Nat} {q11 : Nat} {q12 : Nat} {q13 : Nat} (a2 : Nat → Int32) (a3 : Nat → Int32) (x4 : Int32) (x5 : Int32) (x9 : Int32) (x10 : Int32) (a11 : Nat → Int32) (a12 : Nat → Int32) (a13 : Nat → Int32) (g : Nat) (hk85 : ∀ (p : (Nat → Int32) × Int32 × HS × Nat) (r : Int32), k85 p = some r → LR l code 45 ret lw_tbl room_1 47 5558 ad [(q0, sL, a0)] (EL r) 85 [(0, .ref q0), (1, .ref (ad 0)), (2, .ref q2), (3, .ref q3), (4, .int x4), (5, .int (p.2.1))] [] (p.2.2.1) [(q2, 44, p.1), (q3, 45, a3)] (p.2.2.2)) (p : Int32 × Int32 × HS) (r : Int32) (h : g_law_514 sL a0 k85 a2 a3 x4 x5 x9 x10 a11 a12 a13 g p = some r) : LR l code 45 ret lw_tbl room_1 47 5558 ad [(q0, sL, a0)] (EL r) 514 [(0, .ref q0), (1, .ref (ad 0)), (2, .ref q2), (3, .ref q3), (4, .int x4), (5, .int x5), (9, .int x9), (10, .int x10), (11, .ref q11), (12, .ref q12), (13, .ref q13), (16, .int (p.1)), (17, .int (p.2.1))] [] (p.2.2) [(q2, 44, a2), (q3, 45, a3), (q11, 64, a11), (q12, 64, a12), (q13, 20, a13)] g := by
  unfold g_law_514 at h
  exact wloop_run (body := fun k514 p => g_law_514_b sL a0 k85 k514 a2 a3 x4 x5 x9 x10 a11 a12 a13 p.1 p.2.1 p.2.2 g) (Q := (fun p r => LR l code 45 ret lw_tbl room_1 47 5558 ad [(q0, sL, a0)] (EL r) 514 [(0, .ref q0), (1, .ref (ad 0)), (2, .ref q2), (3, .ref q3), (4, .int x4), (5, .int x5), (9, .int x9), (10, .int x10), (11, .ref q11), (12, .ref q12), (13, .ref q13), (16, .int (p.1)), (17, .int (p.2.1))] [] (p.2.2) [(q2, 44, a2), (q3, 45, a3), (q11, 64, a11), (q12, 64, a12), (q13, 20, a13)] g)) (fun k514 hk514 p r h => G_law_514_b sL a0 k85 k514 a2 a3 x4 x5 x9 x10 a11 a12 a13 p.1 p.2.1 p.2.2 g hk85 hk514 r h) fuelN p r h
set_option maxHeartbeats 4000000 in
set_option maxRecDepth 100000 in
theorem G_law_470 {l : Launch} {ad : Nat → Nat} {q0 : Nat} (sL : Nat) (a0 : Nat → Int32) (k85 : (Nat → Int32) × Int32 × HS × Nat → Option (Int32)) (k304 : Int32 × Int32 × Int32 × Nat → Option (Int32)) {q2 : Nat} {q3 : Nat} {q11 : Nat} {q12 : Nat} {q13 : Nat} (a2 : Nat → Int32) (a3 : Nat → Int32) (x4 : Int32) (x5 : Int32) (x9 : Int32) (x10 : Int32) (a11 : Nat → Int32) (a12 : Nat → Int32) (a13 : Nat → Int32) (x15 : Int32) (x16 : Int32) (x17 : Int32) (σ : HS) (g : Nat) (hk85 : ∀ (p : (Nat → Int32) × Int32 × HS × Nat) (r : Int32), k85 p = some r → LR l code 45 ret lw_tbl room_1 47 5558 ad [(q0, sL, a0)] (EL r) 85 [(0, .ref q0), (1, .ref (ad 0)), (2, .ref q2), (3, .ref q3), (4, .int x4), (5, .int (p.2.1))] [] (p.2.2.1) [(q2, 44, p.1), (q3, 45, a3)] (p.2.2.2)) (hk304 : ∀ (p : Int32 × Int32 × Int32 × Nat) (r : Int32), k304 p = some r → LR l code 45 ret lw_tbl room_1 47 5558 ad [(q0, sL, a0)] (EL r) 304 [(0, .ref q0), (1, .ref (ad 0)), (2, .ref q2), (3, .ref q3), (4, .int x4), (5, .int x5), (9, .int x9), (10, .int x10), (11, .ref q11), (12, .ref q12), (13, .ref q13), (15, .int (p.1)), (16, .int (p.2.1)), (17, .int (p.2.2.1))] [] σ [(q2, 44, a2), (q3, 45, a3), (q11, 64, a11), (q12, 64, a12), (q13, 20, a13)] (p.2.2.2)) (r : Int32) (h : g_law_470 sL a0 k85 k304 a2 a3 x4 x5 x9 x10 a11 a12 a13 x15 x16 x17 σ g = some r) : LR l code 45 ret lw_tbl room_1 47 5558 ad [(q0, sL, a0)] (EL r) 470 [(0, .ref q0), (1, .ref (ad 0)), (2, .ref q2), (3, .ref q3), (4, .int x4), (5, .int x5), (9, .int x9), (10, .int x10), (11, .ref q11), (12, .ref q12), (13, .ref q13), (15, .int x15), (16, .int x16), (17, .int x17)] [] σ [(q2, 44, a2), (q3, 45, a3), (q11, 64, a11), (q12, 64, a12), (q13, 20, a13)] g := by
  unfold g_law_470 at h
  refine LR.iinc (pc := 470) (j := 13) (v := (x17 + (-1))) (L2 := [(17, .int (x17 + (-1))), (0, .ref q0), (1, .ref (ad 0)), (2, .ref q2), (3, .ref q3), (4, .int x4), (5, .int x5), (9, .int x9), (10, .int x10), (11, .ref q11), (12, .ref q12), (13, .ref q13), (15, .int x15), (16, .int x16)]) dL_law_470 rfl rfl (by decide) rfl ?_
  refine LR.goto (pc := 473) (tgt := 304) dL_law_473 (by decide) ?_
  exact LR.pick [1, 2, 3, 4, 5, 6, 7, 8, 9, 10, 11, 12, 13, 0] rfl (hk304 (x15, x16, (x17 + (-1)), g) r h)
set_option maxHeartbeats 4000000 in
set_option maxRecDepth 100000 in
theorem G_law_423_b {l : Launch} {ad : Nat → Nat} {q0 : Nat} (sL : Nat) (a0 : Nat → Int32) (k85 : (Nat → Int32) × Int32 × HS × Nat → Option (Int32)) (k304 : Int32 × Int32 × Int32 × Nat → Option (Int32)) (k423 : Int32 × Int32 → Option (Int32)) {q2 : Nat} {q3 : Nat} {q11 : Nat} {q12 : Nat} {q13 : Nat} {q21 : Nat} (a2 : Nat → Int32) (a3 : Nat → Int32) (x4 : Int32) (x5 : Int32) (x9 : Int32) (x10 : Int32) (a11 : Nat → Int32) (a12 : Nat → Int32) (a13 : Nat → Int32) (x15 : Int32) (x16 : Int32) (x17 : Int32) (a21 : Nat → Int32) (x22 : Int32) (x23 : Int32) (σ : HS) (g : Nat) (hk85 : ∀ (p : (Nat → Int32) × Int32 × HS × Nat) (r : Int32), k85 p = some r → LR l code 45 ret lw_tbl room_1 47 5558 ad [(q0, sL, a0)] (EL r) 85 [(0, .ref q0), (1, .ref (ad 0)), (2, .ref q2), (3, .ref q3), (4, .int x4), (5, .int (p.2.1))] [] (p.2.2.1) [(q2, 44, p.1), (q3, 45, a3)] (p.2.2.2)) (hk304 : ∀ (p : Int32 × Int32 × Int32 × Nat) (r : Int32), k304 p = some r → LR l code 45 ret lw_tbl room_1 47 5558 ad [(q0, sL, a0)] (EL r) 304 [(0, .ref q0), (1, .ref (ad 0)), (2, .ref q2), (3, .ref q3), (4, .int x4), (5, .int x5), (9, .int x9), (10, .int x10), (11, .ref q11), (12, .ref q12), (13, .ref q13), (15, .int (p.1)), (16, .int (p.2.1)), (17, .int (p.2.2.1))] [] σ [(q2, 44, a2), (q3, 45, a3), (q11, 64, a11), (q12, 64, a12), (q13, 20, a13)] (p.2.2.2)) (hk423 : ∀ (p : Int32 × Int32) (r : Int32), k423 p = some r → LR l code 45 ret lw_tbl room_1 47 5558 ad [(q0, sL, a0)] (EL r) 423 [(0, .ref q0), (1, .ref (ad 0)), (2, .ref q2), (3, .ref q3), (4, .int x4), (5, .int x5), (9, .int x9), (10, .int x10), (11, .ref q11), (12, .ref q12), (13, .ref q13), (15, .int x15), (16, .int x16), (17, .int x17), (21, .ref q21), (22, .int (p.1)), (23, .int (p.2))] [] σ [(q2, 44, a2), (q3, 45, a3), (q11, 64, a11), (q12, 64, a12), (q13, 20, a13), (q21, 16, a21)] g) (r : Int32) (h : g_law_423_b sL a0 k85 k304 k423 a2 a3 x4 x5 x9 x10 a11 a12 a13 x15 x16 x17 a21 x22 x23 σ g = some r) : LR l code 45 ret lw_tbl room_1 47 5558 ad [(q0, sL, a0)] (EL r) 423 [(0, .ref q0), (1, .ref (ad 0)), (2, .ref q2), (3, .ref q3), (4, .int x4), (5, .int x5), (9, .int x9), (10, .int x10), (11, .ref q11), (12, .ref q12), (13, .ref q13), (15, .int x15), (16, .int x16), (17, .int x17), (21, .ref q21), (22, .int x22), (23, .int x23)] [] σ [(q2, 44, a2), (q3, 45, a3), (q11, 64, a11), (q12, 64, a12), (q13, 20, a13), (q21, 16, a21)] g := by
  unfold g_law_423_b at h
  refine LR.iload (pc := 423) (j := 16) dL_law_423 rfl ?_
  refine LR.iload (pc := 425) (j := 4) dL_law_425 rfl ?_
  refine LR.icmp_ge (pc := 427) (tgt := 448) dL_law_427 (by decide) (fun c1 => ?_) (fun c1 => ?_)
  · replace h := ite_t c1 h
    refine LR.aload (pc := 448) (j := 14) dL_law_448 rfl ?_
    refine LR.iconst (pc := 450) (v := 1) dL_law_450 (by decide) ?_
    refine LR.iaload (pc := 451) (j := 5) dL_law_451 rfl (by decide) ?_
    refine LR.if_ge (pc := 452) (tgt := 470) dL_law_452 (by decide) (fun c2 => ?_) (fun c2 => ?_)
    · replace h := ite_t c2 h
      exact LR.pick [0, 1, 2, 3, 4, 5, 6, 7, 8, 9, 10, 11, 12, 13] rfl (LR.sub (as2 := [(q2, 44, a2), (q3, 45, a3), (q11, 64, a11), (q12, 64, a12), (q13, 20, a13)]) [0, 1, 2, 3, 4] rfl rfl (G_law_470 sL a0 k85 k304 a2 a3 x4 x5 x9 x10 a11 a12 a13 x15 x16 x17 σ g hk85 hk304 r h))
    · replace h := ite_f c2 h
      refine LR.iload (pc := 455) (j := 15) dL_law_455 rfl ?_
      refine LR.iload (pc := 457) (j := 11) dL_law_457 rfl ?_
      refine LR.icmp_lt (pc := 459) (tgt := 470) dL_law_459 (by decide) (fun c3 => ?_) (fun c3 => ?_)
      · replace h := ite_t c3 h
        exact LR.pick [0, 1, 2, 3, 4, 5, 6, 7, 8, 9, 10, 11, 12, 13] rfl (LR.sub (as2 := [(q2, 44, a2), (q3, 45, a3), (q11, 64, a11), (q12, 64, a12), (q13, 20, a13)]) [0, 1, 2, 3, 4] rfl rfl (G_law_470 sL a0 k85 k304 a2 a3 x4 x5 x9 x10 a11 a12 a13 x15 x16 x17 σ g hk85 hk304 r h))
      · replace h := ite_f c3 h
        refine LR.iload (pc := 462) (j := 15) dL_law_462 rfl ?_
        refine LR.istore (pc := 464) (L2 := [(15, .int x22), (0, .ref q0), (1, .ref (ad 0)), (2, .ref q2), (3, .ref q3), (4, .int x4), (5, .int x5), (9, .int x9), (10, .int x10), (11, .ref q11), (12, .ref q12), (13, .ref q13), (16, .int x16), (17, .int x17), (21, .ref q21), (22, .int x22), (23, .int x23)]) dL_law_464 (by decide) rfl ?_
        refine LR.iload (pc := 466) (j := 13) dL_law_466 rfl ?_
        refine LR.istore (pc := 468) (L2 := [(16, .int x17), (15, .int x22), (0, .ref q0), (1, .ref (ad 0)), (2, .ref q2), (3, .ref q3), (4, .int x4), (5, .int x5), (9, .int x9), (10, .int x10), (11, .ref q11), (12, .ref q12), (13, .ref q13), (17, .int x17), (21, .ref q21), (22, .int x22), (23, .int x23)]) dL_law_468 (by decide) rfl ?_
        exact LR.pick [2, 3, 4, 5, 6, 7, 8, 9, 10, 11, 12, 1, 0, 13] rfl (LR.sub (as2 := [(q2, 44, a2), (q3, 45, a3), (q11, 64, a11), (q12, 64, a12), (q13, 20, a13)]) [0, 1, 2, 3, 4] rfl rfl (G_law_470 sL a0 k85 k304 a2 a3 x4 x5 x9 x10 a11 a12 a13 x22 x17 x17 σ g hk85 hk304 r h))
  · replace h := ite_f c1 h
    refine LR.iload (pc := 430) (j := 15) dL_law_430 rfl ?_
    refine LR.aload (pc := 432) (j := 14) dL_law_432 rfl ?_
    refine LR.iconst (pc := 434) (v := 3) dL_law_434 (by decide) ?_
    refine LR.iload (pc := 435) (j := 16) dL_law_435 rfl ?_
    refine LR.iadd (pc := 437) dL_law_437 ?_
    obtain ⟨c4, h⟩ := gn_some h
    refine LR.iaload (pc := 438) (j := 5) dL_law_438 rfl c4 ?_
    refine LR.iadd (pc := 439) dL_law_439 ?_
    refine LR.istore (pc := 440) (L2 := [(22, .int (x22 + (a21 ((3 + x23) : Int32).toNatClampNeg))), (0, .ref q0), (1, .ref (ad 0)), (2, .ref q2), (3, .ref q3), (4, .int x4), (5, .int x5), (9, .int x9), (10, .int x10), (11, .ref q11), (12, .ref q12), (13, .ref q13), (15, .int x15), (16, .int x16), (17, .int x17), (21, .ref q21), (23, .int x23)]) dL_law_440 (by decide) rfl ?_
    refine LR.iinc (pc := 442) (j := 16) (v := (x23 + 1)) (L2 := [(23, .int (x23 + 1)), (22, .int (x22 + (a21 ((3 + x23) : Int32).toNatClampNeg))), (0, .ref q0), (1, .ref (ad 0)), (2, .ref q2), (3, .ref q3), (4, .int x4), (5, .int x5), (9, .int x9), (10, .int x10), (11, .ref q11), (12, .ref q12), (13, .ref q13), (15, .int x15), (16, .int x16), (17, .int x17), (21, .ref q21)]) dL_law_442 rfl rfl (by decide) rfl ?_
    refine LR.goto (pc := 445) (tgt := 423) dL_law_445 (by decide) ?_
    exact LR.pick [2, 3, 4, 5, 6, 7, 8, 9, 10, 11, 12, 13, 14, 15, 16, 1, 0] rfl (hk423 ((x22 + (a21 ((3 + x23) : Int32).toNatClampNeg)), (x23 + 1)) r h)
theorem G_law_423 {l : Launch} {ad : Nat → Nat} {q0 : Nat} (sL : Nat) (a0 : Nat → Int32) (k85 : (Nat → Int32) × Int32 × HS × Nat → Option (Int32)) (k304 : Int32 × Int32 × Int32 × Nat → Option (Int32)) {q2 : Nat} {q3 : Nat} {q11 : Nat} {q12 : Nat} {q13 : Nat} {q21 : Nat} (a2 : Nat → Int32) (a3 : Nat → Int32) (x4 : Int32) (x5 : Int32) (x9 : Int32) (x10 : Int32) (a11 : Nat → Int32) (a12 : Nat → Int32) (a13 : Nat → Int32) (x15 : Int32) (x16 : Int32) (x17 : Int32) (a21 : Nat → Int32) (σ : HS) (g : Nat) (hk85 : ∀ (p : (Nat → Int32) × Int32 × HS × Nat) (r : Int32), k85 p = some r → LR l code 45 ret lw_tbl room_1 47 5558 ad [(q0, sL, a0)] (EL r) 85 [(0, .ref q0), (1, .ref (ad 0)), (2, .ref q2), (3, .ref q3), (4, .int x4), (5, .int (p.2.1))] [] (p.2.2.1) [(q2, 44, p.1), (q3, 45, a3)] (p.2.2.2)) (hk304 : ∀ (p : Int32 × Int32 × Int32 × Nat) (r : Int32), k304 p = some r → LR l code 45 ret lw_tbl room_1 47 5558 ad [(q0, sL, a0)] (EL r) 304 [(0, .ref q0), (1, .ref (ad 0)), (2, .ref q2), (3, .ref q3), (4, .int x4), (5, .int x5), (9, .int x9), (10, .int x10), (11, .ref q11), (12, .ref q12), (13, .ref q13), (15, .int (p.1)), (16, .int (p.2.1)), (17, .int (p.2.2.1))] [] σ [(q2, 44, a2), (q3, 45, a3), (q11, 64, a11), (q12, 64, a12), (q13, 20, a13)] (p.2.2.2)) (p : Int32 × Int32) (r : Int32) (h : g_law_423 sL a0 k85 k304 a2 a3 x4 x5 x9 x10 a11 a12 a13 x15 x16 x17 a21 σ g p = some r) : LR l code 45 ret lw_tbl room_1 47 5558 ad [(q0, sL, a0)] (EL r) 423 [(0, .ref q0), (1, .ref (ad 0)), (2, .ref q2), (3, .ref q3), (4, .int x4), (5, .int x5), (9, .int x9), (10, .int x10), (11, .ref q11), (12, .ref q12), (13, .ref q13), (15, .int x15), (16, .int x16), (17, .int x17), (21, .ref q21), (22, .int (p.1)), (23, .int (p.2))] [] σ [(q2, 44, a2), (q3, 45, a3), (q11, 64, a11), (q12, 64, a12), (q13, 20, a13), (q21, 16, a21)] g := by
  unfold g_law_423 at h
  exact wloop_run (body := fun k423 p => g_law_423_b sL a0 k85 k304 k423 a2 a3 x4 x5 x9 x10 a11 a12 a13 x15 x16 x17 a21 p.1 p.2 σ g) (Q := (fun p r => LR l code 45 ret lw_tbl room_1 47 5558 ad [(q0, sL, a0)] (EL r) 423 [(0, .ref q0), (1, .ref (ad 0)), (2, .ref q2), (3, .ref q3), (4, .int x4), (5, .int x5), (9, .int x9), (10, .int x10), (11, .ref q11), (12, .ref q12), (13, .ref q13), (15, .int x15), (16, .int x16), (17, .int x17), (21, .ref q21), (22, .int (p.1)), (23, .int (p.2))] [] σ [(q2, 44, a2), (q3, 45, a3), (q11, 64, a11), (q12, 64, a12), (q13, 20, a13), (q21, 16, a21)] g)) (fun k423 hk423 p r h => G_law_423_b sL a0 k85 k304 k423 a2 a3 x4 x5 x9 x10 a11 a12 a13 x15 x16 x17 a21 p.1 p.2 σ g hk85 hk304 hk423 r h) fuelN p r h
set_option maxHeartbeats 4000000 in
set_option maxRecDepth 100000 in
theorem G_law_390 {l : Launch} {ad : Nat → Nat} {q0 : Nat} (sL : Nat) (a0 : Nat → Int32) (k85 : (Nat → Int32) × Int32 × HS × Nat → Option (Int32)) (k304 : Int32 × Int32 × Int32 × Nat → Option (Int32)) (k328 : (Nat → Int32) × Int32 × Int32 × Int32 → Option (Int32)) {q2 : Nat} {q3 : Nat} {q11 : Nat} {q12 : Nat} {q13 : Nat} {q18 : Nat} (a2 : Nat → Int32) (a3 : Nat → Int32) (x4 : Int32) (x5 : Int32) (x9 : Int32) (x10 : Int32) (a11 : Nat → Int32) (a12 : Nat → Int32) (a13 : Nat → Int32) (x15 : Int32) (x16 : Int32) (x17 : Int32) (a18 : Nat → Int32) (x19 : Int32) (x21 : Int32) (z0 : Int32) (σ : HS) (g : Nat) (hk85 : ∀ (p : (Nat → Int32) × Int32 × HS × Nat) (r : Int32), k85 p = some r → LR l code 45 ret lw_tbl room_1 47 5558 ad [(q0, sL, a0)] (EL r) 85 [(0, .ref q0), (1, .ref (ad 0)), (2, .ref q2), (3, .ref q3), (4, .int x4), (5, .int (p.2.1))] [] (p.2.2.1) [(q2, 44, p.1), (q3, 45, a3)] (p.2.2.2)) (hk304 : ∀ (p : Int32 × Int32 × Int32 × Nat) (r : Int32), k304 p = some r → LR l code 45 ret lw_tbl room_1 47 5558 ad [(q0, sL, a0)] (EL r) 304 [(0, .ref q0), (1, .ref (ad 0)), (2, .ref q2), (3, .ref q3), (4, .int x4), (5, .int x5), (9, .int x9), (10, .int x10), (11, .ref q11), (12, .ref q12), (13, .ref q13), (15, .int (p.1)), (16, .int (p.2.1)), (17, .int (p.2.2.1))] [] σ [(q2, 44, a2), (q3, 45, a3), (q11, 64, a11), (q12, 64, a12), (q13, 20, a13)] (p.2.2.2)) (hk328 : ∀ (p : (Nat → Int32) × Int32 × Int32 × Int32) (r : Int32), k328 p = some r → LR l code 45 ret lw_tbl room_1 47 5558 ad [(q0, sL, a0)] (EL r) 328 [(0, .ref q0), (1, .ref (ad 0)), (2, .ref q2), (3, .ref q3), (4, .int x4), (5, .int x5), (9, .int x9), (10, .int x10), (11, .ref q11), (12, .ref q12), (13, .ref q13), (15, .int x15), (16, .int x16), (17, .int x17), (18, .ref q18), (19, .int (p.2.1)), (20, .int (p.2.2.1)), (21, .int (p.2.2.2))] [] σ [(q2, 44, a2), (q3, 45, a3), (q11, 64, a11), (q12, 64, a12), (q13, 20, a13), (q18, 6, p.1)] g) (r : Int32) (h : g_law_390 sL a0 k85 k304 k328 a2 a3 x4 x5 x9 x10 a11 a12 a13 x15 x16 x17 a18 x19 x21 z0 σ g = some r) : LR l code 45 ret lw_tbl room_1 47 5558 ad [(q0, sL, a0)] (EL r) 390 [(0, .ref q0), (1, .ref (ad 0)), (2, .ref q2), (3, .ref q3), (4, .int x4), (5, .int x5), (9, .int x9), (10, .int x10), (11, .ref q11), (12, .ref q12), (13, .ref q13), (15, .int x15), (16, .int x16), (17, .int x17), (18, .ref q18), (19, .int x19), (21, .int x21)] [.int z0] σ [(q2, 44, a2), (q3, 45, a3), (q11, 64, a11), (q12, 64, a12), (q13, 20, a13), (q18, 6, a18)] g := by
  unfold g_law_390 at h
  refine LR.istore (pc := 390) (L2 := [(20, .int z0), (0, .ref q0), (1, .ref (ad 0)), (2, .ref q2), (3, .ref q3), (4, .int x4), (5, .int x5), (9, .int x9), (10, .int x10), (11, .ref q11), (12, .ref q12), (13, .ref q13), (15, .int x15), (16, .int x16), (17, .int x17), (18, .ref q18), (19, .int x19), (21, .int x21)]) dL_law_390 (by decide) rfl ?_
  refine LR.iinc (pc := 392) (j := 17) (v := (x21 + (-1))) (L2 := [(21, .int (x21 + (-1))), (20, .int z0), (0, .ref q0), (1, .ref (ad 0)), (2, .ref q2), (3, .ref q3), (4, .int x4), (5, .int x5), (9, .int x9), (10, .int x10), (11, .ref q11), (12, .ref q12), (13, .ref q13), (15, .int x15), (16, .int x16), (17, .int x17), (18, .ref q18), (19, .int x19)]) dL_law_392 rfl rfl (by decide) rfl ?_
  refine LR.goto (pc := 395) (tgt := 328) dL_law_395 (by decide) ?_
  exact LR.pick [2, 3, 4, 5, 6, 7, 8, 9, 10, 11, 12, 13, 14, 15, 16, 17, 1, 0] rfl (hk328 (a18, x19, z0, (x21 + (-1))) r h)
set_option maxHeartbeats 4000000 in
set_option maxRecDepth 100000 in
theorem G_law_389 {l : Launch} {ad : Nat → Nat} {q0 : Nat} (sL : Nat) (a0 : Nat → Int32) (k85 : (Nat → Int32) × Int32 × HS × Nat → Option (Int32)) (k304 : Int32 × Int32 × Int32 × Nat → Option (Int32)) (k328 : (Nat → Int32) × Int32 × Int32 × Int32 → Option (Int32)) {q2 : Nat} {q3 : Nat} {q11 : Nat} {q12 : Nat} {q13 : Nat} {q18 : Nat} (a2 : Nat → Int32) (a3 : Nat → Int32) (x4 : Int32) (x5 : Int32) (x9 : Int32) (x10 : Int32) (a11 : Nat → Int32) (a12 : Nat → Int32) (a13 : Nat → Int32) (x15 : Int32) (x16 : Int32) (x17 : Int32) (a18 : Nat → Int32) (x19 : Int32) (x21 : Int32) (σ : HS) (g : Nat) (hk85 : ∀ (p : (Nat → Int32) × Int32 × HS × Nat) (r : Int32), k85 p = some r → LR l code 45 ret lw_tbl room_1 47 5558 ad [(q0, sL, a0)] (EL r) 85 [(0, .ref q0), (1, .ref (ad 0)), (2, .ref q2), (3, .ref q3), (4, .int x4), (5, .int (p.2.1))] [] (p.2.2.1) [(q2, 44, p.1), (q3, 45, a3)] (p.2.2.2)) (hk304 : ∀ (p : Int32 × Int32 × Int32 × Nat) (r : Int32), k304 p = some r → LR l code 45 ret lw_tbl room_1 47 5558 ad [(q0, sL, a0)] (EL r) 304 [(0, .ref q0), (1, .ref (ad 0)), (2, .ref q2), (3, .ref q3), (4, .int x4), (5, .int x5), (9, .int x9), (10, .int x10), (11, .ref q11), (12, .ref q12), (13, .ref q13), (15, .int (p.1)), (16, .int (p.2.1)), (17, .int (p.2.2.1))] [] σ [(q2, 44, a2), (q3, 45, a3), (q11, 64, a11), (q12, 64, a12), (q13, 20, a13)] (p.2.2.2)) (hk328 : ∀ (p : (Nat → Int32) × Int32 × Int32 × Int32) (r : Int32), k328 p = some r → LR l code 45 ret lw_tbl room_1 47 5558 ad [(q0, sL, a0)] (EL r) 328 [(0, .ref q0), (1, .ref (ad 0)), (2, .ref q2), (3, .ref q3), (4, .int x4), (5, .int x5), (9, .int x9), (10, .int x10), (11, .ref q11), (12, .ref q12), (13, .ref q13), (15, .int x15), (16, .int x16), (17, .int x17), (18, .ref q18), (19, .int (p.2.1)), (20, .int (p.2.2.1)), (21, .int (p.2.2.2))] [] σ [(q2, 44, a2), (q3, 45, a3), (q11, 64, a11), (q12, 64, a12), (q13, 20, a13), (q18, 6, p.1)] g) (r : Int32) (h : g_law_389 sL a0 k85 k304 k328 a2 a3 x4 x5 x9 x10 a11 a12 a13 x15 x16 x17 a18 x19 x21 σ g = some r) : LR l code 45 ret lw_tbl room_1 47 5558 ad [(q0, sL, a0)] (EL r) 389 [(0, .ref q0), (1, .ref (ad 0)), (2, .ref q2), (3, .ref q3), (4, .int x4), (5, .int x5), (9, .int x9), (10, .int x10), (11, .ref q11), (12, .ref q12), (13, .ref q13), (15, .int x15), (16, .int x16), (17, .int x17), (18, .ref q18), (19, .int x19), (21, .int x21)] [] σ [(q2, 44, a2), (q3, 45, a3), (q11, 64, a11), (q12, 64, a12), (q13, 20, a13), (q18, 6, a18)] g := by
  unfold g_law_389 at h
  refine LR.iconst (pc := 389) (v := 0) dL_law_389 (by decide) ?_
  exact LR.pick [0, 1, 2, 3, 4, 5, 6, 7, 8, 9, 10, 11, 12, 13, 14, 15, 16] rfl (G_law_390 sL a0 k85 k304 k328 a2 a3 x4 x5 x9 x10 a11 a12 a13 x15 x16 x17 a18 x19 x21 0 σ g hk85 hk304 hk328 r h)
set_option maxHeartbeats 4000000 in
set_option maxRecDepth 100000 in
theorem G_law_354 {l : Launch} {ad : Nat → Nat} {q0 : Nat} (sL : Nat) (a0 : Nat → Int32) (k85 : (Nat → Int32) × Int32 × HS × Nat → Option (Int32)) (k304 : Int32 × Int32 × Int32 × Nat → Option (Int32)) (k328 : (Nat → Int32) × Int32 × Int32 × Int32 → Option (Int32)) {q2 : Nat} {q3 : Nat} {q11 : Nat} {q12 : Nat} {q13 : Nat} {q18 : Nat} (a2 : Nat → Int32) (a3 : Nat → Int32) (x4 : Int32) (x5 : Int32) (x9 : Int32) (x10 : Int32) (a11 : Nat → Int32) (a12 : Nat → Int32) (a13 : Nat → Int32) (x15 : Int32) (x16 : Int32) (x17 : Int32) (a18 : Nat → Int32) (x19 : Int32) (x20 : Int32) (x21 : Int32) (z0 : Int32) (z1 : Int32) (σ : HS) (g : Nat) (hk85 : ∀ (p : (Nat → Int32) × Int32 × HS × Nat) (r : Int32), k85 p = some r → LR l code 45 ret lw_tbl room_1 47 5558 ad [(q0, sL, a0)] (EL r) 85 [(0, .ref q0), (1, .ref (ad 0)), (2, .ref q2), (3, .ref q3), (4, .int x4), (5, .int (p.2.1))] [] (p.2.2.1) [(q2, 44, p.1), (q3, 45, a3)] (p.2.2.2)) (hk304 : ∀ (p : Int32 × Int32 × Int32 × Nat) (r : Int32), k304 p = some r → LR l code 45 ret lw_tbl room_1 47 5558 ad [(q0, sL, a0)] (EL r) 304 [(0, .ref q0), (1, .ref (ad 0)), (2, .ref q2), (3, .ref q3), (4, .int x4), (5, .int x5), (9, .int x9), (10, .int x10), (11, .ref q11), (12, .ref q12), (13, .ref q13), (15, .int (p.1)), (16, .int (p.2.1)), (17, .int (p.2.2.1))] [] σ [(q2, 44, a2), (q3, 45, a3), (q11, 64, a11), (q12, 64, a12), (q13, 20, a13)] (p.2.2.2)) (hk328 : ∀ (p : (Nat → Int32) × Int32 × Int32 × Int32) (r : Int32), k328 p = some r → LR l code 45 ret lw_tbl room_1 47 5558 ad [(q0, sL, a0)] (EL r) 328 [(0, .ref q0), (1, .ref (ad 0)), (2, .ref q2), (3, .ref q3), (4, .int x4), (5, .int x5), (9, .int x9), (10, .int x10), (11, .ref q11), (12, .ref q12), (13, .ref q13), (15, .int x15), (16, .int x16), (17, .int x17), (18, .ref q18), (19, .int (p.2.1)), (20, .int (p.2.2.1)), (21, .int (p.2.2.2))] [] σ [(q2, 44, a2), (q3, 45, a3), (q11, 64, a11), (q12, 64, a12), (q13, 20, a13), (q18, 6, p.1)] g) (r : Int32) (h : g_law_354 sL a0 k85 k304 k328 a2 a3 x4 x5 x9 x10 a11 a12 a13 x15 x16 x17 a18 x19 x20 x21 z0 z1 σ g = some r) : LR l code 45 ret lw_tbl room_1 47 5558 ad [(q0, sL, a0)] (EL r) 354 [(0, .ref q0), (1, .ref (ad 0)), (2, .ref q2), (3, .ref q3), (4, .int x4), (5, .int x5), (9, .int x9), (10, .int x10), (11, .ref q11), (12, .ref q12), (13, .ref q13), (15, .int x15), (16, .int x16), (17, .int x17), (18, .ref q18), (19, .int x19), (20, .int x20), (21, .int x21)] [.int z0, .int z1, .ref q18] σ [(q2, 44, a2), (q3, 45, a3), (q11, 64, a11), (q12, 64, a12), (q13, 20, a13), (q18, 6, a18)] g := by
  unfold g_law_354 at h
  obtain ⟨c1, h⟩ := gn_some h
  obtain ⟨b2, e2, h⟩ := bd_some h
  replace e2 := Option.some.inj e2
  refine LR.iastore (pc := 354) (j := 5) (as2 := [(q2, 44, a2), (q3, 45, a3), (q11, 64, a11), (q12, 64, a12), (q13, 20, a13), (q18, 6, b2)]) dL_law_354 rfl c1 (by subst e2; rfl) ?_
  refine LR.iload (pc := 355) (j := 15) dL_law_355 rfl ?_
  refine LR.iconst (pc := 357) (v := 4) dL_law_357 (by decide) ?_
  refine LR.idiv (pc := 358) dL_law_358 (by decide) ?_
  refine LR.istore (pc := 359) (L2 := [(19, .int (x19 / 4)), (0, .ref q0), (1, .ref (ad 0)), (2, .ref q2), (3, .ref q3), (4, .int x4), (5, .int x5), (9, .int x9), (10, .int x10), (11, .ref q11), (12, .ref q12), (13, .ref q13), (15, .int x15), (16, .int x16), (17, .int x17), (18, .ref q18), (20, .int x20), (21, .int x21)]) dL_law_359 (by decide) rfl ?_
  refine LR.iload (pc := 361) (j := 16) dL_law_361 rfl ?_
  refine LR.if_eq (pc := 363) (tgt := 389) dL_law_363 (by decide) (fun c3 => ?_) (fun c3 => ?_)
  · replace h := ite_t c3 h
    exact LR.pick [1, 2, 3, 4, 5, 6, 7, 8, 9, 10, 11, 12, 13, 14, 15, 0, 17] rfl (G_law_389 sL a0 k85 k304 k328 a2 a3 x4 x5 x9 x10 a11 a12 a13 x15 x16 x17 b2 (x19 / 4) x21 σ g hk85 hk304 hk328 r h)
  · replace h := ite_f c3 h
    refine LR.aload (pc := 366) (j := 15) dL_law_366 rfl ?_
    refine LR.iload (pc := 368) (j := 17) dL_law_368 rfl ?_
    obtain ⟨c4, h⟩ := gn_some h
    refine LR.iaload (pc := 370) (j := 5) dL_law_370 rfl c4 ?_
    refine LR.aload_n (pc := 371) (j := 3) dL_law_371 rfl rfl ?_
    refine LR.bipush (pc := 372) (v := 9) dL_law_372 (by decide) ?_
    refine LR.aload_n (pc := 374) (j := 3) dL_law_374 rfl rfl ?_
    refine LR.iload (pc := 375) (j := 17) dL_law_375 rfl ?_
    obtain ⟨r5, h5, h⟩ := bd_some h
    refine LR.callS0 (pc := 377) (As := [.ref q2, .int x21]) (st := [.int 9, .ref q2, .int (b2 (x21 : Int32).toNatClampNeg)]) (as2 := []) (asR := [(q2, 44, a2), (q3, 45, a3), (q11, 64, a11), (q12, 64, a12), (q13, 20, a13), (q18, 6, b2)]) (ro2 := [(q2, 44, a2)]) (mg := 0) (FIN := (FI σ r5)) [] [0, 1, 2, 3, 4, 5] dL_law_377 ⟨cd_L_who, sm_L_who, ini_L⟩ ml_L_33 (G_who a2 x21 r5 h5) ⟨rfl, pd_L_who⟩ ⟨Nat.le_of_ble_eq_true rfl, Nat.le_of_ble_eq_true rfl⟩ ⟨rfl, rfl⟩ rfl rfl rfl rfl rfl (by decide) (Or.inr ⟨[0], rfl, by decide⟩) rfl (Nat.le_of_ble_eq_true rfl) (fun v9 σ9 as9 hF9 => ?_)
    obtain ⟨rfl, e9, rfl⟩ := hF9; replace e9 := e9.symm; subst e9
    show LR l code 45 ret lw_tbl room_1 47 5558 ad [(q0, sL, a0)] (EL r) 380 [(19, .int (x19 / 4)), (0, .ref q0), (1, .ref (ad 0)), (2, .ref q2), (3, .ref q3), (4, .int x4), (5, .int x5), (9, .int x9), (10, .int x10), (11, .ref q11), (12, .ref q12), (13, .ref q13), (15, .int x15), (16, .int x16), (17, .int x17), (18, .ref q18), (20, .int x20), (21, .int x21)] [.int r5, .int 9, .ref q2, .int (b2 (x21 : Int32).toNatClampNeg)] σ [(q2, 44, a2), (q3, 45, a3), (q11, 64, a11), (q12, 64, a12), (q13, 20, a13), (q18, 6, b2)] g
    refine LR.iadd (pc := 380) dL_law_380 ?_
    obtain ⟨c6, h⟩ := gn_some h
    refine LR.iaload (pc := 381) (j := 0) dL_law_381 rfl c6 ?_
    refine LR.icmp_ge (pc := 382) (tgt := 389) dL_law_382 (by decide) (fun c7 => ?_) (fun c7 => ?_)
    · replace h := ite_t c7 h
      exact LR.pick [1, 2, 3, 4, 5, 6, 7, 8, 9, 10, 11, 12, 13, 14, 15, 0, 17] rfl (G_law_389 sL a0 k85 k304 k328 a2 a3 x4 x5 x9 x10 a11 a12 a13 x15 x16 x17 b2 (x19 / 4) x21 σ g hk85 hk304 hk328 r h)
    · replace h := ite_f c7 h
      refine LR.iconst (pc := 385) (v := 1) dL_law_385 (by decide) ?_
      refine LR.goto (pc := 386) (tgt := 390) dL_law_386 (by decide) ?_
      exact LR.pick [1, 2, 3, 4, 5, 6, 7, 8, 9, 10, 11, 12, 13, 14, 15, 0, 17] rfl (G_law_390 sL a0 k85 k304 k328 a2 a3 x4 x5 x9 x10 a11 a12 a13 x15 x16 x17 b2 (x19 / 4) x21 1 σ g hk85 hk304 hk328 r h)
set_option maxHeartbeats 4000000 in
set_option maxRecDepth 100000 in
theorem G_law_328_b {l : Launch} {ad : Nat → Nat} {q0 : Nat} (sL : Nat) (a0 : Nat → Int32) (k85 : (Nat → Int32) × Int32 × HS × Nat → Option (Int32)) (k304 : Int32 × Int32 × Int32 × Nat → Option (Int32)) (k328 : (Nat → Int32) × Int32 × Int32 × Int32 → Option (Int32)) {q2 : Nat} {q3 : Nat} {q11 : Nat} {q12 : Nat} {q13 : Nat} {q18 : Nat} (a2 : Nat → Int32) (a3 : Nat → Int32) (x4 : Int32) (x5 : Int32) (x9 : Int32) (x10 : Int32) (a11 : Nat → Int32) (a12 : Nat → Int32) (a13 : Nat → Int32) (x15 : Int32) (x16 : Int32) (x17 : Int32) (a18 : Nat → Int32) (x19 : Int32) (x20 : Int32) (x21 : Int32) (σ : HS) (g : Nat) (hk85 : ∀ (p : (Nat → Int32) × Int32 × HS × Nat) (r : Int32), k85 p = some r → LR l code 45 ret lw_tbl room_1 47 5558 ad [(q0, sL, a0)] (EL r) 85 [(0, .ref q0), (1, .ref (ad 0)), (2, .ref q2), (3, .ref q3), (4, .int x4), (5, .int (p.2.1))] [] (p.2.2.1) [(q2, 44, p.1), (q3, 45, a3)] (p.2.2.2)) (hk304 : ∀ (p : Int32 × Int32 × Int32 × Nat) (r : Int32), k304 p = some r → LR l code 45 ret lw_tbl room_1 47 5558 ad [(q0, sL, a0)] (EL r) 304 [(0, .ref q0), (1, .ref (ad 0)), (2, .ref q2), (3, .ref q3), (4, .int x4), (5, .int x5), (9, .int x9), (10, .int x10), (11, .ref q11), (12, .ref q12), (13, .ref q13), (15, .int (p.1)), (16, .int (p.2.1)), (17, .int (p.2.2.1))] [] σ [(q2, 44, a2), (q3, 45, a3), (q11, 64, a11), (q12, 64, a12), (q13, 20, a13)] (p.2.2.2)) (hk328 : ∀ (p : (Nat → Int32) × Int32 × Int32 × Int32) (r : Int32), k328 p = some r → LR l code 45 ret lw_tbl room_1 47 5558 ad [(q0, sL, a0)] (EL r) 328 [(0, .ref q0), (1, .ref (ad 0)), (2, .ref q2), (3, .ref q3), (4, .int x4), (5, .int x5), (9, .int x9), (10, .int x10), (11, .ref q11), (12, .ref q12), (13, .ref q13), (15, .int x15), (16, .int x16), (17, .int x17), (18, .ref q18), (19, .int (p.2.1)), (20, .int (p.2.2.1)), (21, .int (p.2.2.2))] [] σ [(q2, 44, a2), (q3, 45, a3), (q11, 64, a11), (q12, 64, a12), (q13, 20, a13), (q18, 6, p.1)] g) (r : Int32) (h : g_law_328_b sL a0 k85 k304 k328 a2 a3 x4 x5 x9 x10 a11 a12 a13 x15 x16 x17 a18 x19 x20 x21 σ g = some r) : LR l code 45 ret lw_tbl room_1 47 5558 ad [(q0, sL, a0)] (EL r) 328 [(0, .ref q0), (1, .ref (ad 0)), (2, .ref q2), (3, .ref q3), (4, .int x4), (5, .int x5), (9, .int x9), (10, .int x10), (11, .ref q11), (12, .ref q12), (13, .ref q13), (15, .int x15), (16, .int x16), (17, .int x17), (18, .ref q18), (19, .int x19), (20, .int x20), (21, .int x21)] [] σ [(q2, 44, a2), (q3, 45, a3), (q11, 64, a11), (q12, 64, a12), (q13, 20, a13), (q18, 6, a18)] g := by
  unfold g_law_328_b at h
  refine LR.iload (pc := 328) (j := 17) dL_law_328 rfl ?_
  refine LR.if_lt (pc := 330) (tgt := 398) dL_law_330 (by decide) (fun c1 => ?_) (fun c1 => ?_)
  · replace h := ite_t c1 h
    refine LR.iload (pc := 398) (j := 16) dL_law_398 rfl ?_
    refine LR.if_eq (pc := 400) (tgt := 470) dL_law_400 (by decide) (fun c2 => ?_) (fun c2 => ?_)
    · replace h := ite_t c2 h
      exact LR.pick [0, 1, 2, 3, 4, 5, 6, 7, 8, 9, 10, 11, 12, 13] rfl (LR.sub (as2 := [(q2, 44, a2), (q3, 45, a3), (q11, 64, a11), (q12, 64, a12), (q13, 20, a13)]) [0, 1, 2, 3, 4] rfl rfl (G_law_470 sL a0 k85 k304 a2 a3 x4 x5 x9 x10 a11 a12 a13 x15 x16 x17 σ g hk85 hk304 r h))
    · replace h := ite_f c2 h
      refine LR.aload_n (pc := 403) (j := 2) dL_law_403 rfl rfl ?_
      refine LR.aload_n (pc := 404) (j := 3) dL_law_404 rfl rfl ?_
      refine LR.aload (pc := 405) (j := 14) dL_law_405 rfl ?_
      refine LR.iload (pc := 407) (j := 7) dL_law_407 rfl ?_
      refine LR.aload_n (pc := 409) (j := 2) dL_law_409 rfl rfl ?_
      refine LR.iconst (pc := 410) (v := 2) dL_law_410 (by decide) ?_
      refine LR.iaload (pc := 411) (j := 0) dL_law_411 rfl (by decide) ?_
      obtain ⟨r3, h3, h⟩ := bd_some h
      obtain ⟨c4, h⟩ := gn_some h
      refine LR.callS (pc := 412) (As := [.ref q2, .ref q3, .ref q18, .int x10, .int (a2 (2 : Int32).toNatClampNeg)]) (st := []) (as2 := []) (asR := [(q2, 44, a2), (q3, 45, a3), (q11, 64, a11), (q12, 64, a12), (q13, 20, a13), (q18, 6, a18)]) (ro2 := [(q2, 44, a2), (q3, 45, a3), (q18, 6, a18)]) (mg := 1) (FIN := (FA 16 σ r3)) [] [0, 1, 2, 3, 4, 5] dL_law_412 ⟨cd_L_day, sm_L_day, ini_L⟩ ml_L_77 (G_day a2 a3 a18 x10 (a2 (2 : Int32).toNatClampNeg) r3 h3) ⟨rfl, pd_L_day⟩ ⟨Nat.le_of_ble_eq_true rfl, Nat.le_of_ble_eq_true rfl⟩ ⟨rfl, rfl⟩ (groom c4) rfl rfl rfl rfl (by decide) (Or.inr ⟨[0, 1, 5], rfl, by decide⟩) rfl (Nat.le_of_ble_eq_true rfl) (fun v9 σ9 as9 hF9 => ?_)
      obtain ⟨qn3, rfl, e9, rfl⟩ := hF9; replace e9 := e9.symm; subst e9
      show LR l code 45 ret lw_tbl room_1 47 5558 ad [(q0, sL, a0)] (EL r) 415 [(0, .ref q0), (1, .ref (ad 0)), (2, .ref q2), (3, .ref q3), (4, .int x4), (5, .int x5), (9, .int x9), (10, .int x10), (11, .ref q11), (12, .ref q12), (13, .ref q13), (15, .int x15), (16, .int x16), (17, .int x17), (18, .ref q18), (19, .int x19), (20, .int x20), (21, .int x21)] [.ref qn3] σ [(q2, 44, a2), (q3, 45, a3), (q11, 64, a11), (q12, 64, a12), (q13, 20, a13), (q18, 6, a18), (qn3, 16, r3)] (g + 1)
      refine LR.astore (pc := 415) (L2 := [(21, .ref qn3), (0, .ref q0), (1, .ref (ad 0)), (2, .ref q2), (3, .ref q3), (4, .int x4), (5, .int x5), (9, .int x9), (10, .int x10), (11, .ref q11), (12, .ref q12), (13, .ref q13), (15, .int x15), (16, .int x16), (17, .int x17), (18, .ref q18), (19, .int x19), (20, .int x20)]) dL_law_415 (by decide) rfl ?_
      refine LR.iconst (pc := 417) (v := 0) dL_law_417 (by decide) ?_
      refine LR.istore (pc := 418) (L2 := [(22, .int 0), (21, .ref qn3), (0, .ref q0), (1, .ref (ad 0)), (2, .ref q2), (3, .ref q3), (4, .int x4), (5, .int x5), (9, .int x9), (10, .int x10), (11, .ref q11), (12, .ref q12), (13, .ref q13), (15, .int x15), (16, .int x16), (17, .int x17), (18, .ref q18), (19, .int x19), (20, .int x20)]) dL_law_418 (by decide) rfl ?_
      refine LR.iconst (pc := 420) (v := 0) dL_law_420 (by decide) ?_
      refine LR.istore (pc := 421) (L2 := [(23, .int 0), (22, .int 0), (21, .ref qn3), (0, .ref q0), (1, .ref (ad 0)), (2, .ref q2), (3, .ref q3), (4, .int x4), (5, .int x5), (9, .int x9), (10, .int x10), (11, .ref q11), (12, .ref q12), (13, .ref q13), (15, .int x15), (16, .int x16), (17, .int x17), (18, .ref q18), (19, .int x19), (20, .int x20)]) dL_law_421 (by decide) rfl ?_
      exact LR.pick [3, 4, 5, 6, 7, 8, 9, 10, 11, 12, 13, 14, 15, 16, 2, 1, 0] rfl (LR.sub (as2 := [(q2, 44, a2), (q3, 45, a3), (q11, 64, a11), (q12, 64, a12), (q13, 20, a13), (qn3, 16, r3)]) [0, 1, 2, 3, 4, 6] rfl rfl (G_law_423 sL a0 k85 k304 a2 a3 x4 x5 x9 x10 a11 a12 a13 x15 x16 x17 r3 σ (g + 1) hk85 hk304 (0, 0) r h))
  · replace h := ite_f c1 h
    refine LR.aload (pc := 333) (j := 14) dL_law_333 rfl ?_
    refine LR.iload (pc := 335) (j := 17) dL_law_335 rfl ?_
    refine LR.iload (pc := 337) (j := 15) dL_law_337 rfl ?_
    refine LR.iconst (pc := 339) (v := 4) dL_law_339 (by decide) ?_
    refine LR.irem (pc := 340) dL_law_340 (by decide) ?_
    refine LR.iconst (pc := 341) (v := 3) dL_law_341 (by decide) ?_
    refine LR.icmp_ne (pc := 342) (tgt := 350) dL_law_342 (by decide) (fun c5 => ?_) (fun c5 => ?_)
    · replace h := ite_f c5 h
      refine LR.iload (pc := 350) (j := 15) dL_law_350 rfl ?_
      refine LR.iconst (pc := 352) (v := 4) dL_law_352 (by decide) ?_
      refine LR.irem (pc := 353) dL_law_353 (by decide) ?_
      exact LR.pick [0, 1, 2, 3, 4, 5, 6, 7, 8, 9, 10, 11, 12, 13, 14, 15, 16, 17] rfl (G_law_354 sL a0 k85 k304 k328 a2 a3 x4 x5 x9 x10 a11 a12 a13 x15 x16 x17 a18 x19 x20 x21 (x19 - x19 / 4 * 4) x21 σ g hk85 hk304 hk328 r h)
    · replace h := ite_t c5 h
      refine LR.bipush (pc := 345) (v := (-9)) dL_law_345 (by decide) ?_
      refine LR.goto (pc := 347) (tgt := 354) dL_law_347 (by decide) ?_
      exact LR.pick [0, 1, 2, 3, 4, 5, 6, 7, 8, 9, 10, 11, 12, 13, 14, 15, 16, 17] rfl (G_law_354 sL a0 k85 k304 k328 a2 a3 x4 x5 x9 x10 a11 a12 a13 x15 x16 x17 a18 x19 x20 x21 (-9) x21 σ g hk85 hk304 hk328 r h)
theorem G_law_328 {l : Launch} {ad : Nat → Nat} {q0 : Nat} (sL : Nat) (a0 : Nat → Int32) (k85 : (Nat → Int32) × Int32 × HS × Nat → Option (Int32)) (k304 : Int32 × Int32 × Int32 × Nat → Option (Int32)) {q2 : Nat} {q3 : Nat} {q11 : Nat} {q12 : Nat} {q13 : Nat} {q18 : Nat} (a2 : Nat → Int32) (a3 : Nat → Int32) (x4 : Int32) (x5 : Int32) (x9 : Int32) (x10 : Int32) (a11 : Nat → Int32) (a12 : Nat → Int32) (a13 : Nat → Int32) (x15 : Int32) (x16 : Int32) (x17 : Int32) (σ : HS) (g : Nat) (hk85 : ∀ (p : (Nat → Int32) × Int32 × HS × Nat) (r : Int32), k85 p = some r → LR l code 45 ret lw_tbl room_1 47 5558 ad [(q0, sL, a0)] (EL r) 85 [(0, .ref q0), (1, .ref (ad 0)), (2, .ref q2), (3, .ref q3), (4, .int x4), (5, .int (p.2.1))] [] (p.2.2.1) [(q2, 44, p.1), (q3, 45, a3)] (p.2.2.2)) (hk304 : ∀ (p : Int32 × Int32 × Int32 × Nat) (r : Int32), k304 p = some r → LR l code 45 ret lw_tbl room_1 47 5558 ad [(q0, sL, a0)] (EL r) 304 [(0, .ref q0), (1, .ref (ad 0)), (2, .ref q2), (3, .ref q3), (4, .int x4), (5, .int x5), (9, .int x9), (10, .int x10), (11, .ref q11), (12, .ref q12), (13, .ref q13), (15, .int (p.1)), (16, .int (p.2.1)), (17, .int (p.2.2.1))] [] σ [(q2, 44, a2), (q3, 45, a3), (q11, 64, a11), (q12, 64, a12), (q13, 20, a13)] (p.2.2.2)) (p : (Nat → Int32) × Int32 × Int32 × Int32) (r : Int32) (h : g_law_328 sL a0 k85 k304 a2 a3 x4 x5 x9 x10 a11 a12 a13 x15 x16 x17 σ g p = some r) : LR l code 45 ret lw_tbl room_1 47 5558 ad [(q0, sL, a0)] (EL r) 328 [(0, .ref q0), (1, .ref (ad 0)), (2, .ref q2), (3, .ref q3), (4, .int x4), (5, .int x5), (9, .int x9), (10, .int x10), (11, .ref q11), (12, .ref q12), (13, .ref q13), (15, .int x15), (16, .int x16), (17, .int x17), (18, .ref q18), (19, .int (p.2.1)), (20, .int (p.2.2.1)), (21, .int (p.2.2.2))] [] σ [(q2, 44, a2), (q3, 45, a3), (q11, 64, a11), (q12, 64, a12), (q13, 20, a13), (q18, 6, p.1)] g := by
  unfold g_law_328 at h
  exact wloop_run (body := fun k328 p => g_law_328_b sL a0 k85 k304 k328 a2 a3 x4 x5 x9 x10 a11 a12 a13 x15 x16 x17 p.1 p.2.1 p.2.2.1 p.2.2.2 σ g) (Q := (fun p r => LR l code 45 ret lw_tbl room_1 47 5558 ad [(q0, sL, a0)] (EL r) 328 [(0, .ref q0), (1, .ref (ad 0)), (2, .ref q2), (3, .ref q3), (4, .int x4), (5, .int x5), (9, .int x9), (10, .int x10), (11, .ref q11), (12, .ref q12), (13, .ref q13), (15, .int x15), (16, .int x16), (17, .int x17), (18, .ref q18), (19, .int (p.2.1)), (20, .int (p.2.2.1)), (21, .int (p.2.2.2))] [] σ [(q2, 44, a2), (q3, 45, a3), (q11, 64, a11), (q12, 64, a12), (q13, 20, a13), (q18, 6, p.1)] g)) (fun k328 hk328 p r h => G_law_328_b sL a0 k85 k304 k328 a2 a3 x4 x5 x9 x10 a11 a12 a13 x15 x16 x17 p.1 p.2.1 p.2.2.1 p.2.2.2 σ g hk85 hk304 hk328 r h) fuelN p r h
set_option maxHeartbeats 4000000 in
set_option maxRecDepth 100000 in
theorem G_law_304_b {l : Launch} {ad : Nat → Nat} {q0 : Nat} (sL : Nat) (a0 : Nat → Int32) (k85 : (Nat → Int32) × Int32 × HS × Nat → Option (Int32)) (k304 : Int32 × Int32 × Int32 × Nat → Option (Int32)) {q2 : Nat} {q3 : Nat} {q11 : Nat} {q12 : Nat} {q13 : Nat} (a2 : Nat → Int32) (a3 : Nat → Int32) (x4 : Int32) (x5 : Int32) (x9 : Int32) (x10 : Int32) (a11 : Nat → Int32) (a12 : Nat → Int32) (a13 : Nat → Int32) (x15 : Int32) (x16 : Int32) (x17 : Int32) (σ : HS) (g : Nat) (hk85 : ∀ (p : (Nat → Int32) × Int32 × HS × Nat) (r : Int32), k85 p = some r → LR l code 45 ret lw_tbl room_1 47 5558 ad [(q0, sL, a0)] (EL r) 85 [(0, .ref q0), (1, .ref (ad 0)), (2, .ref q2), (3, .ref q3), (4, .int x4), (5, .int (p.2.1))] [] (p.2.2.1) [(q2, 44, p.1), (q3, 45, a3)] (p.2.2.2)) (hk304 : ∀ (p : Int32 × Int32 × Int32 × Nat) (r : Int32), k304 p = some r → LR l code 45 ret lw_tbl room_1 47 5558 ad [(q0, sL, a0)] (EL r) 304 [(0, .ref q0), (1, .ref (ad 0)), (2, .ref q2), (3, .ref q3), (4, .int x4), (5, .int x5), (9, .int x9), (10, .int x10), (11, .ref q11), (12, .ref q12), (13, .ref q13), (15, .int (p.1)), (16, .int (p.2.1)), (17, .int (p.2.2.1))] [] σ [(q2, 44, a2), (q3, 45, a3), (q11, 64, a11), (q12, 64, a12), (q13, 20, a13)] (p.2.2.2)) (r : Int32) (h : g_law_304_b sL a0 k85 k304 a2 a3 x4 x5 x9 x10 a11 a12 a13 x15 x16 x17 σ g = some r) : LR l code 45 ret lw_tbl room_1 47 5558 ad [(q0, sL, a0)] (EL r) 304 [(0, .ref q0), (1, .ref (ad 0)), (2, .ref q2), (3, .ref q3), (4, .int x4), (5, .int x5), (9, .int x9), (10, .int x10), (11, .ref q11), (12, .ref q12), (13, .ref q13), (15, .int x15), (16, .int x16), (17, .int x17)] [] σ [(q2, 44, a2), (q3, 45, a3), (q11, 64, a11), (q12, 64, a12), (q13, 20, a13)] g := by
  unfold g_law_304_b at h
  refine LR.iload (pc := 304) (j := 13) dL_law_304 rfl ?_
  refine LR.if_lt (pc := 306) (tgt := 476) dL_law_306 (by decide) (fun c1 => ?_) (fun c1 => ?_)
  · replace h := ite_t c1 h
    refine LR.aload_n (pc := 476) (j := 1) dL_law_476 rfl rfl ?_
    refine LR.iconst (pc := 477) (v := (-1)) dL_law_477 (by decide) ?_
    obtain ⟨r2, h2, h⟩ := bd_some h
    refine LR.callV (pc := 478) (As := [.int (-1)]) (st := []) (ci := 8) dL_law_478 ⟨cd_X8_together, im_X8_together, se_X8_together, ini_X8⟩ ml_L_81 (A8_together (-1) σ _ h2) rfl rfl ⟨rfl, pd_X8_together⟩ ⟨Nat.le_of_ble_eq_true rfl, Nat.le_of_ble_eq_true rfl⟩ ⟨rfl, rfl⟩ rfl rfl rfl (Nat.le_of_ble_eq_true rfl) ?_
    refine LR.iload (pc := 481) (j := 11) dL_law_481 rfl ?_
    refine LR.icmp_ne (pc := 483) (tgt := 506) dL_law_483 (by decide) (fun c3 => ?_) (fun c3 => ?_)
    · replace h := ite_f c3 h
      refine LR.iconst (pc := 506) (v := 0) dL_law_506 (by decide) ?_
      exact LR.fin ⟨congrArg (fun z => [Value.int z]) (Option.some.inj h), dL_law_507⟩
    · replace h := ite_t c3 h
      refine LR.aload_n (pc := 486) (j := 1) dL_law_486 rfl rfl ?_
      refine LR.iload (pc := 487) (j := 7) dL_law_487 rfl ?_
      obtain ⟨r4, h4, h⟩ := bd_some h
      refine LR.callV (pc := 489) (As := [.int x10]) (st := []) (ci := 8) dL_law_489 ⟨cd_X8_together, im_X8_together, se_X8_together, ini_X8⟩ ml_L_81 (A8_together x10 (r2.2) _ h4) rfl rfl ⟨rfl, pd_X8_together⟩ ⟨Nat.le_of_ble_eq_true rfl, Nat.le_of_ble_eq_true rfl⟩ ⟨rfl, rfl⟩ rfl rfl rfl (Nat.le_of_ble_eq_true rfl) ?_
      refine LR.iconst (pc := 492) (v := (-1)) dL_law_492 (by decide) ?_
      refine LR.icmp_ne (pc := 493) (tgt := 506) dL_law_493 (by decide) (fun c5 => ?_) (fun c5 => ?_)
      · replace h := ite_f c5 h
        refine LR.iconst (pc := 506) (v := 0) dL_law_506 (by decide) ?_
        exact LR.fin ⟨congrArg (fun z => [Value.int z]) (Option.some.inj h), dL_law_507⟩
      · replace h := ite_t c5 h
        refine LR.aload_n (pc := 496) (j := 1) dL_law_496 rfl rfl ?_
        refine LR.bipush (pc := 497) (v := (-2)) dL_law_497 (by decide) ?_
        obtain ⟨r6, h6, h⟩ := bd_some h
        refine LR.callV (pc := 499) (As := [.int (-2)]) (st := []) (ci := 8) dL_law_499 ⟨cd_X8_together, im_X8_together, se_X8_together, ini_X8⟩ ml_L_81 (A8_together (-2) (r4.2) _ h6) rfl rfl ⟨rfl, pd_X8_together⟩ ⟨Nat.le_of_ble_eq_true rfl, Nat.le_of_ble_eq_true rfl⟩ ⟨rfl, rfl⟩ rfl rfl rfl (Nat.le_of_ble_eq_true rfl) ?_
        refine LR.iconst (pc := 502) (v := (-1)) dL_law_502 (by decide) ?_
        refine LR.icmp_eq (pc := 503) (tgt := 508) dL_law_503 (by decide) (fun c7 => ?_) (fun c7 => ?_)
        · replace h := ite_t c7 h
          refine LR.iload (pc := 508) (j := 7) dL_law_508 rfl ?_
          refine LR.iconst (pc := 510) (v := 1) dL_law_510 (by decide) ?_
          refine LR.isub (pc := 511) dL_law_511 ?_
          refine LR.istore (pc := 512) (L2 := [(17, .int (x10 - 1)), (0, .ref q0), (1, .ref (ad 0)), (2, .ref q2), (3, .ref q3), (4, .int x4), (5, .int x5), (9, .int x9), (10, .int x10), (11, .ref q11), (12, .ref q12), (13, .ref q13), (15, .int x15), (16, .int x16)]) dL_law_512 (by decide) rfl ?_
          exact LR.pick [1, 2, 3, 4, 5, 6, 7, 8, 9, 10, 11, 13, 0] rfl (G_law_514 sL a0 k85 a2 a3 x4 x5 x9 x10 a11 a12 a13 g hk85 (x16, (x10 - 1), r6.2) r h)
        · replace h := ite_f c7 h
          refine LR.iconst (pc := 506) (v := 0) dL_law_506 (by decide) ?_
          exact LR.fin ⟨congrArg (fun z => [Value.int z]) (Option.some.inj h), dL_law_507⟩
  · replace h := ite_f c1 h
    refine LR.bipush (pc := 309) (v := 6) dL_law_309 (by decide) ?_
    obtain ⟨c8, h⟩ := gn_some h
    refine LR.newa (pc := 311) (N := 6) dL_law_311 (by decide) (by decide) (by decide) (groom c8) (fun qn8 => ?_)
    show LR l code 45 ret lw_tbl room_1 47 5558 ad [(q0, sL, a0)] (EL r) 313 [(0, .ref q0), (1, .ref (ad 0)), (2, .ref q2), (3, .ref q3), (4, .int x4), (5, .int x5), (9, .int x9), (10, .int x10), (11, .ref q11), (12, .ref q12), (13, .ref q13), (15, .int x15), (16, .int x16), (17, .int x17)] [.ref qn8] σ [(q2, 44, a2), (q3, 45, a3), (q11, 64, a11), (q12, 64, a12), (q13, 20, a13), (qn8, 6, (fun _ => 0))] (g + 1)
    refine LR.astore (pc := 313) (L2 := [(18, .ref qn8), (0, .ref q0), (1, .ref (ad 0)), (2, .ref q2), (3, .ref q3), (4, .int x4), (5, .int x5), (9, .int x9), (10, .int x10), (11, .ref q11), (12, .ref q12), (13, .ref q13), (15, .int x15), (16, .int x16), (17, .int x17)]) dL_law_313 (by decide) rfl ?_
    refine LR.iload (pc := 315) (j := 14) dL_law_315 rfl ?_
    refine LR.istore (pc := 317) (L2 := [(19, .int x17), (18, .ref qn8), (0, .ref q0), (1, .ref (ad 0)), (2, .ref q2), (3, .ref q3), (4, .int x4), (5, .int x5), (9, .int x9), (10, .int x10), (11, .ref q11), (12, .ref q12), (13, .ref q13), (15, .int x15), (16, .int x16), (17, .int x17)]) dL_law_317 (by decide) rfl ?_
    refine LR.iconst (pc := 319) (v := 1) dL_law_319 (by decide) ?_
    refine LR.istore (pc := 320) (L2 := [(20, .int 1), (19, .int x17), (18, .ref qn8), (0, .ref q0), (1, .ref (ad 0)), (2, .ref q2), (3, .ref q3), (4, .int x4), (5, .int x5), (9, .int x9), (10, .int x10), (11, .ref q11), (12, .ref q12), (13, .ref q13), (15, .int x15), (16, .int x16), (17, .int x17)]) dL_law_320 (by decide) rfl ?_
    refine LR.iload (pc := 322) (j := 10) dL_law_322 rfl ?_
    refine LR.iconst (pc := 324) (v := 1) dL_law_324 (by decide) ?_
    refine LR.isub (pc := 325) dL_law_325 ?_
    refine LR.istore (pc := 326) (L2 := [(21, .int (x10 - 1)), (20, .int 1), (19, .int x17), (18, .ref qn8), (0, .ref q0), (1, .ref (ad 0)), (2, .ref q2), (3, .ref q3), (4, .int x4), (5, .int x5), (9, .int x9), (10, .int x10), (11, .ref q11), (12, .ref q12), (13, .ref q13), (15, .int x15), (16, .int x16), (17, .int x17)]) dL_law_326 (by decide) rfl ?_
    exact LR.pick [4, 5, 6, 7, 8, 9, 10, 11, 12, 13, 14, 15, 16, 17, 3, 2, 1, 0] rfl (G_law_328 sL a0 k85 k304 a2 a3 x4 x5 x9 x10 a11 a12 a13 x15 x16 x17 σ (g + 1) hk85 hk304 ((fun _ => 0), x17, 1, (x10 - 1)) r h)
theorem G_law_304 {l : Launch} {ad : Nat → Nat} {q0 : Nat} (sL : Nat) (a0 : Nat → Int32) (k85 : (Nat → Int32) × Int32 × HS × Nat → Option (Int32)) {q2 : Nat} {q3 : Nat} {q11 : Nat} {q12 : Nat} {q13 : Nat} (a2 : Nat → Int32) (a3 : Nat → Int32) (x4 : Int32) (x5 : Int32) (x9 : Int32) (x10 : Int32) (a11 : Nat → Int32) (a12 : Nat → Int32) (a13 : Nat → Int32) (σ : HS) (hk85 : ∀ (p : (Nat → Int32) × Int32 × HS × Nat) (r : Int32), k85 p = some r → LR l code 45 ret lw_tbl room_1 47 5558 ad [(q0, sL, a0)] (EL r) 85 [(0, .ref q0), (1, .ref (ad 0)), (2, .ref q2), (3, .ref q3), (4, .int x4), (5, .int (p.2.1))] [] (p.2.2.1) [(q2, 44, p.1), (q3, 45, a3)] (p.2.2.2)) (p : Int32 × Int32 × Int32 × Nat) (r : Int32) (h : g_law_304 sL a0 k85 a2 a3 x4 x5 x9 x10 a11 a12 a13 σ p = some r) : LR l code 45 ret lw_tbl room_1 47 5558 ad [(q0, sL, a0)] (EL r) 304 [(0, .ref q0), (1, .ref (ad 0)), (2, .ref q2), (3, .ref q3), (4, .int x4), (5, .int x5), (9, .int x9), (10, .int x10), (11, .ref q11), (12, .ref q12), (13, .ref q13), (15, .int (p.1)), (16, .int (p.2.1)), (17, .int (p.2.2.1))] [] σ [(q2, 44, a2), (q3, 45, a3), (q11, 64, a11), (q12, 64, a12), (q13, 20, a13)] (p.2.2.2) := by
  unfold g_law_304 at h
  exact wloop_run (body := fun k304 p => g_law_304_b sL a0 k85 k304 a2 a3 x4 x5 x9 x10 a11 a12 a13 p.1 p.2.1 p.2.2.1 σ p.2.2.2) (Q := (fun p r => LR l code 45 ret lw_tbl room_1 47 5558 ad [(q0, sL, a0)] (EL r) 304 [(0, .ref q0), (1, .ref (ad 0)), (2, .ref q2), (3, .ref q3), (4, .int x4), (5, .int x5), (9, .int x9), (10, .int x10), (11, .ref q11), (12, .ref q12), (13, .ref q13), (15, .int (p.1)), (16, .int (p.2.1)), (17, .int (p.2.2.1))] [] σ [(q2, 44, a2), (q3, 45, a3), (q11, 64, a11), (q12, 64, a12), (q13, 20, a13)] (p.2.2.2))) (fun k304 hk304 p r h => G_law_304_b sL a0 k85 k304 a2 a3 x4 x5 x9 x10 a11 a12 a13 p.1 p.2.1 p.2.2.1 σ p.2.2.2 hk85 hk304 r h) fuelN p r h
set_option maxHeartbeats 4000000 in
set_option maxRecDepth 100000 in
theorem G_law_273_b {l : Launch} {ad : Nat → Nat} {q0 : Nat} (sL : Nat) (a0 : Nat → Int32) (k85 : (Nat → Int32) × Int32 × HS × Nat → Option (Int32)) (k273 : Int32 × Int32 → Option (Int32)) {q2 : Nat} {q3 : Nat} {q11 : Nat} {q12 : Nat} {q13 : Nat} (a2 : Nat → Int32) (a3 : Nat → Int32) (x4 : Int32) (x5 : Int32) (x9 : Int32) (x10 : Int32) (a11 : Nat → Int32) (a12 : Nat → Int32) (a13 : Nat → Int32) (x14 : Int32) (x15 : Int32) (σ : HS) (g : Nat) (hk85 : ∀ (p : (Nat → Int32) × Int32 × HS × Nat) (r : Int32), k85 p = some r → LR l code 45 ret lw_tbl room_1 47 5558 ad [(q0, sL, a0)] (EL r) 85 [(0, .ref q0), (1, .ref (ad 0)), (2, .ref q2), (3, .ref q3), (4, .int x4), (5, .int (p.2.1))] [] (p.2.2.1) [(q2, 44, p.1), (q3, 45, a3)] (p.2.2.2)) (hk273 : ∀ (p : Int32 × Int32) (r : Int32), k273 p = some r → LR l code 45 ret lw_tbl room_1 47 5558 ad [(q0, sL, a0)] (EL r) 273 [(0, .ref q0), (1, .ref (ad 0)), (2, .ref q2), (3, .ref q3), (4, .int x4), (5, .int x5), (9, .int x9), (10, .int x10), (11, .ref q11), (12, .ref q12), (13, .ref q13), (14, .int (p.1)), (15, .int (p.2))] [] σ [(q2, 44, a2), (q3, 45, a3), (q11, 64, a11), (q12, 64, a12), (q13, 20, a13)] g) (r : Int32) (h : g_law_273_b sL a0 k85 k273 a2 a3 x4 x5 x9 x10 a11 a12 a13 x14 x15 σ g = some r) : LR l code 45 ret lw_tbl room_1 47 5558 ad [(q0, sL, a0)] (EL r) 273 [(0, .ref q0), (1, .ref (ad 0)), (2, .ref q2), (3, .ref q3), (4, .int x4), (5, .int x5), (9, .int x9), (10, .int x10), (11, .ref q11), (12, .ref q12), (13, .ref q13), (14, .int x14), (15, .int x15)] [] σ [(q2, 44, a2), (q3, 45, a3), (q11, 64, a11), (q12, 64, a12), (q13, 20, a13)] g := by
  unfold g_law_273_b at h
  refine LR.iload (pc := 273) (j := 12) dL_law_273 rfl ?_
  refine LR.iload (pc := 275) (j := 7) dL_law_275 rfl ?_
  refine LR.icmp_ge (pc := 277) (tgt := 292) dL_law_277 (by decide) (fun c1 => ?_) (fun c1 => ?_)
  · replace h := ite_t c1 h
    refine LR.iconst (pc := 292) (v := (-1)) dL_law_292 (by decide) ?_
    refine LR.istore (pc := 293) (L2 := [(15, .int (-1)), (0, .ref q0), (1, .ref (ad 0)), (2, .ref q2), (3, .ref q3), (4, .int x4), (5, .int x5), (9, .int x9), (10, .int x10), (11, .ref q11), (12, .ref q12), (13, .ref q13), (14, .int x14)]) dL_law_293 (by decide) rfl ?_
    refine LR.iconst (pc := 295) (v := 0) dL_law_295 (by decide) ?_
    refine LR.istore (pc := 296) (L2 := [(16, .int 0), (15, .int (-1)), (0, .ref q0), (1, .ref (ad 0)), (2, .ref q2), (3, .ref q3), (4, .int x4), (5, .int x5), (9, .int x9), (10, .int x10), (11, .ref q11), (12, .ref q12), (13, .ref q13), (14, .int x14)]) dL_law_296 (by decide) rfl ?_
    refine LR.iload (pc := 298) (j := 13) dL_law_298 rfl ?_
    refine LR.iconst (pc := 300) (v := 1) dL_law_300 (by decide) ?_
    refine LR.isub (pc := 301) dL_law_301 ?_
    refine LR.istore (pc := 302) (L2 := [(17, .int (x14 - 1)), (16, .int 0), (15, .int (-1)), (0, .ref q0), (1, .ref (ad 0)), (2, .ref q2), (3, .ref q3), (4, .int x4), (5, .int x5), (9, .int x9), (10, .int x10), (11, .ref q11), (12, .ref q12), (13, .ref q13), (14, .int x14)]) dL_law_302 (by decide) rfl ?_
    exact LR.pick [3, 4, 5, 6, 7, 8, 9, 10, 11, 12, 13, 2, 1, 0] rfl (G_law_304 sL a0 k85 a2 a3 x4 x5 x9 x10 a11 a12 a13 σ hk85 ((-1), 0, (x14 - 1), g) r h)
  · replace h := ite_f c1 h
    refine LR.iload (pc := 280) (j := 11) dL_law_280 rfl ?_
    refine LR.iconst (pc := 282) (v := 4) dL_law_282 (by decide) ?_
    refine LR.imul (pc := 283) dL_law_283 ?_
    refine LR.istore (pc := 284) (L2 := [(14, .int (x14 * 4)), (0, .ref q0), (1, .ref (ad 0)), (2, .ref q2), (3, .ref q3), (4, .int x4), (5, .int x5), (9, .int x9), (10, .int x10), (11, .ref q11), (12, .ref q12), (13, .ref q13), (15, .int x15)]) dL_law_284 (by decide) rfl ?_
    refine LR.iinc (pc := 286) (j := 12) (v := (x15 + 1)) (L2 := [(15, .int (x15 + 1)), (14, .int (x14 * 4)), (0, .ref q0), (1, .ref (ad 0)), (2, .ref q2), (3, .ref q3), (4, .int x4), (5, .int x5), (9, .int x9), (10, .int x10), (11, .ref q11), (12, .ref q12), (13, .ref q13)]) dL_law_286 rfl rfl (by decide) rfl ?_
    refine LR.goto (pc := 289) (tgt := 273) dL_law_289 (by decide) ?_
    exact LR.pick [2, 3, 4, 5, 6, 7, 8, 9, 10, 11, 12, 1, 0] rfl (hk273 ((x14 * 4), (x15 + 1)) r h)
theorem G_law_273 {l : Launch} {ad : Nat → Nat} {q0 : Nat} (sL : Nat) (a0 : Nat → Int32) (k85 : (Nat → Int32) × Int32 × HS × Nat → Option (Int32)) {q2 : Nat} {q3 : Nat} {q11 : Nat} {q12 : Nat} {q13 : Nat} (a2 : Nat → Int32) (a3 : Nat → Int32) (x4 : Int32) (x5 : Int32) (x9 : Int32) (x10 : Int32) (a11 : Nat → Int32) (a12 : Nat → Int32) (a13 : Nat → Int32) (σ : HS) (g : Nat) (hk85 : ∀ (p : (Nat → Int32) × Int32 × HS × Nat) (r : Int32), k85 p = some r → LR l code 45 ret lw_tbl room_1 47 5558 ad [(q0, sL, a0)] (EL r) 85 [(0, .ref q0), (1, .ref (ad 0)), (2, .ref q2), (3, .ref q3), (4, .int x4), (5, .int (p.2.1))] [] (p.2.2.1) [(q2, 44, p.1), (q3, 45, a3)] (p.2.2.2)) (p : Int32 × Int32) (r : Int32) (h : g_law_273 sL a0 k85 a2 a3 x4 x5 x9 x10 a11 a12 a13 σ g p = some r) : LR l code 45 ret lw_tbl room_1 47 5558 ad [(q0, sL, a0)] (EL r) 273 [(0, .ref q0), (1, .ref (ad 0)), (2, .ref q2), (3, .ref q3), (4, .int x4), (5, .int x5), (9, .int x9), (10, .int x10), (11, .ref q11), (12, .ref q12), (13, .ref q13), (14, .int (p.1)), (15, .int (p.2))] [] σ [(q2, 44, a2), (q3, 45, a3), (q11, 64, a11), (q12, 64, a12), (q13, 20, a13)] g := by
  unfold g_law_273 at h
  exact wloop_run (body := fun k273 p => g_law_273_b sL a0 k85 k273 a2 a3 x4 x5 x9 x10 a11 a12 a13 p.1 p.2 σ g) (Q := (fun p r => LR l code 45 ret lw_tbl room_1 47 5558 ad [(q0, sL, a0)] (EL r) 273 [(0, .ref q0), (1, .ref (ad 0)), (2, .ref q2), (3, .ref q3), (4, .int x4), (5, .int x5), (9, .int x9), (10, .int x10), (11, .ref q11), (12, .ref q12), (13, .ref q13), (14, .int (p.1)), (15, .int (p.2))] [] σ [(q2, 44, a2), (q3, 45, a3), (q11, 64, a11), (q12, 64, a12), (q13, 20, a13)] g)) (fun k273 hk273 p r h => G_law_273_b sL a0 k85 k273 a2 a3 x4 x5 x9 x10 a11 a12 a13 p.1 p.2 σ g hk85 hk273 r h) fuelN p r h
set_option maxHeartbeats 4000000 in
set_option maxRecDepth 100000 in
theorem G_law_187 {l : Launch} {ad : Nat → Nat} {q0 : Nat} (sL : Nat) (a0 : Nat → Int32) (k85 : (Nat → Int32) × Int32 × HS × Nat → Option (Int32)) (k139 : (Nat → Int32) × Int32 → Option (Int32)) {q2 : Nat} {q3 : Nat} (a2 : Nat → Int32) (a3 : Nat → Int32) (x4 : Int32) (x5 : Int32) (x6 : Int32) (x7 : Int32) (x8 : Int32) (x9 : Int32) (z0 : Int32) (z1 : Int32) (σ : HS) (g : Nat) (hk85 : ∀ (p : (Nat → Int32) × Int32 × HS × Nat) (r : Int32), k85 p = some r → LR l code 45 ret lw_tbl room_1 47 5558 ad [(q0, sL, a0)] (EL r) 85 [(0, .ref q0), (1, .ref (ad 0)), (2, .ref q2), (3, .ref q3), (4, .int x4), (5, .int (p.2.1))] [] (p.2.2.1) [(q2, 44, p.1), (q3, 45, a3)] (p.2.2.2)) (hk139 : ∀ (p : (Nat → Int32) × Int32) (r : Int32), k139 p = some r → LR l code 45 ret lw_tbl room_1 47 5558 ad [(q0, sL, a0)] (EL r) 139 [(0, .ref q0), (1, .ref (ad 0)), (2, .ref q2), (3, .ref q3), (4, .int x4), (5, .int x5), (6, .int x6), (7, .int x7), (8, .int x8), (9, .int (p.2))] [] σ [(q2, 44, p.1), (q3, 45, a3)] g) (r : Int32) (h : g_law_187 sL a0 k85 k139 a2 a3 x4 x5 x6 x7 x8 x9 z0 z1 σ g = some r) : LR l code 45 ret lw_tbl room_1 47 5558 ad [(q0, sL, a0)] (EL r) 187 [(0, .ref q0), (1, .ref (ad 0)), (2, .ref q2), (3, .ref q3), (4, .int x4), (5, .int x5), (6, .int x6), (7, .int x7), (8, .int x8), (9, .int x9)] [.int z0, .int z1, .ref q2] σ [(q2, 44, a2), (q3, 45, a3)] g := by
  unfold g_law_187 at h
  obtain ⟨c1, h⟩ := gn_some h
  obtain ⟨b2, e2, h⟩ := bd_some h
  replace e2 := Option.some.inj e2
  refine LR.iastore (pc := 187) (j := 0) (as2 := [(q2, 44, b2), (q3, 45, a3)]) dL_law_187 rfl c1 (by subst e2; rfl) ?_
  refine LR.iinc (pc := 188) (j := 9) (v := (x9 + 1)) (L2 := [(9, .int (x9 + 1)), (0, .ref q0), (1, .ref (ad 0)), (2, .ref q2), (3, .ref q3), (4, .int x4), (5, .int x5), (6, .int x6), (7, .int x7), (8, .int x8)]) dL_law_188 rfl rfl (by decide) rfl ?_
  refine LR.goto (pc := 191) (tgt := 139) dL_law_191 (by decide) ?_
  exact LR.pick [1, 2, 3, 4, 5, 6, 7, 8, 9, 0] rfl (hk139 (b2, (x9 + 1)) r h)
set_option maxHeartbeats 4000000 in
set_option maxRecDepth 100000 in
theorem G_law_139_b {l : Launch} {ad : Nat → Nat} {q0 : Nat} (sL : Nat) (a0 : Nat → Int32) (k85 : (Nat → Int32) × Int32 × HS × Nat → Option (Int32)) (k139 : (Nat → Int32) × Int32 → Option (Int32)) {q2 : Nat} {q3 : Nat} (a2 : Nat → Int32) (a3 : Nat → Int32) (x4 : Int32) (x5 : Int32) (x6 : Int32) (x7 : Int32) (x8 : Int32) (x9 : Int32) (σ : HS) (g : Nat) (hk85 : ∀ (p : (Nat → Int32) × Int32 × HS × Nat) (r : Int32), k85 p = some r → LR l code 45 ret lw_tbl room_1 47 5558 ad [(q0, sL, a0)] (EL r) 85 [(0, .ref q0), (1, .ref (ad 0)), (2, .ref q2), (3, .ref q3), (4, .int x4), (5, .int (p.2.1))] [] (p.2.2.1) [(q2, 44, p.1), (q3, 45, a3)] (p.2.2.2)) (hk139 : ∀ (p : (Nat → Int32) × Int32) (r : Int32), k139 p = some r → LR l code 45 ret lw_tbl room_1 47 5558 ad [(q0, sL, a0)] (EL r) 139 [(0, .ref q0), (1, .ref (ad 0)), (2, .ref q2), (3, .ref q3), (4, .int x4), (5, .int x5), (6, .int x6), (7, .int x7), (8, .int x8), (9, .int (p.2))] [] σ [(q2, 44, p.1), (q3, 45, a3)] g) (r : Int32) (h : g_law_139_b sL a0 k85 k139 a2 a3 x4 x5 x6 x7 x8 x9 σ g = some r) : LR l code 45 ret lw_tbl room_1 47 5558 ad [(q0, sL, a0)] (EL r) 139 [(0, .ref q0), (1, .ref (ad 0)), (2, .ref q2), (3, .ref q3), (4, .int x4), (5, .int x5), (6, .int x6), (7, .int x7), (8, .int x8), (9, .int x9)] [] σ [(q2, 44, a2), (q3, 45, a3)] g := by
  unfold g_law_139_b at h
  refine LR.iload (pc := 139) (j := 9) dL_law_139 rfl ?_
  refine LR.iload (pc := 141) (j := 4) dL_law_141 rfl ?_
  refine LR.icmp_ge (pc := 143) (tgt := 194) dL_law_143 (by decide) (fun c1 => ?_) (fun c1 => ?_)
  · replace h := ite_t c1 h
    refine LR.iload (pc := 194) (j := 6) dL_law_194 rfl ?_
    refine LR.bipush (pc := 196) (v := 6) dL_law_196 (by decide) ?_
    refine LR.ishr (pc := 198) dL_law_198 ?_
    refine LR.iconst (pc := 199) (v := 4) dL_law_199 (by decide) ?_
    obtain ⟨r2, h2, h⟩ := bd_some h
    refine LR.callS0 (pc := 200) (As := [.int (x6 >>> (6 &&& 31)), .int 4]) (st := []) (as2 := []) (asR := [(q2, 44, a2), (q3, 45, a3)]) (ro2 := []) (mg := 0) (FIN := (FI σ r2)) [] [0, 1] dL_law_200 ⟨cd_L_low, sm_L_low, ini_L⟩ ml_L_15 (G_low (x6 >>> (6 &&& 31)) 4 r2 h2) ⟨rfl, pd_L_low⟩ ⟨Nat.le_of_ble_eq_true rfl, Nat.le_of_ble_eq_true rfl⟩ ⟨rfl, rfl⟩ rfl rfl rfl rfl rfl (by decide) (Or.inl ⟨[], rfl⟩) rfl (Nat.le_of_ble_eq_true rfl) (fun v9 σ9 as9 hF9 => ?_)
    obtain ⟨rfl, e9, rfl⟩ := hF9; replace e9 := e9.symm; subst e9
    show LR l code 45 ret lw_tbl room_1 47 5558 ad [(q0, sL, a0)] (EL r) 203 [(0, .ref q0), (1, .ref (ad 0)), (2, .ref q2), (3, .ref q3), (4, .int x4), (5, .int x5), (6, .int x6), (7, .int x7), (8, .int x8), (9, .int x9)] [.int r2] σ [(q2, 44, a2), (q3, 45, a3)] g
    refine LR.istore (pc := 203) (L2 := [(9, .int r2), (0, .ref q0), (1, .ref (ad 0)), (2, .ref q2), (3, .ref q3), (4, .int x4), (5, .int x5), (6, .int x6), (7, .int x7), (8, .int x8)]) dL_law_203 (by decide) rfl ?_
    refine LR.aload_n (pc := 205) (j := 2) dL_law_205 rfl rfl ?_
    refine LR.iload (pc := 206) (j := 0) dL_law_206 rfl ?_
    obtain ⟨r3, h3, h⟩ := bd_some h
    refine LR.callV (pc := 208) (As := [.int r2]) (st := []) (ci := 8) dL_law_208 ⟨cd_X8_law, im_X8_law, se_X8_law, ini_X8⟩ ml_L_65 (A8_law r2 σ _ h3) rfl rfl ⟨rfl, pd_X8_law⟩ ⟨Nat.le_of_ble_eq_true rfl, Nat.le_of_ble_eq_true rfl⟩ ⟨rfl, rfl⟩ rfl rfl rfl (Nat.le_of_ble_eq_true rfl) ?_
    refine LR.aload_n (pc := 211) (j := 3) dL_law_211 rfl rfl ?_
    refine LR.iconst (pc := 212) (v := 3) dL_law_212 (by decide) ?_
    refine LR.iaload (pc := 213) (j := 0) dL_law_213 rfl (by decide) ?_
    refine LR.icmp_eq (pc := 214) (tgt := 219) dL_law_214 (by decide) (fun c4 => ?_) (fun c4 => ?_)
    · replace h := ite_t c4 h
      refine LR.aload_n (pc := 219) (j := 3) dL_law_219 rfl rfl ?_
      refine LR.iconst (pc := 220) (v := 3) dL_law_220 (by decide) ?_
      refine LR.iload (pc := 221) (j := 0) dL_law_221 rfl ?_
      obtain ⟨b5, e5, h⟩ := bd_some h
      replace e5 := Option.some.inj e5
      refine LR.iastore (pc := 223) (j := 0) (as2 := [(q2, 44, b5), (q3, 45, a3)]) dL_law_223 rfl (by decide) (by subst e5; rfl) ?_
      refine LR.aload_n (pc := 224) (j := 3) dL_law_224 rfl rfl ?_
      obtain ⟨r6, h6, h⟩ := bd_some h
      refine LR.callS0 (pc := 225) (As := [.ref q2]) (st := []) (as2 := []) (asR := [(q2, 44, b5), (q3, 45, a3)]) (ro2 := [(q2, 44, b5)]) (mg := 0) (FIN := (FI (r3.2) r6)) [] [0, 1] dL_law_225 ⟨cd_L_turns, sm_L_turns, ini_L⟩ ml_L_36 (G_turns b5 r6 h6) ⟨rfl, pd_L_turns⟩ ⟨Nat.le_of_ble_eq_true rfl, Nat.le_of_ble_eq_true rfl⟩ ⟨rfl, rfl⟩ rfl rfl rfl rfl rfl (by decide) (Or.inr ⟨[0], rfl, by decide⟩) rfl (Nat.le_of_ble_eq_true rfl) (fun v9 σ9 as9 hF9 => ?_)
      obtain ⟨rfl, e9, rfl⟩ := hF9; replace e9 := e9.symm; subst e9
      show LR l code 45 ret lw_tbl room_1 47 5558 ad [(q0, sL, a0)] (EL r) 228 [(9, .int r2), (0, .ref q0), (1, .ref (ad 0)), (2, .ref q2), (3, .ref q3), (4, .int x4), (5, .int x5), (6, .int x6), (7, .int x7), (8, .int x8)] [.int r6] (r3.2) [(q2, 44, b5), (q3, 45, a3)] g
      refine LR.istore (pc := 228) (L2 := [(10, .int r6), (9, .int r2), (0, .ref q0), (1, .ref (ad 0)), (2, .ref q2), (3, .ref q3), (4, .int x4), (5, .int x5), (6, .int x6), (7, .int x7), (8, .int x8)]) dL_law_228 (by decide) rfl ?_
      refine LR.bipush (pc := 230) (v := 64) dL_law_230 (by decide) ?_
      obtain ⟨c7, h⟩ := gn_some h
      refine LR.newa (pc := 232) (N := 64) dL_law_232 (by decide) (by decide) (by decide) (groom c7) (fun qn7 => ?_)
      show LR l code 45 ret lw_tbl room_1 47 5558 ad [(q0, sL, a0)] (EL r) 234 [(10, .int r6), (9, .int r2), (0, .ref q0), (1, .ref (ad 0)), (2, .ref q2), (3, .ref q3), (4, .int x4), (5, .int x5), (6, .int x6), (7, .int x7), (8, .int x8)] [.ref qn7] (r3.2) [(q2, 44, b5), (q3, 45, a3), (qn7, 64, (fun _ => 0))] (g + 1)
      refine LR.astore (pc := 234) (L2 := [(11, .ref qn7), (10, .int r6), (9, .int r2), (0, .ref q0), (1, .ref (ad 0)), (2, .ref q2), (3, .ref q3), (4, .int x4), (5, .int x5), (6, .int x6), (7, .int x7), (8, .int x8)]) dL_law_234 (by decide) rfl ?_
      refine LR.bipush (pc := 236) (v := 64) dL_law_236 (by decide) ?_
      obtain ⟨c8, h⟩ := gn_some h
      refine LR.newa (pc := 238) (N := 64) dL_law_238 (by decide) (by decide) (by decide) (groom c8) (fun qn8 => ?_)
      show LR l code 45 ret lw_tbl room_1 47 5558 ad [(q0, sL, a0)] (EL r) 240 [(11, .ref qn7), (10, .int r6), (9, .int r2), (0, .ref q0), (1, .ref (ad 0)), (2, .ref q2), (3, .ref q3), (4, .int x4), (5, .int x5), (6, .int x6), (7, .int x7), (8, .int x8)] [.ref qn8] (r3.2) [(q2, 44, b5), (q3, 45, a3), (qn7, 64, (fun _ => 0)), (qn8, 64, (fun _ => 0))] ((g + 1) + 1)
      refine LR.astore (pc := 240) (L2 := [(12, .ref qn8), (11, .ref qn7), (10, .int r6), (9, .int r2), (0, .ref q0), (1, .ref (ad 0)), (2, .ref q2), (3, .ref q3), (4, .int x4), (5, .int x5), (6, .int x6), (7, .int x7), (8, .int x8)]) dL_law_240 (by decide) rfl ?_
      refine LR.aload_n (pc := 242) (j := 5) dL_law_242 rfl rfl ?_
      refine LR.aload_n (pc := 243) (j := 6) dL_law_243 rfl rfl ?_
      refine LR.aload (pc := 244) (j := 1) dL_law_244 rfl ?_
      refine LR.aload (pc := 246) (j := 0) dL_law_246 rfl ?_
      obtain ⟨r9, h9, h⟩ := bd_some h
      refine LR.callS0 (pc := 248) (As := [.ref (ad 0), .ref q2, .ref qn7, .ref qn8]) (st := []) (as2 := [(qn7, 64, (fun _ => 0)), (qn8, 64, (fun _ => 0))]) (asR := [(q2, 44, b5), (q3, 45, a3)]) (ro2 := [(q2, 44, b5)]) (mg := 0) (FIN := (FW qn7 64 qn8 64 r9)) [2, 3] [0, 1] dL_law_248 ⟨cd_L_read, sm_L_read, ini_L⟩ ml_L_69 (G_read b5 (fun _ => 0) (fun _ => 0) (r3.2) r9 h9) ⟨rfl, pd_L_read⟩ ⟨Nat.le_of_ble_eq_true rfl, Nat.le_of_ble_eq_true rfl⟩ ⟨rfl, rfl⟩ rfl rfl rfl rfl rfl (by decide) (Or.inr ⟨[0], rfl, by decide⟩) rfl (Nat.le_of_ble_eq_true rfl) (fun v9 σ9 as9 hF9 => ?_)
      obtain ⟨rfl, e9, rfl⟩ := hF9; replace e9 := e9.symm; subst e9
      show LR l code 45 ret lw_tbl room_1 47 5558 ad [(q0, sL, a0)] (EL r) 251 [(12, .ref qn8), (11, .ref qn7), (10, .int r6), (9, .int r2), (0, .ref q0), (1, .ref (ad 0)), (2, .ref q2), (3, .ref q3), (4, .int x4), (5, .int x5), (6, .int x6), (7, .int x7), (8, .int x8)] [.int (r9.1)] (r9.2.1) [(q2, 44, b5), (q3, 45, a3), (qn7, 64, r9.2.2.1), (qn8, 64, r9.2.2.2)] ((g + 1) + 1)
      refine LR.if_ne (pc := 251) (tgt := 256) dL_law_251 (by decide) (fun c10 => ?_) (fun c10 => ?_)
      · replace h := ite_f c10 h
        refine LR.aload_n (pc := 256) (j := 6) dL_law_256 rfl rfl ?_
        refine LR.aload_n (pc := 257) (j := 7) dL_law_257 rfl rfl ?_
        refine LR.aload (pc := 258) (j := 1) dL_law_258 rfl ?_
        refine LR.aload (pc := 260) (j := 0) dL_law_260 rfl ?_
        obtain ⟨r11, h11, h⟩ := bd_some h
        obtain ⟨c12, h⟩ := gn_some h
        refine LR.callS (pc := 262) (As := [.ref q2, .ref q3, .ref qn7, .ref qn8]) (st := []) (as2 := []) (asR := [(q2, 44, b5), (q3, 45, a3), (qn7, 64, r9.2.2.1), (qn8, 64, r9.2.2.2)]) (ro2 := [(q2, 44, b5), (q3, 45, a3), (qn7, 64, r9.2.2.1), (qn8, 64, r9.2.2.2)]) (mg := 1) (FIN := (FA 20 (r9.2.1) r11)) [] [0, 1, 2, 3] dL_law_262 ⟨cd_L_free, sm_L_free, ini_L⟩ ml_L_73 (G_free b5 a3 (r9.2.2.1) (r9.2.2.2) r11 h11) ⟨rfl, pd_L_free⟩ ⟨Nat.le_of_ble_eq_true rfl, Nat.le_of_ble_eq_true rfl⟩ ⟨rfl, rfl⟩ (groom c12) rfl rfl rfl rfl (by decide) (Or.inr ⟨[0, 1, 2, 3], rfl, by decide⟩) rfl (Nat.le_of_ble_eq_true rfl) (fun v9 σ9 as9 hF9 => ?_)
        obtain ⟨qn11, rfl, e9, rfl⟩ := hF9; replace e9 := e9.symm; subst e9
        show LR l code 45 ret lw_tbl room_1 47 5558 ad [(q0, sL, a0)] (EL r) 265 [(12, .ref qn8), (11, .ref qn7), (10, .int r6), (9, .int r2), (0, .ref q0), (1, .ref (ad 0)), (2, .ref q2), (3, .ref q3), (4, .int x4), (5, .int x5), (6, .int x6), (7, .int x7), (8, .int x8)] [.ref qn11] (r9.2.1) [(q2, 44, b5), (q3, 45, a3), (qn7, 64, r9.2.2.1), (qn8, 64, r9.2.2.2), (qn11, 20, r11)] (((g + 1) + 1) + 1)
        refine LR.astore (pc := 265) (L2 := [(13, .ref qn11), (12, .ref qn8), (11, .ref qn7), (10, .int r6), (9, .int r2), (0, .ref q0), (1, .ref (ad 0)), (2, .ref q2), (3, .ref q3), (4, .int x4), (5, .int x5), (6, .int x6), (7, .int x7), (8, .int x8)]) dL_law_265 (by decide) rfl ?_
        refine LR.iconst (pc := 267) (v := 1) dL_law_267 (by decide) ?_
        refine LR.istore (pc := 268) (L2 := [(14, .int 1), (13, .ref qn11), (12, .ref qn8), (11, .ref qn7), (10, .int r6), (9, .int r2), (0, .ref q0), (1, .ref (ad 0)), (2, .ref q2), (3, .ref q3), (4, .int x4), (5, .int x5), (6, .int x6), (7, .int x7), (8, .int x8)]) dL_law_268 (by decide) rfl ?_
        refine LR.iconst (pc := 270) (v := 0) dL_law_270 (by decide) ?_
        refine LR.istore (pc := 271) (L2 := [(15, .int 0), (14, .int 1), (13, .ref qn11), (12, .ref qn8), (11, .ref qn7), (10, .int r6), (9, .int r2), (0, .ref q0), (1, .ref (ad 0)), (2, .ref q2), (3, .ref q3), (4, .int x4), (5, .int x5), (6, .int x6), (7, .int x7), (8, .int x8)]) dL_law_271 (by decide) rfl ?_
        exact LR.pick [7, 8, 9, 10, 11, 12, 6, 5, 4, 3, 2, 1, 0] rfl (G_law_273 sL a0 k85 b5 a3 x4 x5 r2 r6 (r9.2.2.1) (r9.2.2.2) r11 (r9.2.1) (((g + 1) + 1) + 1) hk85 (1, 0) r h)
      · replace h := ite_t c10 h
        refine LR.iconst (pc := 254) (v := 0) dL_law_254 (by decide) ?_
        exact LR.fin ⟨congrArg (fun z => [Value.int z]) (Option.some.inj h), dL_law_255⟩
    · replace h := ite_f c4 h
      refine LR.iconst (pc := 217) (v := 0) dL_law_217 (by decide) ?_
      exact LR.fin ⟨congrArg (fun z => [Value.int z]) (Option.some.inj h), dL_law_218⟩
  · replace h := ite_f c1 h
    refine LR.aload_n (pc := 146) (j := 2) dL_law_146 rfl rfl ?_
    refine LR.bipush (pc := 147) (v := 14) dL_law_147 (by decide) ?_
    refine LR.iload (pc := 149) (j := 9) dL_law_149 rfl ?_
    refine LR.iadd (pc := 151) dL_law_151 ?_
    obtain ⟨c13, h⟩ := gn_some h
    refine LR.iaload (pc := 152) (j := 0) dL_law_152 rfl c13 ?_
    refine LR.istore (pc := 153) (L2 := [(10, .int (a2 ((14 + x9) : Int32).toNatClampNeg)), (0, .ref q0), (1, .ref (ad 0)), (2, .ref q2), (3, .ref q3), (4, .int x4), (5, .int x5), (6, .int x6), (7, .int x7), (8, .int x8), (9, .int x9)]) dL_law_153 (by decide) rfl ?_
    refine LR.aload_n (pc := 155) (j := 3) dL_law_155 rfl rfl ?_
    refine LR.bipush (pc := 156) (v := 14) dL_law_156 (by decide) ?_
    refine LR.iload (pc := 158) (j := 10) dL_law_158 rfl ?_
    refine LR.iadd (pc := 160) dL_law_160 ?_
    refine LR.iload (pc := 161) (j := 0) dL_law_161 rfl ?_
    refine LR.iload (pc := 163) (j := 8) dL_law_163 rfl ?_
    refine LR.icmp_ne (pc := 165) (tgt := 173) dL_law_165 (by decide) (fun c14 => ?_) (fun c14 => ?_)
    · replace h := ite_f c14 h
      refine LR.iload (pc := 173) (j := 0) dL_law_173 rfl ?_
      refine LR.iload (pc := 175) (j := 9) dL_law_175 rfl ?_
      refine LR.icmp_ne (pc := 177) (tgt := 185) dL_law_177 (by decide) (fun c15 => ?_) (fun c15 => ?_)
      · replace h := ite_f c15 h
        refine LR.iload (pc := 185) (j := 0) dL_law_185 rfl ?_
        exact LR.pick [1, 2, 3, 4, 5, 6, 7, 8, 9, 10] rfl (G_law_187 sL a0 k85 k139 a2 a3 x4 x5 x6 x7 x8 x9 (a2 ((14 + x9) : Int32).toNatClampNeg) (14 + x9) σ g hk85 hk139 r h)
      · replace h := ite_t c15 h
        refine LR.iload (pc := 180) (j := 8) dL_law_180 rfl ?_
        refine LR.goto (pc := 182) (tgt := 187) dL_law_182 (by decide) ?_
        exact LR.pick [1, 2, 3, 4, 5, 6, 7, 8, 9, 10] rfl (G_law_187 sL a0 k85 k139 a2 a3 x4 x5 x6 x7 x8 x9 x7 (14 + x9) σ g hk85 hk139 r h)
    · replace h := ite_t c14 h
      refine LR.iload (pc := 168) (j := 9) dL_law_168 rfl ?_
      refine LR.goto (pc := 170) (tgt := 187) dL_law_170 (by decide) ?_
      exact LR.pick [1, 2, 3, 4, 5, 6, 7, 8, 9, 10] rfl (G_law_187 sL a0 k85 k139 a2 a3 x4 x5 x6 x7 x8 x9 x8 (14 + x9) σ g hk85 hk139 r h)
theorem G_law_139 {l : Launch} {ad : Nat → Nat} {q0 : Nat} (sL : Nat) (a0 : Nat → Int32) (k85 : (Nat → Int32) × Int32 × HS × Nat → Option (Int32)) {q2 : Nat} {q3 : Nat} (a3 : Nat → Int32) (x4 : Int32) (x5 : Int32) (x6 : Int32) (x7 : Int32) (x8 : Int32) (σ : HS) (g : Nat) (hk85 : ∀ (p : (Nat → Int32) × Int32 × HS × Nat) (r : Int32), k85 p = some r → LR l code 45 ret lw_tbl room_1 47 5558 ad [(q0, sL, a0)] (EL r) 85 [(0, .ref q0), (1, .ref (ad 0)), (2, .ref q2), (3, .ref q3), (4, .int x4), (5, .int (p.2.1))] [] (p.2.2.1) [(q2, 44, p.1), (q3, 45, a3)] (p.2.2.2)) (p : (Nat → Int32) × Int32) (r : Int32) (h : g_law_139 sL a0 k85 a3 x4 x5 x6 x7 x8 σ g p = some r) : LR l code 45 ret lw_tbl room_1 47 5558 ad [(q0, sL, a0)] (EL r) 139 [(0, .ref q0), (1, .ref (ad 0)), (2, .ref q2), (3, .ref q3), (4, .int x4), (5, .int x5), (6, .int x6), (7, .int x7), (8, .int x8), (9, .int (p.2))] [] σ [(q2, 44, p.1), (q3, 45, a3)] g := by
  unfold g_law_139 at h
  exact wloop_run (body := fun k139 p => g_law_139_b sL a0 k85 k139 p.1 a3 x4 x5 x6 x7 x8 p.2 σ g) (Q := (fun p r => LR l code 45 ret lw_tbl room_1 47 5558 ad [(q0, sL, a0)] (EL r) 139 [(0, .ref q0), (1, .ref (ad 0)), (2, .ref q2), (3, .ref q3), (4, .int x4), (5, .int x5), (6, .int x6), (7, .int x7), (8, .int x8), (9, .int (p.2))] [] σ [(q2, 44, p.1), (q3, 45, a3)] g)) (fun k139 hk139 p r h => G_law_139_b sL a0 k85 k139 p.1 a3 x4 x5 x6 x7 x8 p.2 σ g hk85 hk139 r h) fuelN p r h
set_option maxHeartbeats 4000000 in
set_option maxRecDepth 100000 in
theorem G_law_85_b {l : Launch} {ad : Nat → Nat} {q0 : Nat} (sL : Nat) (a0 : Nat → Int32) (k85 : (Nat → Int32) × Int32 × HS × Nat → Option (Int32)) {q2 : Nat} {q3 : Nat} (a2 : Nat → Int32) (a3 : Nat → Int32) (x4 : Int32) (x5 : Int32) (σ : HS) (g : Nat) (hk85 : ∀ (p : (Nat → Int32) × Int32 × HS × Nat) (r : Int32), k85 p = some r → LR l code 45 ret lw_tbl room_1 47 5558 ad [(q0, sL, a0)] (EL r) 85 [(0, .ref q0), (1, .ref (ad 0)), (2, .ref q2), (3, .ref q3), (4, .int x4), (5, .int (p.2.1))] [] (p.2.2.1) [(q2, 44, p.1), (q3, 45, a3)] (p.2.2.2)) (r : Int32) (h : g_law_85_b sL a0 k85 a2 a3 x4 x5 σ g = some r) : LR l code 45 ret lw_tbl room_1 47 5558 ad [(q0, sL, a0)] (EL r) 85 [(0, .ref q0), (1, .ref (ad 0)), (2, .ref q2), (3, .ref q3), (4, .int x4), (5, .int x5)] [] σ [(q2, 44, a2), (q3, 45, a3)] g := by
  unfold g_law_85_b at h
  refine LR.iload (pc := 85) (j := 5) dL_law_85 rfl ?_
  refine LR.iconst (pc := 87) (v := 2) dL_law_87 (by decide) ?_
  refine LR.icmp_ge (pc := 88) (tgt := 2301) dL_law_88 (by decide) (fun c1 => ?_) (fun c1 => ?_)
  · replace h := ite_t c1 h
    refine LR.aload_n (pc := 2301) (j := 1) dL_law_2301 rfl rfl ?_
    refine LR.iconst (pc := 2302) (v := 5) dL_law_2302 (by decide) ?_
    refine LR.iconst (pc := 2303) (v := 0) dL_law_2303 (by decide) ?_
    obtain ⟨r2, h2, h⟩ := bd_some h
    refine LR.callV (pc := 2304) (As := [.int 5, .int 0]) (st := []) (ci := 8) dL_law_2304 ⟨cd_X8_owed, im_X8_owed, se_X8_owed, ini_X8⟩ ml_L_90 (A8_owed 5 0 σ _ h2) rfl rfl ⟨rfl, pd_X8_owed⟩ ⟨Nat.le_of_ble_eq_true rfl, Nat.le_of_ble_eq_true rfl⟩ ⟨rfl, rfl⟩ rfl rfl rfl (Nat.le_of_ble_eq_true rfl) ?_
    refine LR.ldc2 (pc := 2307) (v := (-9223372036854775808)) dL_law_2307 kl_L_88 ?_
    refine LR.lcmp (pc := 2310) dL_law_2310 ?_
    refine LR.if_ne (pc := 2311) (tgt := 2329) dL_law_2311 (by decide) (fun c3 => ?_) (fun c3 => ?_)
    · replace h := ite_f (lg_ne.mp c3) h
      exact LR.pick [] rfl (LR.sub (as2 := []) [] rfl rfl (G_law_2329 sL a0 (r2.2) g r h))
    · replace h := ite_t (lg_ne_n.mp c3) h
      refine LR.aload_n (pc := 2314) (j := 1) dL_law_2314 rfl rfl ?_
      refine LR.iconst (pc := 2315) (v := (-1)) dL_law_2315 (by decide) ?_
      refine LR.iconst (pc := 2316) (v := 0) dL_law_2316 (by decide) ?_
      refine LR.iconst (pc := 2317) (v := 0) dL_law_2317 (by decide) ?_
      obtain ⟨r4, h4, h⟩ := bd_some h
      refine LR.callV (pc := 2318) (As := [.int (-1), .int 0, .int 0]) (st := []) (ci := 8) dL_law_2318 ⟨cd_X8_motion, im_X8_motion, se_X8_motion, ini_X8⟩ ml_L_124 (A8_motion (-1) 0 0 (r2.2) _ h4) rfl rfl ⟨rfl, pd_X8_motion⟩ ⟨Nat.le_of_ble_eq_true rfl, Nat.le_of_ble_eq_true rfl⟩ ⟨rfl, rfl⟩ rfl rfl rfl (Nat.le_of_ble_eq_true rfl) ?_
      refine LR.iconst (pc := 2321) (v := (-1)) dL_law_2321 (by decide) ?_
      refine LR.icmp_ne (pc := 2322) (tgt := 2329) dL_law_2322 (by decide) (fun c5 => ?_) (fun c5 => ?_)
      · replace h := ite_f c5 h
        exact LR.pick [] rfl (LR.sub (as2 := []) [] rfl rfl (G_law_2329 sL a0 (r4.2) g r h))
      · replace h := ite_t c5 h
        refine LR.iconst (pc := 2325) (v := 1) dL_law_2325 (by decide) ?_
        refine LR.goto (pc := 2326) (tgt := 2330) dL_law_2326 (by decide) ?_
        exact LR.fin ⟨congrArg (fun z => [Value.int z]) (Option.some.inj h), dL_law_2330⟩
  · replace h := ite_f c1 h
    refine LR.aload_n (pc := 91) (j := 0) dL_law_91 rfl rfl ?_
    refine LR.bipush (pc := 92) (v := 12) dL_law_92 (by decide) ?_
    refine LR.iload (pc := 94) (j := 5) dL_law_94 rfl ?_
    refine LR.iadd (pc := 96) dL_law_96 ?_
    obtain ⟨r6, h6, h⟩ := bd_some h
    refine LR.callS0 (pc := 97) (As := [.ref q0, .int (12 + x5)]) (st := []) (as2 := []) (asR := [(q2, 44, a2), (q3, 45, a3)]) (ro2 := [(q0, sL, a0)]) (mg := 0) (FIN := (FI σ r6)) [] [0, 1] dL_law_97 ⟨cd_L_cell, sm_L_cell, ini_L⟩ ml_L_9 (G_cell sL a0 (12 + x5) r6 h6) ⟨rfl, pd_L_cell⟩ ⟨Nat.le_of_ble_eq_true rfl, Nat.le_of_ble_eq_true rfl⟩ ⟨rfl, rfl⟩ rfl rfl rfl rfl rfl (by decide) (Or.inl ⟨[0], rfl⟩) rfl (Nat.le_of_ble_eq_true rfl) (fun v9 σ9 as9 hF9 => ?_)
    obtain ⟨rfl, e9, rfl⟩ := hF9; replace e9 := e9.symm; subst e9
    show LR l code 45 ret lw_tbl room_1 47 5558 ad [(q0, sL, a0)] (EL r) 100 [(0, .ref q0), (1, .ref (ad 0)), (2, .ref q2), (3, .ref q3), (4, .int x4), (5, .int x5)] [.int r6] σ [(q2, 44, a2), (q3, 45, a3)] g
    refine LR.istore (pc := 100) (L2 := [(6, .int r6), (0, .ref q0), (1, .ref (ad 0)), (2, .ref q2), (3, .ref q3), (4, .int x4), (5, .int x5)]) dL_law_100 (by decide) rfl ?_
    refine LR.iload (pc := 102) (j := 0) dL_law_102 rfl ?_
    refine LR.iload (pc := 104) (j := 5) dL_law_104 rfl ?_
    obtain ⟨r7, h7, h⟩ := bd_some h
    refine LR.callS0 (pc := 106) (As := [.int r6, .int x4]) (st := []) (as2 := []) (asR := [(q2, 44, a2), (q3, 45, a3)]) (ro2 := []) (mg := 0) (FIN := (FI σ r7)) [] [0, 1] dL_law_106 ⟨cd_L_low, sm_L_low, ini_L⟩ ml_L_15 (G_low r6 x4 r7 h7) ⟨rfl, pd_L_low⟩ ⟨Nat.le_of_ble_eq_true rfl, Nat.le_of_ble_eq_true rfl⟩ ⟨rfl, rfl⟩ rfl rfl rfl rfl rfl (by decide) (Or.inl ⟨[], rfl⟩) rfl (Nat.le_of_ble_eq_true rfl) (fun v9 σ9 as9 hF9 => ?_)
    obtain ⟨rfl, e9, rfl⟩ := hF9; replace e9 := e9.symm; subst e9
    show LR l code 45 ret lw_tbl room_1 47 5558 ad [(q0, sL, a0)] (EL r) 109 [(6, .int r6), (0, .ref q0), (1, .ref (ad 0)), (2, .ref q2), (3, .ref q3), (4, .int x4), (5, .int x5)] [.int r7] σ [(q2, 44, a2), (q3, 45, a3)] g
    refine LR.istore (pc := 109) (L2 := [(7, .int r7), (6, .int r6), (0, .ref q0), (1, .ref (ad 0)), (2, .ref q2), (3, .ref q3), (4, .int x4), (5, .int x5)]) dL_law_109 (by decide) rfl ?_
    refine LR.iload (pc := 111) (j := 1) dL_law_111 rfl ?_
    refine LR.iconst (pc := 113) (v := 3) dL_law_113 (by decide) ?_
    refine LR.ishr (pc := 114) dL_law_114 ?_
    refine LR.iload (pc := 115) (j := 6) dL_law_115 rfl ?_
    obtain ⟨r8, h8, h⟩ := bd_some h
    refine LR.callS0 (pc := 117) (As := [.int (r6 >>> (3 &&& 31)), .int x4]) (st := []) (as2 := []) (asR := [(q2, 44, a2), (q3, 45, a3)]) (ro2 := []) (mg := 0) (FIN := (FI σ r8)) [] [0, 1] dL_law_117 ⟨cd_L_low, sm_L_low, ini_L⟩ ml_L_15 (G_low (r6 >>> (3 &&& 31)) x4 r8 h8) ⟨rfl, pd_L_low⟩ ⟨Nat.le_of_ble_eq_true rfl, Nat.le_of_ble_eq_true rfl⟩ ⟨rfl, rfl⟩ rfl rfl rfl rfl rfl (by decide) (Or.inl ⟨[], rfl⟩) rfl (Nat.le_of_ble_eq_true rfl) (fun v9 σ9 as9 hF9 => ?_)
    obtain ⟨rfl, e9, rfl⟩ := hF9; replace e9 := e9.symm; subst e9
    show LR l code 45 ret lw_tbl room_1 47 5558 ad [(q0, sL, a0)] (EL r) 120 [(7, .int r7), (6, .int r6), (0, .ref q0), (1, .ref (ad 0)), (2, .ref q2), (3, .ref q3), (4, .int x4), (5, .int x5)] [.int r8] σ [(q2, 44, a2), (q3, 45, a3)] g
    refine LR.istore (pc := 120) (L2 := [(8, .int r8), (7, .int r7), (6, .int r6), (0, .ref q0), (1, .ref (ad 0)), (2, .ref q2), (3, .ref q3), (4, .int x4), (5, .int x5)]) dL_law_120 (by decide) rfl ?_
    refine LR.aload_n (pc := 122) (j := 4) dL_law_122 rfl rfl ?_
    refine LR.iload (pc := 123) (j := 1) dL_law_123 rfl ?_
    refine LR.iload (pc := 125) (j := 0) dL_law_125 rfl ?_
    obtain ⟨r9, h9, h⟩ := bd_some h
    refine LR.callV (pc := 127) (As := [.int r7, .int r8]) (st := []) (ci := 8) dL_law_127 ⟨cd_X8_swap, im_X8_swap, se_X8_swap, ini_X8⟩ ml_L_62 (A8_swap r7 r8 σ _ h9) rfl rfl ⟨rfl, pd_X8_swap⟩ ⟨Nat.le_of_ble_eq_true rfl, Nat.le_of_ble_eq_true rfl⟩ ⟨rfl, rfl⟩ rfl rfl rfl (Nat.le_of_ble_eq_true rfl) ?_
    refine LR.iconst (pc := 130) (v := 1) dL_law_130 (by decide) ?_
    refine LR.icmp_eq (pc := 131) (tgt := 136) dL_law_131 (by decide) (fun c10 => ?_) (fun c10 => ?_)
    · replace h := ite_t c10 h
      refine LR.iconst (pc := 136) (v := 0) dL_law_136 (by decide) ?_
      refine LR.istore (pc := 137) (L2 := [(9, .int 0), (8, .int r8), (7, .int r7), (6, .int r6), (0, .ref q0), (1, .ref (ad 0)), (2, .ref q2), (3, .ref q3), (4, .int x4), (5, .int x5)]) dL_law_137 (by decide) rfl ?_
      exact LR.pick [4, 5, 6, 7, 8, 9, 3, 2, 1, 0] rfl (G_law_139 sL a0 k85 a3 x4 x5 r6 r7 r8 (r9.2) g hk85 (a2, 0) r h)
    · replace h := ite_f c10 h
      refine LR.iconst (pc := 134) (v := 0) dL_law_134 (by decide) ?_
      exact LR.fin ⟨congrArg (fun z => [Value.int z]) (Option.some.inj h), dL_law_135⟩
theorem G_law_85 {l : Launch} {ad : Nat → Nat} {q0 : Nat} (sL : Nat) (a0 : Nat → Int32) {q2 : Nat} {q3 : Nat} (a3 : Nat → Int32) (x4 : Int32) (p : (Nat → Int32) × Int32 × HS × Nat) (r : Int32) (h : g_law_85 sL a0 a3 x4 p = some r) : LR l code 45 ret lw_tbl room_1 47 5558 ad [(q0, sL, a0)] (EL r) 85 [(0, .ref q0), (1, .ref (ad 0)), (2, .ref q2), (3, .ref q3), (4, .int x4), (5, .int (p.2.1))] [] (p.2.2.1) [(q2, 44, p.1), (q3, 45, a3)] (p.2.2.2) := by
  unfold g_law_85 at h
  exact wloop_run (body := fun k85 p => g_law_85_b sL a0 k85 p.1 a3 x4 p.2.1 p.2.2.1 p.2.2.2) (Q := (fun p r => LR l code 45 ret lw_tbl room_1 47 5558 ad [(q0, sL, a0)] (EL r) 85 [(0, .ref q0), (1, .ref (ad 0)), (2, .ref q2), (3, .ref q3), (4, .int x4), (5, .int (p.2.1))] [] (p.2.2.1) [(q2, 44, p.1), (q3, 45, a3)] (p.2.2.2))) (fun k85 hk85 p r h => G_law_85_b sL a0 k85 p.1 a3 x4 p.2.1 p.2.2.1 p.2.2.2 hk85 r h) fuelN p r h
set_option maxHeartbeats 4000000 in
set_option maxRecDepth 100000 in
theorem G_law_66 {l : Launch} {ad : Nat → Nat} {q0 : Nat} (sL : Nat) (a0 : Nat → Int32) {q2 : Nat} {q3 : Nat} (a2 : Nat → Int32) (a3 : Nat → Int32) (z0 : Int32) (z1 : Int32) (z2 : Int32) (σ : HS) (g : Nat) (r : Int32) (h : g_law_66 sL a0 a2 a3 z0 z1 z2 σ g = some r) : LR l code 45 ret lw_tbl room_1 47 5558 ad [(q0, sL, a0)] (EL r) 66 [(0, .ref q0), (1, .ref (ad 0)), (2, .ref q2), (3, .ref q3)] [.int z0, .int z1, .int z2, .ref q0, .ref q3, .ref q2, .ref (ad 0)] σ [(q2, 44, a2), (q3, 45, a3)] g := by
  unfold g_law_66 at h
  obtain ⟨r1, h1, h⟩ := bd_some h
  refine LR.callS0 (pc := 66) (As := [.ref (ad 0), .ref q2, .ref q3, .ref q0, .int z2, .int z1, .int z0]) (st := []) (as2 := [(q2, 44, a2), (q3, 45, a3)]) (asR := []) (ro2 := [(q0, sL, a0)]) (mg := 0) (FIN := (FW q2 44 q3 45 r1)) [0, 1] [] dL_law_66 ⟨cd_L_lay, sm_L_lay, ini_L⟩ ml_L_58 (G_lay sL a2 a3 a0 z2 z1 z0 σ r1 h1) ⟨rfl, pd_L_lay⟩ ⟨Nat.le_of_ble_eq_true rfl, Nat.le_of_ble_eq_true rfl⟩ ⟨rfl, rfl⟩ rfl rfl rfl rfl rfl (by decide) (Or.inl ⟨[0], rfl⟩) rfl (Nat.le_of_ble_eq_true rfl) (fun v9 σ9 as9 hF9 => ?_)
  obtain ⟨rfl, e9, rfl⟩ := hF9; replace e9 := e9.symm; subst e9
  show LR l code 45 ret lw_tbl room_1 47 5558 ad [(q0, sL, a0)] (EL r) 69 [(0, .ref q0), (1, .ref (ad 0)), (2, .ref q2), (3, .ref q3)] [.int (r1.1)] (r1.2.1) [(q2, 44, r1.2.2.1), (q3, 45, r1.2.2.2)] g
  refine LR.aload_n (pc := 69) (j := 2) dL_law_69 rfl rfl ?_
  refine LR.iconst (pc := 70) (v := 0) dL_law_70 (by decide) ?_
  refine LR.iaload (pc := 71) (j := 0) dL_law_71 rfl (by decide) ?_
  refine LR.icmp_eq (pc := 72) (tgt := 77) dL_law_72 (by decide) (fun c2 => ?_) (fun c2 => ?_)
  · replace h := ite_t c2 h
    refine LR.aload_n (pc := 77) (j := 2) dL_law_77 rfl rfl ?_
    refine LR.iconst (pc := 78) (v := 0) dL_law_78 (by decide) ?_
    refine LR.iaload (pc := 79) (j := 0) dL_law_79 rfl (by decide) ?_
    refine LR.istore (pc := 80) (L2 := [(4, .int ((r1.2.2.1) (0 : Int32).toNatClampNeg)), (0, .ref q0), (1, .ref (ad 0)), (2, .ref q2), (3, .ref q3)]) dL_law_80 (by decide) rfl ?_
    refine LR.iconst (pc := 82) (v := 0) dL_law_82 (by decide) ?_
    refine LR.istore (pc := 83) (L2 := [(5, .int 0), (4, .int ((r1.2.2.1) (0 : Int32).toNatClampNeg)), (0, .ref q0), (1, .ref (ad 0)), (2, .ref q2), (3, .ref q3)]) dL_law_83 (by decide) rfl ?_
    exact LR.pick [2, 3, 4, 5, 1, 0] rfl (G_law_85 sL a0 (r1.2.2.2) ((r1.2.2.1) (0 : Int32).toNatClampNeg) (r1.2.2.1, 0, r1.2.1, g) r h)
  · replace h := ite_f c2 h
    refine LR.iconst (pc := 75) (v := 0) dL_law_75 (by decide) ?_
    exact LR.fin ⟨congrArg (fun z => [Value.int z]) (Option.some.inj h), dL_law_76⟩
set_option maxHeartbeats 4000000 in
set_option maxRecDepth 100000 in
theorem G_law {l : Launch} {ad : Nat → Nat} {q0 : Nat} (sL : Nat) (a0 : Nat → Int32) (σ : HS) (g : Nat) (r : Int32) (h : g_law sL a0 σ g = some r) : LR l code 45 ret lw_tbl room_1 47 5558 ad [(q0, sL, a0)] (EL r) 8 [(0, .ref q0), (1, .ref (ad 0))] [] σ [] g := by
  unfold g_law at h
  refine LR.bipush (pc := 8) (v := 44) dL_law_8 (by decide) ?_
  obtain ⟨c1, h⟩ := gn_some h
  refine LR.newa (pc := 10) (N := 44) dL_law_10 (by decide) (by decide) (by decide) (groom c1) (fun qn1 => ?_)
  show LR l code 45 ret lw_tbl room_1 47 5558 ad [(q0, sL, a0)] (EL r) 12 [(0, .ref q0), (1, .ref (ad 0))] [.ref qn1] σ [(qn1, 44, (fun _ => 0))] (g + 1)
  refine LR.astore_n (pc := 12) (L2 := [(2, .ref qn1), (0, .ref q0), (1, .ref (ad 0))]) dL_law_12 rfl (by decide) rfl ?_
  refine LR.bipush (pc := 13) (v := 45) dL_law_13 (by decide) ?_
  obtain ⟨c2, h⟩ := gn_some h
  refine LR.newa (pc := 15) (N := 45) dL_law_15 (by decide) (by decide) (by decide) (groom c2) (fun qn2 => ?_)
  show LR l code 45 ret lw_tbl room_1 47 5558 ad [(q0, sL, a0)] (EL r) 17 [(2, .ref qn1), (0, .ref q0), (1, .ref (ad 0))] [.ref qn2] σ [(qn1, 44, (fun _ => 0)), (qn2, 45, (fun _ => 0))] ((g + 1) + 1)
  refine LR.astore_n (pc := 17) (L2 := [(3, .ref qn2), (2, .ref qn1), (0, .ref q0), (1, .ref (ad 0))]) dL_law_17 rfl (by decide) rfl ?_
  refine LR.aload_n (pc := 18) (j := 3) dL_law_18 rfl rfl ?_
  refine LR.iconst (pc := 19) (v := 0) dL_law_19 (by decide) ?_
  refine LR.iconst (pc := 20) (v := 0) dL_law_20 (by decide) ?_
  refine LR.bipush (pc := 21) (v := 100) dL_law_21 (by decide) ?_
  obtain ⟨r3, h3, h⟩ := bd_some h
  refine LR.callV (pc := 23) (As := [.int 0, .int 0, .int 100]) (st := []) (ci := 8) dL_law_23 ⟨cd_X8_sheet, im_X8_sheet, se_X8_sheet, ini_X8⟩ ml_L_55 (A8_sheet 0 0 100 σ _ h3) rfl rfl ⟨rfl, pd_X8_sheet⟩ ⟨Nat.le_of_ble_eq_true rfl, Nat.le_of_ble_eq_true rfl⟩ ⟨rfl, rfl⟩ rfl rfl rfl (Nat.le_of_ble_eq_true rfl) ?_
  refine LR.iconst (pc := 26) (v := 1) dL_law_26 (by decide) ?_
  refine LR.icmp_ne (pc := 27) (tgt := 75) dL_law_27 (by decide) (fun c4 => ?_) (fun c4 => ?_)
  · replace h := ite_f c4 h
    refine LR.iconst (pc := 75) (v := 0) dL_law_75 (by decide) ?_
    exact LR.fin ⟨congrArg (fun z => [Value.int z]) (Option.some.inj h), dL_law_76⟩
  · replace h := ite_t c4 h
    refine LR.aload_n (pc := 30) (j := 3) dL_law_30 rfl rfl ?_
    refine LR.iconst (pc := 31) (v := 1) dL_law_31 (by decide) ?_
    refine LR.iconst (pc := 32) (v := 1) dL_law_32 (by decide) ?_
    refine LR.bipush (pc := 33) (v := 7) dL_law_33 (by decide) ?_
    obtain ⟨r5, h5, h⟩ := bd_some h
    refine LR.callV (pc := 35) (As := [.int 1, .int 1, .int 7]) (st := []) (ci := 8) dL_law_35 ⟨cd_X8_sheet, im_X8_sheet, se_X8_sheet, ini_X8⟩ ml_L_55 (A8_sheet 1 1 7 (r3.2) _ h5) rfl rfl ⟨rfl, pd_X8_sheet⟩ ⟨Nat.le_of_ble_eq_true rfl, Nat.le_of_ble_eq_true rfl⟩ ⟨rfl, rfl⟩ rfl rfl rfl (Nat.le_of_ble_eq_true rfl) ?_
    refine LR.iconst (pc := 38) (v := 1) dL_law_38 (by decide) ?_
    refine LR.icmp_ne (pc := 39) (tgt := 75) dL_law_39 (by decide) (fun c6 => ?_) (fun c6 => ?_)
    · replace h := ite_f c6 h
      refine LR.iconst (pc := 75) (v := 0) dL_law_75 (by decide) ?_
      exact LR.fin ⟨congrArg (fun z => [Value.int z]) (Option.some.inj h), dL_law_76⟩
    · replace h := ite_t c6 h
      refine LR.aload_n (pc := 42) (j := 3) dL_law_42 rfl rfl ?_
      refine LR.aload_n (pc := 43) (j := 1) dL_law_43 rfl rfl ?_
      refine LR.aload_n (pc := 44) (j := 0) dL_law_44 rfl rfl ?_
      refine LR.aload_n (pc := 45) (j := 2) dL_law_45 rfl rfl ?_
      refine LR.iconst (pc := 46) (v := 0) dL_law_46 (by decide) ?_
      refine LR.iconst (pc := 47) (v := 4) dL_law_47 (by decide) ?_
      refine LR.aload_n (pc := 48) (j := 2) dL_law_48 rfl rfl ?_
      refine LR.bipush (pc := 49) (v := 11) dL_law_49 (by decide) ?_
      obtain ⟨r7, h7, h⟩ := bd_some h
      refine LR.callS0 (pc := 51) (As := [.ref q0, .int 11]) (st := [.int 4, .int 0, .ref q0, .ref qn2, .ref qn1, .ref (ad 0)]) (as2 := []) (asR := [(qn1, 44, (fun _ => 0)), (qn2, 45, (fun _ => 0))]) (ro2 := [(q0, sL, a0)]) (mg := 0) (FIN := (FI (r5.2) r7)) [] [0, 1] dL_law_51 ⟨cd_L_cell, sm_L_cell, ini_L⟩ ml_L_9 (G_cell sL a0 11 r7 h7) ⟨rfl, pd_L_cell⟩ ⟨Nat.le_of_ble_eq_true rfl, Nat.le_of_ble_eq_true rfl⟩ ⟨rfl, rfl⟩ rfl rfl rfl rfl rfl (by decide) (Or.inl ⟨[0], rfl⟩) rfl (Nat.le_of_ble_eq_true rfl) (fun v9 σ9 as9 hF9 => ?_)
      obtain ⟨rfl, e9, rfl⟩ := hF9; replace e9 := e9.symm; subst e9
      show LR l code 45 ret lw_tbl room_1 47 5558 ad [(q0, sL, a0)] (EL r) 54 [(3, .ref qn2), (2, .ref qn1), (0, .ref q0), (1, .ref (ad 0))] [.int r7, .int 4, .int 0, .ref q0, .ref qn2, .ref qn1, .ref (ad 0)] (r5.2) [(qn1, 44, (fun _ => 0)), (qn2, 45, (fun _ => 0))] ((g + 1) + 1)
      refine LR.iconst (pc := 54) (v := 1) dL_law_54 (by decide) ?_
      refine LR.iand (pc := 55) dL_law_55 ?_
      refine LR.if_ne (pc := 56) (tgt := 64) dL_law_56 (by decide) (fun c8 => ?_) (fun c8 => ?_)
      · replace h := ite_f c8 h
        refine LR.bipush (pc := 64) (v := 30) dL_law_64 (by decide) ?_
        exact LR.pick [2, 3, 1, 0] rfl (G_law_66 sL a0 (fun _ => 0) (fun _ => 0) 30 4 0 (r5.2) ((g + 1) + 1) r h)
      · replace h := ite_t c8 h
        refine LR.bipush (pc := 59) (v := 60) dL_law_59 (by decide) ?_
        refine LR.goto (pc := 61) (tgt := 66) dL_law_61 (by decide) ?_
        exact LR.pick [2, 3, 1, 0] rfl (G_law_66 sL a0 (fun _ => 0) (fun _ => 0) 60 4 0 (r5.2) ((g + 1) + 1) r h)
