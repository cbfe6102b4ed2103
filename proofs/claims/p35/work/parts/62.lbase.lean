/-! what the contracts of the law's methods are made of -/
def FI (σ : HS) (r : Int32) : Option Value → HS → LA → Prop := fun v σ1 as1 => v = some (.int r) ∧ σ1 = σ ∧ as1 = []
def FA (N : Nat) (σ : HS) (r : Nat → Int32) : Option Value → HS → LA → Prop := fun v σ1 as1 => ∃ q, v = some (.ref q) ∧ σ1 = σ ∧ as1 = [(q, N, r)]
def FW (q1 n1 q2 n2 : Nat) (r : Int32 × HS × (Nat → Int32) × (Nat → Int32)) : Option Value → HS → LA → Prop := fun v σ1 as1 => v = some (.int r.1) ∧ σ1 = r.2.1 ∧ as1 = [(q1, n1, r.2.2.1), (q2, n2, r.2.2.2)]
def EL (r : Int32) : Nat → List Value → HS → LA → Nat → Prop := fun pc st _ _ _ => st = [.int r] ∧ decode code pc = .ok (.ireturn, 1)
theorem groom {g : Nat} (h : ¬ 80000 ≤ g) : 47 + (g + 1) ≤ room_1.cells ∧ 5558 + 80 * (g + 1) ≤ room_1.slots := by
  have h1 : room_1.cells = 600000 := rfl
  have h2 : room_1.slots = 7302250 := rfl
  rw [h1, h2]
  omega
def rmL_cell : Room := { frames := 0, cells := 0, slots := 0, locals := 0 }
theorem pd_L_cell : yL_cell.cls ≠ "java/lang/invoke/MethodHandle" ∧ yL_cell.cls ≠ "java/lang/invoke/VarHandle" ∧ (parseMethodDescriptor yL_cell.desc).map (fun d => d.parameters.length) = some 2 := by decide +kernel
theorem pn_L_cell : plainName yL_cell.cls = true := by decide +kernel
def rmL_low : Room := { frames := 0, cells := 0, slots := 0, locals := 0 }
theorem pd_L_low : yL_low.cls ≠ "java/lang/invoke/MethodHandle" ∧ yL_low.cls ≠ "java/lang/invoke/VarHandle" ∧ (parseMethodDescriptor yL_low.desc).map (fun d => d.parameters.length) = some 2 := by decide +kernel
theorem pn_L_low : plainName yL_low.cls = true := by decide +kernel
def rmL_turns : Room := { frames := 0, cells := 0, slots := 0, locals := 0 }
theorem pd_L_turns : yL_turns.cls ≠ "java/lang/invoke/MethodHandle" ∧ yL_turns.cls ≠ "java/lang/invoke/VarHandle" ∧ (parseMethodDescriptor yL_turns.desc).map (fun d => d.parameters.length) = some 1 := by decide +kernel
theorem pn_L_turns : plainName yL_turns.cls = true := by decide +kernel
def rmL_who : Room := { frames := 0, cells := 0, slots := 0, locals := 0 }
theorem pd_L_who : yL_who.cls ≠ "java/lang/invoke/MethodHandle" ∧ yL_who.cls ≠ "java/lang/invoke/VarHandle" ∧ (parseMethodDescriptor yL_who.desc).map (fun d => d.parameters.length) = some 2 := by decide +kernel
theorem pn_L_who : plainName yL_who.cls = true := by decide +kernel
def rmL_ahead : Room := { frames := 0, cells := 0, slots := 0, locals := 0 }
theorem pd_L_ahead : yL_ahead.cls ≠ "java/lang/invoke/MethodHandle" ∧ yL_ahead.cls ≠ "java/lang/invoke/VarHandle" ∧ (parseMethodDescriptor yL_ahead.desc).map (fun d => d.parameters.length) = some 3 := by decide +kernel
theorem pn_L_ahead : plainName yL_ahead.cls = true := by decide +kernel
def rmL_day : Room := { frames := 1, cells := 1, slots := 80, locals := 27 }
theorem pd_L_day : yL_day.cls ≠ "java/lang/invoke/MethodHandle" ∧ yL_day.cls ≠ "java/lang/invoke/VarHandle" ∧ (parseMethodDescriptor yL_day.desc).map (fun d => d.parameters.length) = some 5 := by decide +kernel
theorem pn_L_day : plainName yL_day.cls = true := by decide +kernel
def rmL_said : Room := { frames := 0, cells := 0, slots := 0, locals := 0 }
theorem pd_L_said : yL_said.cls ≠ "java/lang/invoke/MethodHandle" ∧ yL_said.cls ≠ "java/lang/invoke/VarHandle" ∧ (parseMethodDescriptor yL_said.desc).map (fun d => d.parameters.length) = some 4 := by decide +kernel
theorem pn_L_said : plainName yL_said.cls = true := by decide +kernel
def rmL_start : Room := { frames := 1, cells := 0, slots := 0, locals := 27 }
theorem pd_L_start : yL_start.cls ≠ "java/lang/invoke/MethodHandle" ∧ yL_start.cls ≠ "java/lang/invoke/VarHandle" ∧ (parseMethodDescriptor yL_start.desc).map (fun d => d.parameters.length) = some 1 := by decide +kernel
theorem pn_L_start : plainName yL_start.cls = true := by decide +kernel
def rmL_from : Room := { frames := 1, cells := 1, slots := 80, locals := 28 }
theorem pd_L_from : yL_from.cls ≠ "java/lang/invoke/MethodHandle" ∧ yL_from.cls ≠ "java/lang/invoke/VarHandle" ∧ (parseMethodDescriptor yL_from.desc).map (fun d => d.parameters.length) = some 7 := by decide +kernel
theorem pn_L_from : plainName yL_from.cls = true := by decide +kernel
def rmL_free : Room := { frames := 2, cells := 1, slots := 80, locals := 65 }
theorem pd_L_free : yL_free.cls ≠ "java/lang/invoke/MethodHandle" ∧ yL_free.cls ≠ "java/lang/invoke/VarHandle" ∧ (parseMethodDescriptor yL_free.desc).map (fun d => d.parameters.length) = some 4 := by decide +kernel
theorem pn_L_free : plainName yL_free.cls = true := by decide +kernel
def rmL_all : Room := { frames := 0, cells := 0, slots := 0, locals := 0 }
theorem pd_L_all : yL_all.cls ≠ "java/lang/invoke/MethodHandle" ∧ yL_all.cls ≠ "java/lang/invoke/VarHandle" ∧ (parseMethodDescriptor yL_all.desc).map (fun d => d.parameters.length) = some 2 := by decide +kernel
theorem pn_L_all : plainName yL_all.cls = true := by decide +kernel
def rmL_says : Room := { frames := 1, cells := 0, slots := 0, locals := 25 }
theorem pd_L_says : yL_says.cls ≠ "java/lang/invoke/MethodHandle" ∧ yL_says.cls ≠ "java/lang/invoke/VarHandle" ∧ (parseMethodDescriptor yL_says.desc).map (fun d => d.parameters.length) = some 4 := by decide +kernel
theorem pn_L_says : plainName yL_says.cls = true := by decide +kernel
def rmL_but : Room := { frames := 2, cells := 1, slots := 80, locals := 51 }
theorem pd_L_but : yL_but.cls ≠ "java/lang/invoke/MethodHandle" ∧ yL_but.cls ≠ "java/lang/invoke/VarHandle" ∧ (parseMethodDescriptor yL_but.desc).map (fun d => d.parameters.length) = some 6 := by decide +kernel
theorem pn_L_but : plainName yL_but.cls = true := by decide +kernel
def rmL_lay : Room := { frames := 7, cells := 0, slots := 0, locals := 162 }
theorem pd_L_lay : yL_lay.cls ≠ "java/lang/invoke/MethodHandle" ∧ yL_lay.cls ≠ "java/lang/invoke/VarHandle" ∧ (parseMethodDescriptor yL_lay.desc).map (fun d => d.parameters.length) = some 7 := by decide +kernel
theorem pn_L_lay : plainName yL_lay.cls = true := by decide +kernel
def rmL_read : Room := { frames := 7, cells := 0, slots := 0, locals := 169 }
theorem pd_L_read : yL_read.cls ≠ "java/lang/invoke/MethodHandle" ∧ yL_read.cls ≠ "java/lang/invoke/VarHandle" ∧ (parseMethodDescriptor yL_read.desc).map (fun d => d.parameters.length) = some 4 := by decide +kernel
theorem pn_L_read : plainName yL_read.cls = true := by decide +kernel
