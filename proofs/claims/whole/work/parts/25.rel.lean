/-! the relation, and the methods that are small -/
def rl_row (xk xv xp : Nat → Int32) (xb : Nat) (yk yv : Nat → Int32) (yb c : Nat) : Prop := c ≤ 50 ∧ (∀ i, i < c → xk (xb + i) = yk (yb + i) ∧ xv (xb + i) = yv (yb + i) ∧ yk (yb + i) = nI (kn yk (yb + i)) ∧ tk_P (kn yk (yb + i)) (yv (yb + i))) ∧ wf_U (fun i => kn yk (yb + i)) (fun i => tk_n (kn yk (yb + i)) (kn yv (yb + i))) c (fun i => xp (xb + i)) xb ∧ (∀ i j, i < j → j < c → (kn yk (yb + i) = 28 ∨ kn yk (yb + i) = 29) → (kn yk (yb + j) = 28 ∨ kn yk (yb + j) = 29) → kn yv (yb + i) % 16 ≠ kn yv (yb + j) % 16) ∧ (∀ i, i < c → kn yk (yb + i) = 29 → i + 1 < c)
def rl_dr (dc : Int32) (dk dv yk yv ys : Nat → Int32) : Prop := ∃ c, c ≤ 50 ∧ dc = nI c ∧ ys 5 = nI c ∧ ∀ i, i < 50 → dk i = yk (250 + i) ∧ dv i = yv (250 + i) ∧ yk (250 + i) = nI (kn yk (250 + i)) ∧ tk_P (kn yk (250 + i)) (yv (250 + i))
def rl_un (uk uv up ul yk yv ys : Nat → Int32) : Prop := ∀ u, u < 5 → ∃ c, ul u = nI c ∧ ys u = nI c ∧ rl_row uk uv up (50 * u) yk yv (50 * u) c
def rl_li (lc yl : Int32) (lu ll yli ylb : Nat → Int32) : Prop := ∃ n, n ≤ 5 ∧ lc = nI n ∧ yl = nI n ∧ yli = lu ∧ ylb = ll ∧ (∀ i, i < 5 → ∃ u, u < 5 ∧ lu i = nI u) ∧ (∀ i j, i < j → j < n → lu i ≠ lu j)
def rl_ln (E : SX) (Z : SY) (me my : Nat → Int32) : Prop := ∃ (n m : Nat) (tk ln : Nat → Nat) (D B pr : Nat → Nat → Nat), pR E Z n m tk ln D B pr ∧ ∀ i, i < m → me i = my i
/-- the relation -/
def i_Rel (_ : Nat) (E : SX) (Z : SY) : Prop := rl_dr (E.1) (E.2.2.2.2.2.2.2.2.2.2.2.2.2.2.2.1) (E.2.2.2.2.2.2.2.2.2.2.2.2.2.2.2.2.1) (Z.2.2.2.2.2.2.2.2.2.2.2.2.2.2.2.1) (Z.2.2.2.2.2.2.2.2.2.2.2.2.2.2.2.2.1) (Z.2.2.2.2.2.2.2.2.2.2.2.2.2.2.2.2.2.1) ∧ rl_un (E.2.2.2.2.2.2.2.2.2.2.2.2.2.2.2.2.2.2.2.1) (E.2.2.2.2.2.2.2.2.2.2.2.2.2.2.2.2.2.2.2.2.1) (E.2.2.2.2.2.2.2.2.2.2.2.2.2.2.2.2.2.2.2.2.2.1) (E.2.2.2.2.2.2.2.2.2.2.2.2.2.2.2.2.2.2.2.2.2.2.1) (Z.2.2.2.2.2.2.2.2.2.2.2.2.2.2.2.1) (Z.2.2.2.2.2.2.2.2.2.2.2.2.2.2.2.2.1) (Z.2.2.2.2.2.2.2.2.2.2.2.2.2.2.2.2.2.1) ∧ rl_li (E.2.2.2.2.1) (Z.2.2.1) (E.2.2.2.2.2.2.2.2.2.2.2.2.2.2.2.2.2.2.2.2.2.2.2.1) (E.2.2.2.2.2.2.2.2.2.2.2.2.2.2.2.2.2.2.2.2.2.2.2.2.1) (Z.2.2.2.2.2.2.2.2.2.2.2.2.2.2.2.2.2.2.1) (Z.2.2.2.2.2.2.2.2.2.2.2.2.2.2.2.2.2.2.2.1) ∧ yk_R (Z.2.2.2.2.2.2.2.2.2.2.2.2.2.2.2.1) (Z.2.2.2.2.2.2.2.2.2.2.2.2.2.2.2.2.2.1) ∧ rl_ln E Z (E.2.2.2.2.2.2.2.2.2.2.2.2.2.2.2.2.2.2.2.2.2.2.2.2.2.2.2.2.2.2.2.2.2.2.1) (Z.2.2.2.2.2.2.2.2.2.2.2.2.2.2.2.2.2.2.2.2.2.1) ∧ E.2.2.2.1 = Z.1 ∧ E.2.2.2.2.2.2.1 = Z.2.1 ∧ E.2.2.2.2.2.2.2.2.2.2.2.2.2.1 = Z.2.2.2.2.2.2.2.2.2.2.2.1 ∧ E.2.2.2.2.2.2.2.2.2.2.2.2.2.2.1 = Z.2.2.2.2.2.2.2.2.2.2.1 ∧ E.2.2.2.2.2.2.2.2.2.2.2.2.2.2.2.2.2.2.2.2.2.2.2.2.2.2.2.2.2.2.2.2.2.2.2.1 = Z.2.2.2.2.2.2.2.2.2.2.2.2.2.2.2.2.2.2.2.2.2.2.2.2.2.2.2.2 ∧ E.2.2.2.2.2.2.2.2.2.2.2.2.2.2.2.2.2.2.2.2.2.2.2.2.2.2.2.2.2.2.2.2.2.2.2.2.2.2.1 = Z.2.2.2.2.2.2.2.2.2.2.2.2.2.2.2.2.2.2.2.2.2.2.2.2.2.1
section
variable {f_draftCount f_openCount f_operandsDue f_faultPlace f_listCount f_takenCount f_culpritName f_memorySize f_operandCount f_pendingCount f_frameCount f_next f_outcome f_lastResult f_stepCount : Int32} {a_draftKind a_draftValue a_draftPartner a_openBlock a_unitKind a_unitValue a_unitPartner a_unitLength a_listedUnit a_listedAsLibrary a_takenUnit a_definition a_isDuplicate a_isWanted a_codeKind a_codeValue a_codePartner a_functionOf a_placeOf a_memory a_operands a_pendingToken a_pendingDue a_locals a_returnTo : Nat → Int32}
variable {g_place g_culprit g_listed g_units g_taken g_used g_depth g_waiting g_held g_fault g_steps g_result g_given g_gift g_has : Int32} {b_kind b_value b_size b_list b_library b_places b_memory b_wanted b_pc b_base b_locals b_waits b_got b_values : Nat → Int32}
theorem i_mk {k : Nat} (h : rl_dr f_draftCount a_draftKind a_draftValue b_kind b_value b_size ∧ rl_un a_unitKind a_unitValue a_unitPartner a_unitLength b_kind b_value b_size ∧ rl_li f_listCount g_listed a_listedUnit a_listedAsLibrary b_list b_library ∧ yk_R b_kind b_size ∧ rl_ln (f_draftCount, f_openCount, f_operandsDue, f_faultPlace, f_listCount, f_takenCount, f_culpritName, f_memorySize, f_operandCount, f_pendingCount, f_frameCount, f_next, f_outcome, f_lastResult, f_stepCount, a_draftKind, a_draftValue, a_draftPartner, a_openBlock, a_unitKind, a_unitValue, a_unitPartner, a_unitLength, a_listedUnit, a_listedAsLibrary, a_takenUnit, a_definition, a_isDuplicate, a_isWanted, a_codeKind, a_codeValue, a_codePartner, a_functionOf, a_placeOf, a_memory, a_operands, a_pendingToken, a_pendingDue, a_locals, a_returnTo) (g_place, g_culprit, g_listed, g_units, g_taken, g_used, g_depth, g_waiting, g_held, g_fault, g_steps, g_result, g_given, g_gift, g_has, b_kind, b_value, b_size, b_list, b_library, b_places, b_memory, b_wanted, b_pc, b_base, b_locals, b_waits, b_got, b_values) a_memory b_memory ∧ f_faultPlace = g_place ∧ f_culpritName = g_culprit ∧ f_lastResult = g_result ∧ f_stepCount = g_steps ∧ a_operands = b_values ∧ a_locals = b_locals) : i_Rel k (f_draftCount, f_openCount, f_operandsDue, f_faultPlace, f_listCount, f_takenCount, f_culpritName, f_memorySize, f_operandCount, f_pendingCount, f_frameCount, f_next, f_outcome, f_lastResult, f_stepCount, a_draftKind, a_draftValue, a_draftPartner, a_openBlock, a_unitKind, a_unitValue, a_unitPartner, a_unitLength, a_listedUnit, a_listedAsLibrary, a_takenUnit, a_definition, a_isDuplicate, a_isWanted, a_codeKind, a_codeValue, a_codePartner, a_functionOf, a_placeOf, a_memory, a_operands, a_pendingToken, a_pendingDue, a_locals, a_returnTo) (g_place, g_culprit, g_listed, g_units, g_taken, g_used, g_depth, g_waiting, g_held, g_fault, g_steps, g_result, g_given, g_gift, g_has, b_kind, b_value, b_size, b_list, b_library, b_places, b_memory, b_wanted, b_pc, b_base, b_locals, b_waits, b_got, b_values) := h
theorem i_el {k : Nat} (h : i_Rel k (f_draftCount, f_openCount, f_operandsDue, f_faultPlace, f_listCount, f_takenCount, f_culpritName, f_memorySize, f_operandCount, f_pendingCount, f_frameCount, f_next, f_outcome, f_lastResult, f_stepCount, a_draftKind, a_draftValue, a_draftPartner, a_openBlock, a_unitKind, a_unitValue, a_unitPartner, a_unitLength, a_listedUnit, a_listedAsLibrary, a_takenUnit, a_definition, a_isDuplicate, a_isWanted, a_codeKind, a_codeValue, a_codePartner, a_functionOf, a_placeOf, a_memory, a_operands, a_pendingToken, a_pendingDue, a_locals, a_returnTo) (g_place, g_culprit, g_listed, g_units, g_taken, g_used, g_depth, g_waiting, g_held, g_fault, g_steps, g_result, g_given, g_gift, g_has, b_kind, b_value, b_size, b_list, b_library, b_places, b_memory, b_wanted, b_pc, b_base, b_locals, b_waits, b_got, b_values)) : rl_dr f_draftCount a_draftKind a_draftValue b_kind b_value b_size ∧ rl_un a_unitKind a_unitValue a_unitPartner a_unitLength b_kind b_value b_size ∧ rl_li f_listCount g_listed a_listedUnit a_listedAsLibrary b_list b_library ∧ yk_R b_kind b_size ∧ rl_ln (f_draftCount, f_openCount, f_operandsDue, f_faultPlace, f_listCount, f_takenCount, f_culpritName, f_memorySize, f_operandCount, f_pendingCount, f_frameCount, f_next, f_outcome, f_lastResult, f_stepCount, a_draftKind, a_draftValue, a_draftPartner, a_openBlock, a_unitKind, a_unitValue, a_unitPartner, a_unitLength, a_listedUnit, a_listedAsLibrary, a_takenUnit, a_definition, a_isDuplicate, a_isWanted, a_codeKind, a_codeValue, a_codePartner, a_functionOf, a_placeOf, a_memory, a_operands, a_pendingToken, a_pendingDue, a_locals, a_returnTo) (g_place, g_culprit, g_listed, g_units, g_taken, g_used, g_depth, g_waiting, g_held, g_fault, g_steps, g_result, g_given, g_gift, g_has, b_kind, b_value, b_size, b_list, b_library, b_places, b_memory, b_wanted, b_pc, b_base, b_locals, b_waits, b_got, b_values) a_memory b_memory ∧ f_faultPlace = g_place ∧ f_culpritName = g_culprit ∧ f_lastResult = g_result ∧ f_stepCount = g_steps ∧ a_operands = b_values ∧ a_locals = b_locals := h
end
theorem i_up {k : Nat} {u : SX} {v : SY} (h : i_Rel k u v) : i_Rel (k + 5) u v := h
theorem pR_ext {E E' : SX} {Z Z' : SY} {n m : Nat} {tk ln : Nat → Nat} {D B pr : Nat → Nat → Nat} (e1 : xMS E' = xMS E) (e2 : xCK E' = xCK E) (e3 : xCV E' = xCV E) (e4 : xCP E' = xCP E) (e5 : xFO E' = xFO E) (e6 : xPO E' = xPO E) (y1 : yUN Z' = yUN Z) (y2 : yUS Z' = yUS Z) (y3 : yPL Z' = yPL Z) (y4 : ∀ j, 550 ≤ j → yK Z' j = yK Z j ∧ yV Z' j = yV Z j) (y5 : ∀ r, 11 ≤ r → yS Z' r = yS Z r) (h : pR E Z n m tk ln D B pr) : pR E' Z' n m tk ln D B pr := by
  have hK : pK Z' = pK Z := by
    funext k i
    show (yK Z' _).toNatClampNeg = (yK Z _).toNatClampNeg
    rw [(y4 _ (by omega)).1]
  have hV : pV Z' = pV Z := by
    funext k i
    show (yV Z' _).toNatClampNeg = (yV Z _).toNatClampNeg
    rw [(y4 _ (by omega)).2]
  have hO : pO Z' = pO Z := by
    funext k i
    unfold pO
    rw [hK, hV]
  obtain ⟨h1, h2, h3, h4, h5, h6, h7, h8, h9⟩ := h
  unfold pR
  rw [hK, hV, hO, e1, e5, e6, y1, y2, y3]
  refine ⟨h1, h2, h3, h4, h5, fun k hk => ?_, h7, h8, h9⟩
  obtain ⟨a, b, c, d, e, f⟩ := h6 k hk
  refine ⟨a, b, by rw [y5 _ (by omega)]; exact c, fun i hi => ?_, e, by rw [e4]; exact f⟩
  obtain ⟨d1, d2, d3, d4⟩ := d i hi
  unfold pT
  rw [hK, e2, e3, (y4 _ (by omega)).1, (y4 _ (by omega)).2]
  exact ⟨d1, d2, d3, d4⟩
section
variable {f_draftCount f_openCount f_operandsDue f_faultPlace f_listCount f_takenCount f_culpritName f_memorySize f_operandCount f_pendingCount f_frameCount f_next f_outcome f_lastResult f_stepCount : Int32} {a_draftKind a_draftValue a_draftPartner a_openBlock a_unitKind a_unitValue a_unitPartner a_unitLength a_listedUnit a_listedAsLibrary a_takenUnit a_definition a_isDuplicate a_isWanted a_codeKind a_codeValue a_codePartner a_functionOf a_placeOf a_memory a_operands a_pendingToken a_pendingDue a_locals a_returnTo : Nat → Int32}
theorem xMS_e : xMS (f_draftCount, f_openCount, f_operandsDue, f_faultPlace, f_listCount, f_takenCount, f_culpritName, f_memorySize, f_operandCount, f_pendingCount, f_frameCount, f_next, f_outcome, f_lastResult, f_stepCount, a_draftKind, a_draftValue, a_draftPartner, a_openBlock, a_unitKind, a_unitValue, a_unitPartner, a_unitLength, a_listedUnit, a_listedAsLibrary, a_takenUnit, a_definition, a_isDuplicate, a_isWanted, a_codeKind, a_codeValue, a_codePartner, a_functionOf, a_placeOf, a_memory, a_operands, a_pendingToken, a_pendingDue, a_locals, a_returnTo) = f_memorySize := rfl
theorem xCK_e : xCK (f_draftCount, f_openCount, f_operandsDue, f_faultPlace, f_listCount, f_takenCount, f_culpritName, f_memorySize, f_operandCount, f_pendingCount, f_frameCount, f_next, f_outcome, f_lastResult, f_stepCount, a_draftKind, a_draftValue, a_draftPartner, a_openBlock, a_unitKind, a_unitValue, a_unitPartner, a_unitLength, a_listedUnit, a_listedAsLibrary, a_takenUnit, a_definition, a_isDuplicate, a_isWanted, a_codeKind, a_codeValue, a_codePartner, a_functionOf, a_placeOf, a_memory, a_operands, a_pendingToken, a_pendingDue, a_locals, a_returnTo) = a_codeKind := rfl
theorem xCV_e : xCV (f_draftCount, f_openCount, f_operandsDue, f_faultPlace, f_listCount, f_takenCount, f_culpritName, f_memorySize, f_operandCount, f_pendingCount, f_frameCount, f_next, f_outcome, f_lastResult, f_stepCount, a_draftKind, a_draftValue, a_draftPartner, a_openBlock, a_unitKind, a_unitValue, a_unitPartner, a_unitLength, a_listedUnit, a_listedAsLibrary, a_takenUnit, a_definition, a_isDuplicate, a_isWanted, a_codeKind, a_codeValue, a_codePartner, a_functionOf, a_placeOf, a_memory, a_operands, a_pendingToken, a_pendingDue, a_locals, a_returnTo) = a_codeValue := rfl
theorem xCP_e : xCP (f_draftCount, f_openCount, f_operandsDue, f_faultPlace, f_listCount, f_takenCount, f_culpritName, f_memorySize, f_operandCount, f_pendingCount, f_frameCount, f_next, f_outcome, f_lastResult, f_stepCount, a_draftKind, a_draftValue, a_draftPartner, a_openBlock, a_unitKind, a_unitValue, a_unitPartner, a_unitLength, a_listedUnit, a_listedAsLibrary, a_takenUnit, a_definition, a_isDuplicate, a_isWanted, a_codeKind, a_codeValue, a_codePartner, a_functionOf, a_placeOf, a_memory, a_operands, a_pendingToken, a_pendingDue, a_locals, a_returnTo) = a_codePartner := rfl
theorem xFO_e : xFO (f_draftCount, f_openCount, f_operandsDue, f_faultPlace, f_listCount, f_takenCount, f_culpritName, f_memorySize, f_operandCount, f_pendingCount, f_frameCount, f_next, f_outcome, f_lastResult, f_stepCount, a_draftKind, a_draftValue, a_draftPartner, a_openBlock, a_unitKind, a_unitValue, a_unitPartner, a_unitLength, a_listedUnit, a_listedAsLibrary, a_takenUnit, a_definition, a_isDuplicate, a_isWanted, a_codeKind, a_codeValue, a_codePartner, a_functionOf, a_placeOf, a_memory, a_operands, a_pendingToken, a_pendingDue, a_locals, a_returnTo) = a_functionOf := rfl
theorem xPO_e : xPO (f_draftCount, f_openCount, f_operandsDue, f_faultPlace, f_listCount, f_takenCount, f_culpritName, f_memorySize, f_operandCount, f_pendingCount, f_frameCount, f_next, f_outcome, f_lastResult, f_stepCount, a_draftKind, a_draftValue, a_draftPartner, a_openBlock, a_unitKind, a_unitValue, a_unitPartner, a_unitLength, a_listedUnit, a_listedAsLibrary, a_takenUnit, a_definition, a_isDuplicate, a_isWanted, a_codeKind, a_codeValue, a_codePartner, a_functionOf, a_placeOf, a_memory, a_operands, a_pendingToken, a_pendingDue, a_locals, a_returnTo) = a_placeOf := rfl
end
section
variable {g_place g_culprit g_listed g_units g_taken g_used g_depth g_waiting g_held g_fault g_steps g_result g_given g_gift g_has : Int32} {b_kind b_value b_size b_list b_library b_places b_memory b_wanted b_pc b_base b_locals b_waits b_got b_values : Nat → Int32}
theorem yUN_e : yUN (g_place, g_culprit, g_listed, g_units, g_taken, g_used, g_depth, g_waiting, g_held, g_fault, g_steps, g_result, g_given, g_gift, g_has, b_kind, b_value, b_size, b_list, b_library, b_places, b_memory, b_wanted, b_pc, b_base, b_locals, b_waits, b_got, b_values) = g_units := rfl
theorem yUS_e : yUS (g_place, g_culprit, g_listed, g_units, g_taken, g_used, g_depth, g_waiting, g_held, g_fault, g_steps, g_result, g_given, g_gift, g_has, b_kind, b_value, b_size, b_list, b_library, b_places, b_memory, b_wanted, b_pc, b_base, b_locals, b_waits, b_got, b_values) = g_used := rfl
theorem yPL_e : yPL (g_place, g_culprit, g_listed, g_units, g_taken, g_used, g_depth, g_waiting, g_held, g_fault, g_steps, g_result, g_given, g_gift, g_has, b_kind, b_value, b_size, b_list, b_library, b_places, b_memory, b_wanted, b_pc, b_base, b_locals, b_waits, b_got, b_values) = b_places := rfl
theorem yK_e : yK (g_place, g_culprit, g_listed, g_units, g_taken, g_used, g_depth, g_waiting, g_held, g_fault, g_steps, g_result, g_given, g_gift, g_has, b_kind, b_value, b_size, b_list, b_library, b_places, b_memory, b_wanted, b_pc, b_base, b_locals, b_waits, b_got, b_values) = b_kind := rfl
theorem yV_e : yV (g_place, g_culprit, g_listed, g_units, g_taken, g_used, g_depth, g_waiting, g_held, g_fault, g_steps, g_result, g_given, g_gift, g_has, b_kind, b_value, b_size, b_list, b_library, b_places, b_memory, b_wanted, b_pc, b_base, b_locals, b_waits, b_got, b_values) = b_value := rfl
theorem yS_e : yS (g_place, g_culprit, g_listed, g_units, g_taken, g_used, g_depth, g_waiting, g_held, g_fault, g_steps, g_result, g_given, g_gift, g_has, b_kind, b_value, b_size, b_list, b_library, b_places, b_memory, b_wanted, b_pc, b_base, b_locals, b_waits, b_got, b_values) = b_size := rfl
end
theorem y_init {post : SY → Prop} (hp : ∀ pl : Nat → Int32, (∀ nm, nm < 12 → pl nm = -1) → post (-1, -1, 0, 0, 0, 0, 0, 0, 0, 0, 0, 0, 0, 0, 0, (fun _ => 0), (fun _ => 0), (fun _ => 0), (fun _ => 0), (fun _ => 0), pl, (fun _ => 0), (fun _ => 0), (fun _ => 0), (fun _ => 0), (fun _ => 0), (fun _ => 0), (fun _ => 0), (fun _ => 0))) : wpY_init post := by
  have key : ∀ m t (pl : Nat → Int32), t + m = 12 → (∀ nm, nm < t → pl nm = -1) → wY_init_132 post (-1) (-1) 0 0 0 0 0 0 0 0 0 0 0 0 0 (m + 1) (nI t) (fun _ => 0) (fun _ => 0) (fun _ => 0) (fun _ => 0) (fun _ => 0) pl (fun _ => 0) (fun _ => 0) (fun _ => 0) (fun _ => 0) (fun _ => 0) (fun _ => 0) (fun _ => 0) (fun _ => 0) := by
    intro m
    induction m with
    | zero =>
      intro t pl ht h
      exact br_t (nI_le (a := 12) (by omega) (by omega)) (hp pl (fun j hj => h j (by omega)))
    | succ m ih =>
      intro t pl ht h
      refine br_f (nI_ge (b := 12) (by omega) (by omega)) ⟨pk_in t 12 (by omega), nm_r (e' := upd pl t (-1)) (by rw [nI_clamp (by omega), ba_bm1]) (nm_r (nI_1 t) (ih (t + 1) _ (by omega) (fun j hj => ?_)))⟩
      by_cases z : j = t
      · rw [z, pk_us]
      · rw [pk_un z]; exact h j (by omega)
  exact ⟨13, key 12 0 (fun _ => 0) (by omega) (fun j h => absurd h (by omega))⟩
theorem kn0 (j : Nat) : kn (fun _ => 0) j = 0 := by
  show (0 : Int32).toNatClampNeg = 0
  decide
theorem i_vc0 : wpX_init (fun u => wpY_init (fun v => i_Rel 0 u v)) := by
  unfold wpX_init
  refine xl_clear (fun fo po h => ?_)
  refine y_init (fun pl hpl => ?_)
  refine i_mk ⟨⟨0, by omega, rfl, rfl, fun i _ => ⟨rfl, rfl, ?_, ?_⟩⟩, fun u _ => ⟨0, rfl, rfl, by omega, fun i hi => absurd hi (Nat.not_lt_zero _), ⟨fun _ => 0, fun _ => 0, fun _ => 0, ⟨rfl, fun p hp => absurd hp (Nat.not_lt_zero _), fun p hp => absurd hp (Nat.not_lt_zero _), fun p hp => absurd hp (Nat.not_lt_zero _)⟩, fun p hp => absurd hp (Nat.not_lt_zero _), fun p hp => absurd hp (Nat.not_lt_zero _)⟩, fun i j _ hj => absurd hj (Nat.not_lt_zero _), fun i hi => absurd hi (Nat.not_lt_zero _)⟩, ⟨0, by omega, rfl, rfl, rfl, rfl, fun i _ => ⟨0, by omega, rfl⟩, fun i j _ hj => absurd hj (Nat.not_lt_zero _)⟩, ⟨fun j _ => ⟨0, by omega, rfl⟩, fun r _ => ⟨0, by omega, rfl⟩⟩, ⟨0, 0, fun _ => 0, fun _ => 0, fun _ _ => 0, fun _ _ => 0, fun _ _ => 0, ⟨by omega, by omega, rfl, rfl, rfl, fun k hk => absurd hk (Nat.not_lt_zero _), fun nm hnm => ?_, fun nm hnm => (h nm hnm).1, fun k hk => absurd hk (Nat.not_lt_zero _)⟩, fun i hi => absurd hi (Nat.not_lt_zero _)⟩, rfl, rfl, rfl, rfl, rfl, rfl⟩
  · rw [kn0]; rfl
  · rw [kn0]; exact tk_P0
  · show po nm = pl nm
    rw [(h nm hnm).2, hpl nm hnm]
theorem i_vc_place {k : Nat} {u : SX} {v : SY} (I : i_Rel k u v) (hk : k + 5 ≤ 2560) : wpX_place (fun r => wpY_place (fun r' => r' = r ∧ i_Rel (k + 5) u v) v) u := by
  obtain ⟨f_draftCount, f_openCount, f_operandsDue, f_faultPlace, f_listCount, f_takenCount, f_culpritName, f_memorySize, f_operandCount, f_pendingCount, f_frameCount, f_next, f_outcome, f_lastResult, f_stepCount, a_draftKind, a_draftValue, a_draftPartner, a_openBlock, a_unitKind, a_unitValue, a_unitPartner, a_unitLength, a_listedUnit, a_listedAsLibrary, a_takenUnit, a_definition, a_isDuplicate, a_isWanted, a_codeKind, a_codeValue, a_codePartner, a_functionOf, a_placeOf, a_memory, a_operands, a_pendingToken, a_pendingDue, a_locals, a_returnTo⟩ := u
  obtain ⟨g_place, g_culprit, g_listed, g_units, g_taken, g_used, g_depth, g_waiting, g_held, g_fault, g_steps, g_result, g_given, g_gift, g_has, b_kind, b_value, b_size, b_list, b_library, b_places, b_memory, b_wanted, b_pc, b_base, b_locals, b_waits, b_got, b_values⟩ := v
  exact ⟨(i_el I).2.2.2.2.2.1.symm, I⟩
theorem i_vc_culprit {k : Nat} {u : SX} {v : SY} (I : i_Rel k u v) (hk : k + 5 ≤ 2560) : wpX_culprit (fun r => wpY_culprit (fun r' => r' = r ∧ i_Rel (k + 5) u v) v) u := by
  obtain ⟨f_draftCount, f_openCount, f_operandsDue, f_faultPlace, f_listCount, f_takenCount, f_culpritName, f_memorySize, f_operandCount, f_pendingCount, f_frameCount, f_next, f_outcome, f_lastResult, f_stepCount, a_draftKind, a_draftValue, a_draftPartner, a_openBlock, a_unitKind, a_unitValue, a_unitPartner, a_unitLength, a_listedUnit, a_listedAsLibrary, a_takenUnit, a_definition, a_isDuplicate, a_isWanted, a_codeKind, a_codeValue, a_codePartner, a_functionOf, a_placeOf, a_memory, a_operands, a_pendingToken, a_pendingDue, a_locals, a_returnTo⟩ := u
  obtain ⟨g_place, g_culprit, g_listed, g_units, g_taken, g_used, g_depth, g_waiting, g_held, g_fault, g_steps, g_result, g_given, g_gift, g_has, b_kind, b_value, b_size, b_list, b_library, b_places, b_memory, b_wanted, b_pc, b_base, b_locals, b_waits, b_got, b_values⟩ := v
  exact ⟨(i_el I).2.2.2.2.2.2.1.symm, I⟩
theorem i_vc_result {k : Nat} {u : SX} {v : SY} (I : i_Rel k u v) (hk : k + 5 ≤ 2560) : wpX_result (fun r => wpY_result (fun r' => r' = r ∧ i_Rel (k + 5) u v) v) u := by
  obtain ⟨f_draftCount, f_openCount, f_operandsDue, f_faultPlace, f_listCount, f_takenCount, f_culpritName, f_memorySize, f_operandCount, f_pendingCount, f_frameCount, f_next, f_outcome, f_lastResult, f_stepCount, a_draftKind, a_draftValue, a_draftPartner, a_openBlock, a_unitKind, a_unitValue, a_unitPartner, a_unitLength, a_listedUnit, a_listedAsLibrary, a_takenUnit, a_definition, a_isDuplicate, a_isWanted, a_codeKind, a_codeValue, a_codePartner, a_functionOf, a_placeOf, a_memory, a_operands, a_pendingToken, a_pendingDue, a_locals, a_returnTo⟩ := u
  obtain ⟨g_place, g_culprit, g_listed, g_units, g_taken, g_used, g_depth, g_waiting, g_held, g_fault, g_steps, g_result, g_given, g_gift, g_has, b_kind, b_value, b_size, b_list, b_library, b_places, b_memory, b_wanted, b_pc, b_base, b_locals, b_waits, b_got, b_values⟩ := v
  exact ⟨(i_el I).2.2.2.2.2.2.2.1.symm, I⟩
theorem i_vc_steps {k : Nat} {u : SX} {v : SY} (I : i_Rel k u v) (hk : k + 5 ≤ 2560) : wpX_steps (fun r => wpY_steps (fun r' => r' = r ∧ i_Rel (k + 5) u v) v) u := by
  obtain ⟨f_draftCount, f_openCount, f_operandsDue, f_faultPlace, f_listCount, f_takenCount, f_culpritName, f_memorySize, f_operandCount, f_pendingCount, f_frameCount, f_next, f_outcome, f_lastResult, f_stepCount, a_draftKind, a_draftValue, a_draftPartner, a_openBlock, a_unitKind, a_unitValue, a_unitPartner, a_unitLength, a_listedUnit, a_listedAsLibrary, a_takenUnit, a_definition, a_isDuplicate, a_isWanted, a_codeKind, a_codeValue, a_codePartner, a_functionOf, a_placeOf, a_memory, a_operands, a_pendingToken, a_pendingDue, a_locals, a_returnTo⟩ := u
  obtain ⟨g_place, g_culprit, g_listed, g_units, g_taken, g_used, g_depth, g_waiting, g_held, g_fault, g_steps, g_result, g_given, g_gift, g_has, b_kind, b_value, b_size, b_list, b_library, b_places, b_memory, b_wanted, b_pc, b_base, b_locals, b_waits, b_got, b_values⟩ := v
  exact ⟨(i_el I).2.2.2.2.2.2.2.2.1.symm, I⟩
theorem i_vc_size {k : Nat} {u : SX} {v : SY} (I : i_Rel k u v) (hk : k + 5 ≤ 2560) : wpX_size (fun r => wpY_size (fun r' => r' = r ∧ i_Rel (k + 5) u v) v) u := by
  obtain ⟨f_draftCount, f_openCount, f_operandsDue, f_faultPlace, f_listCount, f_takenCount, f_culpritName, f_memorySize, f_operandCount, f_pendingCount, f_frameCount, f_next, f_outcome, f_lastResult, f_stepCount, a_draftKind, a_draftValue, a_draftPartner, a_openBlock, a_unitKind, a_unitValue, a_unitPartner, a_unitLength, a_listedUnit, a_listedAsLibrary, a_takenUnit, a_definition, a_isDuplicate, a_isWanted, a_codeKind, a_codeValue, a_codePartner, a_functionOf, a_placeOf, a_memory, a_operands, a_pendingToken, a_pendingDue, a_locals, a_returnTo⟩ := u
  obtain ⟨g_place, g_culprit, g_listed, g_units, g_taken, g_used, g_depth, g_waiting, g_held, g_fault, g_steps, g_result, g_given, g_gift, g_has, b_kind, b_value, b_size, b_list, b_library, b_places, b_memory, b_wanted, b_pc, b_base, b_locals, b_waits, b_got, b_values⟩ := v
  refine ⟨?_, I⟩
  obtain ⟨_, _, _, _, ⟨n, m, tk, ln, D, B, pr, ⟨_, _, _, h4, h5, _⟩, _⟩, _⟩ := i_el I
  exact h4.trans h5.symm
section
variable {f_draftCount f_openCount f_operandsDue f_faultPlace f_listCount f_takenCount f_culpritName f_memorySize f_operandCount f_pendingCount f_frameCount f_next f_outcome f_lastResult f_stepCount : Int32} {a_draftKind a_draftValue a_draftPartner a_openBlock a_unitKind a_unitValue a_unitPartner a_unitLength a_listedUnit a_listedAsLibrary a_takenUnit a_definition a_isDuplicate a_isWanted a_codeKind a_codeValue a_codePartner a_functionOf a_placeOf a_memory a_operands a_pendingToken a_pendingDue a_locals a_returnTo : Nat → Int32}
theorem x_name {post : Int32 → Prop} {v : Int32} (h1 : ∀ q, q < 12 → v = nI q → post 1) (h0 : (v < 0 ∨ nI 12 ≤ v) → post 0) : wpX_isName post v := by
  rcases pk_ix v (n := 12) (by omega) with z | z | ⟨q, hq, e⟩
  · exact br_t z (h0 (Or.inl z))
  · exact br_c (fun _ => h0 (Or.inr z)) (fun _ => br_t z (h0 (Or.inr z)))
  · subst e
    exact br_f (nI_pos (by omega)) (br_f (nI_ge (b := 12) hq (by omega)) (h1 q hq rfl))
theorem x_at {post : Int32 → Prop} {v : Int32} (h1 : ∀ q, q < 12 → v = nI q → post (a_placeOf q)) (h0 : (v < 0 ∨ nI 12 ≤ v) → post (-1)) : wpX_at post (f_draftCount, f_openCount, f_operandsDue, f_faultPlace, f_listCount, f_takenCount, f_culpritName, f_memorySize, f_operandCount, f_pendingCount, f_frameCount, f_next, f_outcome, f_lastResult, f_stepCount, a_draftKind, a_draftValue, a_draftPartner, a_openBlock, a_unitKind, a_unitValue, a_unitPartner, a_unitLength, a_listedUnit, a_listedAsLibrary, a_takenUnit, a_definition, a_isDuplicate, a_isWanted, a_codeKind, a_codeValue, a_codePartner, a_functionOf, a_placeOf, a_memory, a_operands, a_pendingToken, a_pendingDue, a_locals, a_returnTo) v := by
  unfold wpX_at
  refine x_name (fun q hq e => br_f (by decide) ⟨pk_in q 12 hq e, ?_⟩) (fun z => br_t rfl (h0 z))
  rw [ba_cl e (by omega)]
  exact h1 q hq e
theorem x_used {post : Int32 → Prop} {v : Int32} {m : Nat} (hm : m ≤ 48) (h1 : ∀ q, q < m → v = nI q → post 1) (h0 : (v < 0 ∨ nI m ≤ v) → post 0) : wpX_isInUse post (f_draftCount, f_openCount, f_operandsDue, f_faultPlace, f_listCount, f_takenCount, f_culpritName, nI m, f_operandCount, f_pendingCount, f_frameCount, f_next, f_outcome, f_lastResult, f_stepCount, a_draftKind, a_draftValue, a_draftPartner, a_openBlock, a_unitKind, a_unitValue, a_unitPartner, a_unitLength, a_listedUnit, a_listedAsLibrary, a_takenUnit, a_definition, a_isDuplicate, a_isWanted, a_codeKind, a_codeValue, a_codePartner, a_functionOf, a_placeOf, a_memory, a_operands, a_pendingToken, a_pendingDue, a_locals, a_returnTo) v := by
  rcases pk_ix v (n := m) (by omega) with z | z | ⟨q, hq, e⟩
  · exact br_t z (h0 (Or.inl z))
  · exact br_c (fun _ => h0 (Or.inr z)) (fun _ => br_t z (h0 (Or.inr z)))
  · subst e
    exact br_f (nI_pos (by omega)) (br_f (nI_ge hq (by omega)) (h1 q hq rfl))
theorem x_peek {post : Int32 → Prop} {v : Int32} {m : Nat} (hm : m ≤ 48) (h1 : ∀ q, q < m → v = nI q → post (a_memory q)) (h0 : (v < 0 ∨ nI m ≤ v) → post 0) : wpX_peek post (f_draftCount, f_openCount, f_operandsDue, f_faultPlace, f_listCount, f_takenCount, f_culpritName, nI m, f_operandCount, f_pendingCount, f_frameCount, f_next, f_outcome, f_lastResult, f_stepCount, a_draftKind, a_draftValue, a_draftPartner, a_openBlock, a_unitKind, a_unitValue, a_unitPartner, a_unitLength, a_listedUnit, a_listedAsLibrary, a_takenUnit, a_definition, a_isDuplicate, a_isWanted, a_codeKind, a_codeValue, a_codePartner, a_functionOf, a_placeOf, a_memory, a_operands, a_pendingToken, a_pendingDue, a_locals, a_returnTo) v := by
  unfold wpX_peek
  refine x_used hm (fun q hq e => br_f (by decide) ⟨pk_in q 48 (by omega) e, ?_⟩) (fun z => br_t rfl (h0 z))
  rw [ba_cl e (by omega)]
  exact h1 q hq e
theorem x_poke {post : Int32 → SX → Prop} {v w : Int32} {m : Nat} (hm : m ≤ 48) (h1 : ∀ q, q < m → v = nI q → post 1 (f_draftCount, f_openCount, f_operandsDue, f_faultPlace, f_listCount, f_takenCount, f_culpritName, nI m, f_operandCount, f_pendingCount, f_frameCount, f_next, f_outcome, f_lastResult, f_stepCount, a_draftKind, a_draftValue, a_draftPartner, a_openBlock, a_unitKind, a_unitValue, a_unitPartner, a_unitLength, a_listedUnit, a_listedAsLibrary, a_takenUnit, a_definition, a_isDuplicate, a_isWanted, a_codeKind, a_codeValue, a_codePartner, a_functionOf, a_placeOf, upd a_memory q w, a_operands, a_pendingToken, a_pendingDue, a_locals, a_returnTo)) (h0 : (v < 0 ∨ nI m ≤ v) → post 0 (f_draftCount, f_openCount, f_operandsDue, f_faultPlace, f_listCount, f_takenCount, f_culpritName, nI m, f_operandCount, f_pendingCount, f_frameCount, f_next, f_outcome, f_lastResult, f_stepCount, a_draftKind, a_draftValue, a_draftPartner, a_openBlock, a_unitKind, a_unitValue, a_unitPartner, a_unitLength, a_listedUnit, a_listedAsLibrary, a_takenUnit, a_definition, a_isDuplicate, a_isWanted, a_codeKind, a_codeValue, a_codePartner, a_functionOf, a_placeOf, a_memory, a_operands, a_pendingToken, a_pendingDue, a_locals, a_returnTo)) : wpX_poke post (f_draftCount, f_openCount, f_operandsDue, f_faultPlace, f_listCount, f_takenCount, f_culpritName, nI m, f_operandCount, f_pendingCount, f_frameCount, f_next, f_outcome, f_lastResult, f_stepCount, a_draftKind, a_draftValue, a_draftPartner, a_openBlock, a_unitKind, a_unitValue, a_unitPartner, a_unitLength, a_listedUnit, a_listedAsLibrary, a_takenUnit, a_definition, a_isDuplicate, a_isWanted, a_codeKind, a_codeValue, a_codePartner, a_functionOf, a_placeOf, a_memory, a_operands, a_pendingToken, a_pendingDue, a_locals, a_returnTo) v w := by
  unfold wpX_poke
  refine x_used hm (fun q hq e => br_f (by decide) ⟨pk_in q 48 (by omega) e, nm_r (e' := upd a_memory q w) (by rw [ba_cl e (by omega)]) (h1 q hq e)⟩) (fun z => br_t rfl (h0 z))
end
section
variable {g_place g_culprit g_listed g_units g_taken g_used g_depth g_waiting g_held g_fault g_steps g_result g_given g_gift g_has : Int32} {b_kind b_value b_size b_list b_library b_places b_memory b_wanted b_pc b_base b_locals b_waits b_got b_values : Nat → Int32}
theorem y_outs {post : Int32 → Prop} {v : Int32} {m : Nat} (hm : m < 2 ^ 31) (h1 : ∀ q, q < m → v = nI q → post 0) (h0 : (v < 0 ∨ nI m ≤ v) → post 1) : wpY_out post v (nI m) := by
  rcases pk_ix v (n := m) hm with z | z | ⟨q, hq, e⟩
  · exact yu_out1 (Or.inl z) (h0 (Or.inl z))
  · exact yu_out1 (Or.inr z) (h0 (Or.inr z))
  · subst e
    exact yu_out hq hm (h1 q hq rfl)
theorem y_at {post : Int32 → Prop} {v : Int32} (h1 : ∀ q, q < 12 → v = nI q → post (b_places q)) (h0 : (v < 0 ∨ nI 12 ≤ v) → post (-1)) : wpY_at post (g_place, g_culprit, g_listed, g_units, g_taken, g_used, g_depth, g_waiting, g_held, g_fault, g_steps, g_result, g_given, g_gift, g_has, b_kind, b_value, b_size, b_list, b_library, b_places, b_memory, b_wanted, b_pc, b_base, b_locals, b_waits, b_got, b_values) v := by
  unfold wpY_at
  refine y_outs (m := 12) (by omega) (fun q hq e => br_t rfl ⟨pk_in q 12 hq e, ?_⟩) (fun z => br_f (by decide) (h0 z))
  rw [ba_cl e (by omega)]
  exact h1 q hq e
theorem y_peek {post : Int32 → Prop} {v : Int32} {m : Nat} (hm : m ≤ 48) (h1 : ∀ q, q < m → v = nI q → post (b_memory q)) (h0 : (v < 0 ∨ nI m ≤ v) → post 0) : wpY_peek post (g_place, g_culprit, g_listed, g_units, g_taken, nI m, g_depth, g_waiting, g_held, g_fault, g_steps, g_result, g_given, g_gift, g_has, b_kind, b_value, b_size, b_list, b_library, b_places, b_memory, b_wanted, b_pc, b_base, b_locals, b_waits, b_got, b_values) v := by
  unfold wpY_peek
  refine y_outs (m := m) (by omega) (fun q hq e => br_t rfl ⟨pk_in q 48 (by omega) e, ?_⟩) (fun z => br_f (by decide) (h0 z))
  rw [ba_cl e (by omega)]
  exact h1 q hq e
theorem y_poke {post : Int32 → SY → Prop} {v w : Int32} {m : Nat} (hm : m ≤ 48) (h1 : ∀ q, q < m → v = nI q → post 1 (g_place, g_culprit, g_listed, g_units, g_taken, nI m, g_depth, g_waiting, g_held, g_fault, g_steps, g_result, g_given, g_gift, g_has, b_kind, b_value, b_size, b_list, b_library, b_places, upd b_memory q w, b_wanted, b_pc, b_base, b_locals, b_waits, b_got, b_values)) (h0 : (v < 0 ∨ nI m ≤ v) → post 0 (g_place, g_culprit, g_listed, g_units, g_taken, nI m, g_depth, g_waiting, g_held, g_fault, g_steps, g_result, g_given, g_gift, g_has, b_kind, b_value, b_size, b_list, b_library, b_places, b_memory, b_wanted, b_pc, b_base, b_locals, b_waits, b_got, b_values)) : wpY_poke post (g_place, g_culprit, g_listed, g_units, g_taken, nI m, g_depth, g_waiting, g_held, g_fault, g_steps, g_result, g_given, g_gift, g_has, b_kind, b_value, b_size, b_list, b_library, b_places, b_memory, b_wanted, b_pc, b_base, b_locals, b_waits, b_got, b_values) v w := by
  unfold wpY_poke
  exact y_outs (m := m) (by omega) (fun q hq e => br_t rfl ⟨pk_in q 48 (by omega) e, nm_r (e' := upd b_memory q w) (by rw [ba_cl e (by omega)]) (h1 q hq e)⟩) (fun z => br_f (by decide) (h0 z))
end
theorem ix_no {v : Int32} {m q : Nat} (hm : m < 2 ^ 31) (hq : q < m) (e : v = nI q) (z : v < 0 ∨ nI m ≤ v) : False := by
  rw [e] at z
  rcases z with z | z
  · exact nI_pos (by omega) z
  · exact nI_ge hq hm z
theorem i_vc_at {k : Nat} {u : SX} {v : SY} (I : i_Rel k u v) (hk : k + 5 ≤ 2560) (v1 : Int32) : wpX_at (fun r => wpY_at (fun r' => r' = r ∧ i_Rel (k + 5) u v) v v1) u v1 := by
  obtain ⟨f_draftCount, f_openCount, f_operandsDue, f_faultPlace, f_listCount, f_takenCount, f_culpritName, f_memorySize, f_operandCount, f_pendingCount, f_frameCount, f_next, f_outcome, f_lastResult, f_stepCount, a_draftKind, a_draftValue, a_draftPartner, a_openBlock, a_unitKind, a_unitValue, a_unitPartner, a_unitLength, a_listedUnit, a_listedAsLibrary, a_takenUnit, a_definition, a_isDuplicate, a_isWanted, a_codeKind, a_codeValue, a_codePartner, a_functionOf, a_placeOf, a_memory, a_operands, a_pendingToken, a_pendingDue, a_locals, a_returnTo⟩ := u
  obtain ⟨g_place, g_culprit, g_listed, g_units, g_taken, g_used, g_depth, g_waiting, g_held, g_fault, g_steps, g_result, g_given, g_gift, g_has, b_kind, b_value, b_size, b_list, b_library, b_places, b_memory, b_wanted, b_pc, b_base, b_locals, b_waits, b_got, b_values⟩ := v
  have I' := i_el I
  obtain ⟨_, _, _, _, ⟨n, m, tk, ln, D, B, pr, ⟨_, _, _, _, _, _, h7, _⟩, _⟩, _⟩ := I'
  refine x_at (fun q hq e => y_at (fun q' hq' e' => ⟨?_, I⟩) (fun z => absurd (ix_no (by omega) hq e z) id)) (fun z => y_at (fun q hq e => absurd (ix_no (by omega) hq e z) id) (fun _ => ⟨rfl, I⟩))
  have := ba_inj (by omega) (by omega) (e.symm.trans e')
  subst this
  exact (h7 q hq).symm
theorem i_vc_peek {k : Nat} {u : SX} {v : SY} (I : i_Rel k u v) (hk : k + 5 ≤ 2560) (v1 : Int32) : wpX_peek (fun r => wpY_peek (fun r' => r' = r ∧ i_Rel (k + 5) u v) v v1) u v1 := by
  obtain ⟨f_draftCount, f_openCount, f_operandsDue, f_faultPlace, f_listCount, f_takenCount, f_culpritName, f_memorySize, f_operandCount, f_pendingCount, f_frameCount, f_next, f_outcome, f_lastResult, f_stepCount, a_draftKind, a_draftValue, a_draftPartner, a_openBlock, a_unitKind, a_unitValue, a_unitPartner, a_unitLength, a_listedUnit, a_listedAsLibrary, a_takenUnit, a_definition, a_isDuplicate, a_isWanted, a_codeKind, a_codeValue, a_codePartner, a_functionOf, a_placeOf, a_memory, a_operands, a_pendingToken, a_pendingDue, a_locals, a_returnTo⟩ := u
  obtain ⟨g_place, g_culprit, g_listed, g_units, g_taken, g_used, g_depth, g_waiting, g_held, g_fault, g_steps, g_result, g_given, g_gift, g_has, b_kind, b_value, b_size, b_list, b_library, b_places, b_memory, b_wanted, b_pc, b_base, b_locals, b_waits, b_got, b_values⟩ := v
  have I' := i_el I
  obtain ⟨_, _, _, _, ⟨n, m, tk, ln, D, B, pr, ⟨_, h2, _, h4, h5, _⟩, hm⟩, _⟩ := I'
  have h4' : g_used = nI m := h4
  have h5' : f_memorySize = nI m := h5
  subst h4' h5'
  refine x_peek h2 (fun q hq e => y_peek h2 (fun q' hq' e' => ⟨?_, I⟩) (fun z => absurd (ix_no (by omega) hq e z) id)) (fun z => y_peek h2 (fun q hq e => absurd (ix_no (by omega) hq e z) id) (fun _ => ⟨rfl, I⟩))
  have := ba_inj (by omega) (by omega) (e.symm.trans e')
  subst this
  exact (hm q hq).symm
theorem i_vc_poke {k : Nat} {u : SX} {v : SY} (I : i_Rel k u v) (hk : k + 5 ≤ 2560) (v1 : Int32) (v2 : Int32) : wpX_poke (fun r u' => wpY_poke (fun r' v' => r' = r ∧ i_Rel (k + 5) u' v') v v1 v2) u v1 v2 := by
  obtain ⟨f_draftCount, f_openCount, f_operandsDue, f_faultPlace, f_listCount, f_takenCount, f_culpritName, f_memorySize, f_operandCount, f_pendingCount, f_frameCount, f_next, f_outcome, f_lastResult, f_stepCount, a_draftKind, a_draftValue, a_draftPartner, a_openBlock, a_unitKind, a_unitValue, a_unitPartner, a_unitLength, a_listedUnit, a_listedAsLibrary, a_takenUnit, a_definition, a_isDuplicate, a_isWanted, a_codeKind, a_codeValue, a_codePartner, a_functionOf, a_placeOf, a_memory, a_operands, a_pendingToken, a_pendingDue, a_locals, a_returnTo⟩ := u
  obtain ⟨g_place, g_culprit, g_listed, g_units, g_taken, g_used, g_depth, g_waiting, g_held, g_fault, g_steps, g_result, g_given, g_gift, g_has, b_kind, b_value, b_size, b_list, b_library, b_places, b_memory, b_wanted, b_pc, b_base, b_locals, b_waits, b_got, b_values⟩ := v
  have I' := i_el I
  obtain ⟨i1, i2, i3, i4, ⟨n, m, tk, ln, D, B, pr, hR, hm⟩, i6⟩ := I'
  have hR' := hR
  obtain ⟨_, h2, _, h4, h5, _⟩ := hR'
  have h4' : g_used = nI m := h4
  have h5' : f_memorySize = nI m := h5
  subst h4' h5'
  refine x_poke h2 (fun q hq e => y_poke h2 (fun q' hq' e' => ?_) (fun z => absurd (ix_no (by omega) hq e z) id)) (fun z => y_poke h2 (fun q hq e => absurd (ix_no (by omega) hq e z) id) (fun _ => ⟨rfl, I⟩))
  have := ba_inj (by omega) (by omega) (e.symm.trans e')
  subst this
  refine ⟨rfl, i_mk ⟨i1, i2, i3, i4, ⟨n, m, tk, ln, D, B, pr, pR_ext (xMS_e.trans xMS_e.symm) (xCK_e.trans xCK_e.symm) (xCV_e.trans xCV_e.symm) (xCP_e.trans xCP_e.symm) (xFO_e.trans xFO_e.symm) (xPO_e.trans xPO_e.symm) (yUN_e.trans yUN_e.symm) (yUS_e.trans yUS_e.symm) (yPL_e.trans yPL_e.symm) (fun j _ => ⟨congrFun (yK_e.trans yK_e.symm) j, congrFun (yV_e.trans yV_e.symm) j⟩) (fun j _ => congrFun (yS_e.trans yS_e.symm) j) hR, fun i hi => ?_⟩, i6⟩⟩
  by_cases z : i = q
  · rw [z, pk_us, pk_us]
  · rw [pk_un z, pk_un z]; exact hm i hi
