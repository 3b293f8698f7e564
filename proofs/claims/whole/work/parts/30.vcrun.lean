/-! parameters and run: the owed rows -/
def poX (post : Int32 → SX → Prop) (u : SX) : Prop := match u with
  | (f_draftCount, f_openCount, f_operandsDue, f_faultPlace, f_listCount, f_takenCount, f_culpritName, f_memorySize, f_operandCount, f_pendingCount, f_frameCount, f_next, f_outcome, f_lastResult, f_stepCount, a_draftKind, a_draftValue, a_draftPartner, a_openBlock, a_unitKind, a_unitValue, a_unitPartner, a_unitLength, a_listedUnit, a_listedAsLibrary, a_takenUnit, a_definition, a_isDuplicate, a_isWanted, a_codeKind, a_codeValue, a_codePartner, a_functionOf, a_placeOf, a_memory, a_operands, a_pendingToken, a_pendingDue, a_locals, a_returnTo) => post f_outcome (f_draftCount, f_openCount, f_operandsDue, f_faultPlace, f_listCount, f_takenCount, f_culpritName, f_memorySize, f_operandCount, f_pendingCount, f_frameCount, f_next, f_outcome, f_lastResult, f_stepCount, a_draftKind, a_draftValue, a_draftPartner, a_openBlock, a_unitKind, a_unitValue, a_unitPartner, a_unitLength, a_listedUnit, a_listedAsLibrary, a_takenUnit, a_definition, a_isDuplicate, a_isWanted, a_codeKind, a_codeValue, a_codePartner, a_functionOf, a_placeOf, a_memory, a_operands, a_pendingToken, a_pendingDue, a_locals, a_returnTo)
def bgY (post : Int32 → SY → Prop) (u : SY) : Prop := match u with
  | (g_place, g_culprit, g_listed, g_units, g_taken, g_used, g_depth, g_waiting, g_held, g_fault, g_steps, g_result, g_given, g_gift, g_has, b_kind, b_value, b_size, b_list, b_library, b_places, b_memory, b_wanted, b_pc, b_base, b_locals, b_waits, b_got, b_values) => ∃ n79 : Nat, wY_run_79 post n79 g_place g_culprit g_listed g_units g_taken g_used g_depth g_waiting g_held g_fault g_steps g_result g_given g_gift 0 b_kind b_value b_size b_list b_library b_places b_memory b_wanted b_pc b_base b_locals b_waits b_got b_values
/-- a name that is a function -/
def fnm (Z : SY) (n : Nat) (ln : Nat → Nat) (nm d : Nat) : Prop := lk_b (pK Z) (pV Z) ln nm n = some d ∧ pK Z (d / 50) (d % 50) = 28
section
variable {E : SX} {Z : SY} {n m : Nat} {tk ln : Nat → Nat} {D B pr : Nat → Nat → Nat}
theorem fn_in (hR : pR E Z n m tk ln D B pr) {nm d : Nat} (h : fnm Z n ln nm d) : d / 50 < n ∧ d % 50 < ln (d / 50) ∧ tk (d / 50) < 5 ∧ ln (d / 50) ≤ 50 ∧ yV Z (550 + d) = nI (pV Z (d / 50) (d % 50)) ∧ yK Z (550 + d) = 28 ∧ xCV E (50 * tk (d / 50) + d % 50) = nI (pV Z (d / 50) (d % 50)) ∧ pV Z (d / 50) (d % 50) < 256 := by
  have hd := lk_b_in (fun k hk => (pR_rows hR k hk).1) h.1
  obtain ⟨a, b, _, c, _⟩ := hR.2.2.2.2.2.1 _ hd.1
  obtain ⟨_, c2, c3, c4⟩ := c _ hd.2.1
  obtain ⟨v1, v2, v3⟩ := tw_V c4 (Or.inl h.2)
  have e : 550 + 50 * (d / 50) + d % 50 = 550 + d := by omega
  rw [e] at c2 c3 v1
  rw [h.2] at c2
  have ev : (yV Z (550 + d)).toNatClampNeg = pV Z (d / 50) (d % 50) := by
    show _ = (yV Z _).toNatClampNeg
    rw [e]
  rw [e, ev] at v2
  rw [ev] at v1
  exact ⟨hd.1, hd.2.1, a, b, v1, c2, c3.trans v1, v2⟩
theorem fn_fo (hR : pR E Z n m tk ln D B pr) {nm d : Nat} (hnm : nm < 12) (h : fnm Z n ln nm d) : xFO E nm = nI (50 * tk (d / 50) + d % 50) := by
  have hd := lk_b_in (fun k hk => (pR_rows hR k hk).1) h.1
  rw [hR.2.2.2.2.2.2.2.1 nm hnm]
  unfold lk_q
  rw [h.1]
  exact if_pos ⟨h.2, by have := hd.1; omega⟩
theorem fn_no (hR : pR E Z n m tk ln D B pr) {nm : Nat} (hnm : nm < 12) (h : ¬ ∃ d, fnm Z n ln nm d) : xFO E nm = -1 := by
  rw [hR.2.2.2.2.2.2.2.1 nm hnm]
  unfold lk_q
  cases e : lk_b (pK Z) (pV Z) ln nm n with
  | none => rfl
  | some d => exact if_neg (fun q => h ⟨d, e, q.1⟩)
end
section
variable {f_draftCount f_openCount f_operandsDue f_faultPlace f_listCount f_takenCount f_culpritName f_memorySize f_operandCount f_pendingCount f_frameCount f_next f_outcome f_lastResult f_stepCount : Int32} {a_draftKind a_draftValue a_draftPartner a_openBlock a_unitKind a_unitValue a_unitPartner a_unitLength a_listedUnit a_listedAsLibrary a_takenUnit a_definition a_isDuplicate a_isWanted a_codeKind a_codeValue a_codePartner a_functionOf a_placeOf a_memory a_operands a_pendingToken a_pendingDue a_locals a_returnTo : Nat → Int32}
variable {Z : SY} {n m : Nat} {tk ln : Nat → Nat} {D B pr : Nat → Nat → Nat}
theorem x_par {post : Int32 → Prop} {v : Int32} (hR : pR (f_draftCount, f_openCount, f_operandsDue, f_faultPlace, f_listCount, f_takenCount, f_culpritName, f_memorySize, f_operandCount, f_pendingCount, f_frameCount, f_next, f_outcome, f_lastResult, f_stepCount, a_draftKind, a_draftValue, a_draftPartner, a_openBlock, a_unitKind, a_unitValue, a_unitPartner, a_unitLength, a_listedUnit, a_listedAsLibrary, a_takenUnit, a_definition, a_isDuplicate, a_isWanted, a_codeKind, a_codeValue, a_codePartner, a_functionOf, a_placeOf, a_memory, a_operands, a_pendingToken, a_pendingDue, a_locals, a_returnTo) Z n m tk ln D B pr) (h1 : ∀ nm d, nm < 12 → v = nI nm → fnm Z n ln nm d → post (nI (pV Z (d / 50) (d % 50) / 16 % 4))) (h2 : ∀ nm, nm < 12 → v = nI nm → (¬ ∃ d, fnm Z n ln nm d) → post (-1)) (h0 : (v < 0 ∨ nI 12 ≤ v) → post (-1)) : wpX_parameters post (f_draftCount, f_openCount, f_operandsDue, f_faultPlace, f_listCount, f_takenCount, f_culpritName, f_memorySize, f_operandCount, f_pendingCount, f_frameCount, f_next, f_outcome, f_lastResult, f_stepCount, a_draftKind, a_draftValue, a_draftPartner, a_openBlock, a_unitKind, a_unitValue, a_unitPartner, a_unitLength, a_listedUnit, a_listedAsLibrary, a_takenUnit, a_definition, a_isDuplicate, a_isWanted, a_codeKind, a_codeValue, a_codePartner, a_functionOf, a_placeOf, a_memory, a_operands, a_pendingToken, a_pendingDue, a_locals, a_returnTo) v := by
  unfold wpX_parameters
  refine x_name (fun nm hnm e => br_f (by decide) ⟨pk_in nm 12 hnm e, ?_⟩) (fun z => br_t rfl (h0 z))
  rw [ba_cl e (by omega)]
  by_cases hd : ∃ d, fnm Z n ln nm d
  · obtain ⟨d, hd⟩ := hd
    obtain ⟨b1, b2, b3, b4, b5, b6, b7, b8⟩ := fn_in hR hd
    have hfo := fn_fo hR hnm hd
    rw [xFO_e] at hfo
    rw [xCV_e] at b7
    rw [hfo]
    refine br_f (ba_m1 (by omega)) ⟨pk_in nm 12 hnm e, pk_in (50 * tk (d / 50) + d % 50) 250 (by omega), ?_⟩
    rw [nI_clamp (show 50 * tk (d / 50) + d % 50 < 2 ^ 31 by omega)]
    refine x_cnt (a := pV Z (d / 50) (d % 50) / 16 % 4) (by rw [b7, ba_cnt (by omega)]) (h1 nm d hnm e hd)
  · have hfo := fn_no hR hnm hd
    rw [xFO_e] at hfo
    exact br_t hfo (h2 nm hnm e hd)
theorem x_run {post : Int32 → SX → Prop} {v1 v2 v3 v4 : Int32} (hR : pR (f_draftCount, f_openCount, f_operandsDue, f_faultPlace, f_listCount, f_takenCount, f_culpritName, f_memorySize, f_operandCount, f_pendingCount, f_frameCount, f_next, f_outcome, f_lastResult, f_stepCount, a_draftKind, a_draftValue, a_draftPartner, a_openBlock, a_unitKind, a_unitValue, a_unitPartner, a_unitLength, a_listedUnit, a_listedAsLibrary, a_takenUnit, a_definition, a_isDuplicate, a_isWanted, a_codeKind, a_codeValue, a_codePartner, a_functionOf, a_placeOf, a_memory, a_operands, a_pendingToken, a_pendingDue, a_locals, a_returnTo) Z n m tk ln D B pr) (h1 : ∀ nm d, nm < 12 → v1 = nI nm → fnm Z n ln nm d → ∃ f, wkX (poX post) f (nI 0) (mX (f_draftCount, f_openCount, f_operandsDue, f_faultPlace, f_listCount, f_takenCount, f_culpritName, f_memorySize, f_operandCount, f_pendingCount, f_frameCount, f_next, f_outcome, f_lastResult, f_stepCount, a_draftKind, a_draftValue, a_draftPartner, a_openBlock, a_unitKind, a_unitValue, a_unitPartner, a_unitLength, a_listedUnit, a_listedAsLibrary, a_takenUnit, a_definition, a_isDuplicate, a_isWanted, a_codeKind, a_codeValue, a_codePartner, a_functionOf, a_placeOf, a_memory, a_operands, a_pendingToken, a_pendingDue, a_locals, a_returnTo) (nI 0) (nI 0) (nI 1) (nI (50 * tk (d / 50) + d % 50 + 1)) (-2) 0 (nI 1) a_memory (upd (upd (upd a_operands 0 v2) 1 v3) 2 v4) a_pendingToken a_pendingDue (mlo a_locals (upd (upd (upd a_operands 0 v2) 1 v3) 2 v4) 0 0 (pV Z (d / 50) (d % 50) / 16 % 4)) (upd a_returnTo 0 (nI 0)))) (h2 : ∀ nm, nm < 12 → v1 = nI nm → (¬ ∃ d, fnm Z n ln nm d) → post (-1) (f_draftCount, f_openCount, f_operandsDue, f_faultPlace, f_listCount, f_takenCount, f_culpritName, f_memorySize, f_operandCount, f_pendingCount, f_frameCount, f_next, f_outcome, 0, f_stepCount, a_draftKind, a_draftValue, a_draftPartner, a_openBlock, a_unitKind, a_unitValue, a_unitPartner, a_unitLength, a_listedUnit, a_listedAsLibrary, a_takenUnit, a_definition, a_isDuplicate, a_isWanted, a_codeKind, a_codeValue, a_codePartner, a_functionOf, a_placeOf, a_memory, a_operands, a_pendingToken, a_pendingDue, a_locals, a_returnTo)) (h0 : (v1 < 0 ∨ nI 12 ≤ v1) → post (-1) (f_draftCount, f_openCount, f_operandsDue, f_faultPlace, f_listCount, f_takenCount, f_culpritName, f_memorySize, f_operandCount, f_pendingCount, f_frameCount, f_next, f_outcome, 0, f_stepCount, a_draftKind, a_draftValue, a_draftPartner, a_openBlock, a_unitKind, a_unitValue, a_unitPartner, a_unitLength, a_listedUnit, a_listedAsLibrary, a_takenUnit, a_definition, a_isDuplicate, a_isWanted, a_codeKind, a_codeValue, a_codePartner, a_functionOf, a_placeOf, a_memory, a_operands, a_pendingToken, a_pendingDue, a_locals, a_returnTo)) : wpX_run post (f_draftCount, f_openCount, f_operandsDue, f_faultPlace, f_listCount, f_takenCount, f_culpritName, f_memorySize, f_operandCount, f_pendingCount, f_frameCount, f_next, f_outcome, f_lastResult, f_stepCount, a_draftKind, a_draftValue, a_draftPartner, a_openBlock, a_unitKind, a_unitValue, a_unitPartner, a_unitLength, a_listedUnit, a_listedAsLibrary, a_takenUnit, a_definition, a_isDuplicate, a_isWanted, a_codeKind, a_codeValue, a_codePartner, a_functionOf, a_placeOf, a_memory, a_operands, a_pendingToken, a_pendingDue, a_locals, a_returnTo) v1 v2 v3 v4 := by
  unfold wpX_run
  refine x_name (fun nm hnm e => br_f (by decide) ⟨pk_in nm 12 hnm e, ?_⟩) (fun z => br_t rfl (h0 z))
  rw [ba_cl e (by omega)]
  by_cases hd : ∃ d, fnm Z n ln nm d
  · obtain ⟨d, hd⟩ := hd
    obtain ⟨b1, b2, b3, b4, b5, b6, b7, b8⟩ := fn_in hR hd
    have hfo := fn_fo hR hnm hd
    have hfo' := hfo
    have b7' := b7
    rw [xFO_e] at hfo'
    rw [xCV_e] at b7'
    rw [hfo']
    refine br_f (ba_m1 (by omega)) (nm_e (nm_e (nm_e ⟨pk_in nm 12 hnm e, pk_in (50 * tk (d / 50) + d % 50) 250 (by omega), ?_⟩)))
    rw [nI_clamp (show 50 * tk (d / 50) + d % 50 < 2 ^ 31 by omega)]
    refine x_cnt (a := pV Z (d / 50) (d % 50) / 16 % 4) (by rw [b7', ba_cnt (by omega)]) ?_
    have key : wpX_beginFunction (fun u => ∃ f, wkX (poX post) f (nI 0) u) (mX (f_draftCount, f_openCount, f_operandsDue, f_faultPlace, f_listCount, f_takenCount, f_culpritName, f_memorySize, f_operandCount, f_pendingCount, f_frameCount, f_next, f_outcome, f_lastResult, f_stepCount, a_draftKind, a_draftValue, a_draftPartner, a_openBlock, a_unitKind, a_unitValue, a_unitPartner, a_unitLength, a_listedUnit, a_listedAsLibrary, a_takenUnit, a_definition, a_isDuplicate, a_isWanted, a_codeKind, a_codeValue, a_codePartner, a_functionOf, a_placeOf, a_memory, a_operands, a_pendingToken, a_pendingDue, a_locals, a_returnTo) (nI (0 + pV Z (d / 50) (d % 50) / 16 % 4)) (nI 0) (nI 0) (nI 0) (-2) 0 (nI 0) a_memory (upd (upd (upd a_operands 0 v2) 1 v3) 2 v4) a_pendingToken a_pendingDue a_locals a_returnTo) (nI nm) :=
      x_begin (by omega) (by omega) hnm (by omega) (by omega) (by omega) hfo (by rw [b7, ba_cnt (by omega)]) (fun z => absurd z (by omega)) (fun _ z => absurd z (by omega)) (fun _ _ => h1 nm d hnm e hd)
    rw [Nat.zero_add, ← e] at key
    exact key
  · have hfo := fn_no hR hnm hd
    rw [xFO_e] at hfo
    exact br_t hfo (h2 nm hnm e hd)
end
section
variable {g_place g_culprit g_listed g_units g_taken g_used g_depth g_waiting g_held g_fault g_steps g_result g_given g_gift g_has : Int32} {b_kind b_value b_size b_list b_library b_places b_memory b_wanted b_pc b_base b_locals b_waits b_got b_values : Nat → Int32}
variable {E : SX} {n m : Nat} {tk ln : Nat → Nat} {D B pr : Nat → Nat → Nat}
theorem y_par {post : Int32 → Prop} {v : Int32} (hR : pR E (g_place, g_culprit, g_listed, g_units, g_taken, g_used, g_depth, g_waiting, g_held, g_fault, g_steps, g_result, g_given, g_gift, g_has, b_kind, b_value, b_size, b_list, b_library, b_places, b_memory, b_wanted, b_pc, b_base, b_locals, b_waits, b_got, b_values) n m tk ln D B pr) (h1 : ∀ nm d, nm < 12 → v = nI nm → fnm (g_place, g_culprit, g_listed, g_units, g_taken, g_used, g_depth, g_waiting, g_held, g_fault, g_steps, g_result, g_given, g_gift, g_has, b_kind, b_value, b_size, b_list, b_library, b_places, b_memory, b_wanted, b_pc, b_base, b_locals, b_waits, b_got, b_values) n ln nm d → post (nI (pV (g_place, g_culprit, g_listed, g_units, g_taken, g_used, g_depth, g_waiting, g_held, g_fault, g_steps, g_result, g_given, g_gift, g_has, b_kind, b_value, b_size, b_list, b_library, b_places, b_memory, b_wanted, b_pc, b_base, b_locals, b_waits, b_got, b_values) (d / 50) (d % 50) / 16 % 4))) (h2 : ∀ nm, nm < 12 → v = nI nm → (¬ ∃ d, fnm (g_place, g_culprit, g_listed, g_units, g_taken, g_used, g_depth, g_waiting, g_held, g_fault, g_steps, g_result, g_given, g_gift, g_has, b_kind, b_value, b_size, b_list, b_library, b_places, b_memory, b_wanted, b_pc, b_base, b_locals, b_waits, b_got, b_values) n ln nm d) → post (-1)) (h0 : (v < 0 ∨ nI 12 ≤ v) → post (-1)) : wpY_parameters post (g_place, g_culprit, g_listed, g_units, g_taken, g_used, g_depth, g_waiting, g_held, g_fault, g_steps, g_result, g_given, g_gift, g_has, b_kind, b_value, b_size, b_list, b_library, b_places, b_memory, b_wanted, b_pc, b_base, b_locals, b_waits, b_got, b_values) v := by
  have hun : g_units = nI n := hR.2.2.1
  have hrows := pR_rows hR
  rw [yK_e, yV_e, yS_e] at hrows
  have hn5 := hR.1
  unfold wpY_parameters
  refine y_outs (m := 12) (by omega) (fun nm hnm e => br_t rfl ?_) (fun z => br_f (by decide) (br_t (by decide) (h0 z)))
  rw [hun, e]
  refine yl_def (f := 11) (K := pK (g_place, g_culprit, g_listed, g_units, g_taken, g_used, g_depth, g_waiting, g_held, g_fault, g_steps, g_result, g_given, g_gift, g_has, b_kind, b_value, b_size, b_list, b_library, b_places, b_memory, b_wanted, b_pc, b_base, b_locals, b_waits, b_got, b_values)) (V := pV (g_place, g_culprit, g_listed, g_units, g_taken, g_used, g_depth, g_waiting, g_held, g_fault, g_steps, g_result, g_given, g_gift, g_has, b_kind, b_value, b_size, b_list, b_library, b_places, b_memory, b_wanted, b_pc, b_base, b_locals, b_waits, b_got, b_values)) (L := ln) (by omega) (by omega) hrows ?_
  by_cases hd : ∃ d, fnm (g_place, g_culprit, g_listed, g_units, g_taken, g_used, g_depth, g_waiting, g_held, g_fault, g_steps, g_result, g_given, g_gift, g_has, b_kind, b_value, b_size, b_list, b_library, b_places, b_memory, b_wanted, b_pc, b_base, b_locals, b_waits, b_got, b_values) n ln nm d
  · obtain ⟨d, hd⟩ := hd
    obtain ⟨b1, b2, b3, b4, b5, b6, b7, b8⟩ := fn_in hR hd
    rw [yV_e] at b5
    rw [yK_e] at b6
    have hin : vp_in (nI (550 + d)) 800 := pk_in (550 + d) 800 (by omega)
    have ec : (nI (550 + d)).toNatClampNeg = 550 + d := nI_clamp (by omega)
    rw [hd.1]
    have := h1 nm d hnm e hd
    refine br_f (nI_pos (by omega)) ⟨hin, br_t (by show b_kind (nI (550 + d)).toNatClampNeg = 28; rw [ec, b6]) ⟨hin, ?_⟩⟩
    show post ((b_value (nI (550 + d)).toNatClampNeg >>> ((4 : Int32) &&& 31)) &&& 3)
    rw [ec, b5, ba_cnt (by omega)]
    exact this
  · cases eb : lk_b (pK (g_place, g_culprit, g_listed, g_units, g_taken, g_used, g_depth, g_waiting, g_held, g_fault, g_steps, g_result, g_given, g_gift, g_has, b_kind, b_value, b_size, b_list, b_library, b_places, b_memory, b_wanted, b_pc, b_base, b_locals, b_waits, b_got, b_values)) (pV (g_place, g_culprit, g_listed, g_units, g_taken, g_used, g_depth, g_waiting, g_held, g_fault, g_steps, g_result, g_given, g_gift, g_has, b_kind, b_value, b_size, b_list, b_library, b_places, b_memory, b_wanted, b_pc, b_base, b_locals, b_waits, b_got, b_values)) ln nm n with
    | none => exact br_t (by decide) (h2 nm hnm e hd)
    | some d =>
      have hdi := lk_b_in (fun k hk => (pR_rows hR k hk).1) eb
      obtain ⟨_, h50, _, hT, _⟩ := hR.2.2.2.2.2.1 _ hdi.1
      obtain ⟨_, c2, _, c4⟩ := hT _ hdi.2.1
      rw [yK_e, show 550 + 50 * (d / 50) + d % 50 = 550 + d by omega] at c2
      have h9 := c4.1
      have hin : vp_in (nI (550 + d)) 800 := pk_in (550 + d) 800 (by omega)
      have ec : (nI (550 + d)).toNatClampNeg = 550 + d := nI_clamp (by omega)
      refine br_f (nI_pos (by omega)) ⟨hin, br_f ?_ (h2 nm hnm e hd)⟩
      show ¬ b_kind (nI (550 + d)).toNatClampNeg = 28
      rw [ec, c2]
      exact ba_ne (b := 28) (by omega) (by omega) (fun z => hd ⟨d, eb, z⟩)
theorem y_run {post : Int32 → SY → Prop} {v1 v2 v3 v4 : Int32} (hR : pR E (g_place, g_culprit, g_listed, g_units, g_taken, g_used, g_depth, g_waiting, g_held, g_fault, g_steps, 0, g_given, g_gift, g_has, b_kind, b_value, b_size, b_list, b_library, b_places, b_memory, b_wanted, b_pc, b_base, b_locals, b_waits, b_got, b_values) n m tk ln D B pr) (h1 : ∀ nm d, nm < 12 → v1 = nI nm → fnm (g_place, g_culprit, g_listed, g_units, g_taken, g_used, g_depth, g_waiting, g_held, g_fault, g_steps, 0, g_given, g_gift, g_has, b_kind, b_value, b_size, b_list, b_library, b_places, b_memory, b_wanted, b_pc, b_base, b_locals, b_waits, b_got, b_values) n ln nm d → ∃ f, wkY post f (mY (g_place, g_culprit, g_listed, g_units, g_taken, g_used, g_depth, g_waiting, g_held, g_fault, g_steps, 0, g_given, g_gift, g_has, b_kind, b_value, b_size, b_list, b_library, b_places, b_memory, b_wanted, b_pc, b_base, b_locals, b_waits, b_got, b_values) (nI 1) (nI 0) (nI 0) 0 (nI 1) 0 g_given g_gift 0 b_memory (upd b_pc 0 (nI (550 + d + 1))) (upd b_base 0 (nI 0)) (mlo b_locals (upd (upd (upd b_values 0 v2) 1 v3) 2 v4) 0 0 (pV (g_place, g_culprit, g_listed, g_units, g_taken, g_used, g_depth, g_waiting, g_held, g_fault, g_steps, 0, g_given, g_gift, g_has, b_kind, b_value, b_size, b_list, b_library, b_places, b_memory, b_wanted, b_pc, b_base, b_locals, b_waits, b_got, b_values) (d / 50) (d % 50) / 16 % 4)) b_waits b_got (upd (upd (upd b_values 0 v2) 1 v3) 2 v4))) (h2 : ∀ nm, nm < 12 → v1 = nI nm → (¬ ∃ d, fnm (g_place, g_culprit, g_listed, g_units, g_taken, g_used, g_depth, g_waiting, g_held, g_fault, g_steps, 0, g_given, g_gift, g_has, b_kind, b_value, b_size, b_list, b_library, b_places, b_memory, b_wanted, b_pc, b_base, b_locals, b_waits, b_got, b_values) n ln nm d) → post (-1) (g_place, g_culprit, g_listed, g_units, g_taken, g_used, g_depth, g_waiting, g_held, g_fault, g_steps, 0, g_given, g_gift, g_has, b_kind, b_value, b_size, b_list, b_library, b_places, b_memory, b_wanted, b_pc, b_base, b_locals, b_waits, b_got, b_values)) (h0 : (v1 < 0 ∨ nI 12 ≤ v1) → post (-1) (g_place, g_culprit, g_listed, g_units, g_taken, g_used, g_depth, g_waiting, g_held, g_fault, g_steps, 0, g_given, g_gift, g_has, b_kind, b_value, b_size, b_list, b_library, b_places, b_memory, b_wanted, b_pc, b_base, b_locals, b_waits, b_got, b_values)) : wpY_run post (g_place, g_culprit, g_listed, g_units, g_taken, g_used, g_depth, g_waiting, g_held, g_fault, g_steps, g_result, g_given, g_gift, g_has, b_kind, b_value, b_size, b_list, b_library, b_places, b_memory, b_wanted, b_pc, b_base, b_locals, b_waits, b_got, b_values) v1 v2 v3 v4 := by
  unfold wpY_run
  refine y_par hR (fun nm d hnm e hd => ?_) (fun nm hnm e hd => br_f (by decide) (h2 nm hnm e hd)) (fun z => br_f (by decide) (h0 z))
  refine br_t (nI_pos' (by omega)) (nm_e (nm_e (nm_e ?_)))
  obtain ⟨f, hf⟩ := h1 nm d hnm e hd
  have key : wpY_begin (bgY post) (mY (g_place, g_culprit, g_listed, g_units, g_taken, g_used, g_depth, g_waiting, g_held, g_fault, g_steps, 0, g_given, g_gift, g_has, b_kind, b_value, b_size, b_list, b_library, b_places, b_memory, b_wanted, b_pc, b_base, b_locals, b_waits, b_got, b_values) (nI 0) (nI 0) (nI (0 + pV (g_place, g_culprit, g_listed, g_units, g_taken, g_used, g_depth, g_waiting, g_held, g_fault, g_steps, 0, g_given, g_gift, g_has, b_kind, b_value, b_size, b_list, b_library, b_places, b_memory, b_wanted, b_pc, b_base, b_locals, b_waits, b_got, b_values) (d / 50) (d % 50) / 16 % 4)) 0 (nI 0) 0 g_given g_gift g_has b_memory b_pc b_base b_locals b_waits b_got (upd (upd (upd b_values 0 v2) 1 v3) 2 v4)) (nI nm) (nI (pV (g_place, g_culprit, g_listed, g_units, g_taken, g_used, g_depth, g_waiting, g_held, g_fault, g_steps, 0, g_given, g_gift, g_has, b_kind, b_value, b_size, b_list, b_library, b_places, b_memory, b_wanted, b_pc, b_base, b_locals, b_waits, b_got, b_values) (d / 50) (d % 50) / 16 % 4)) :=
    y_begin hR (by omega) (by omega) hnm (by omega) (by omega) (by omega) hd.1 (fun z => absurd z (by omega)) (fun _ z => absurd z (by omega)) (fun _ _ => ⟨f, hf⟩)
  rw [Nat.zero_add, ← e] at key
  exact key
end
