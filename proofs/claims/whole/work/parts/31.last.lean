/-! the last two owed rows -/
theorem i_vc_parameters {k : Nat} {u : SX} {v : SY} (I : i_Rel k u v) (hk : k + 5 ≤ 2560) (v1 : Int32) : wpX_parameters (fun r => wpY_parameters (fun r' => r' = r ∧ i_Rel (k + 5) u v) v v1) u v1 := by
  obtain ⟨f_draftCount, f_openCount, f_operandsDue, f_faultPlace, f_listCount, f_takenCount, f_culpritName, f_memorySize, f_operandCount, f_pendingCount, f_frameCount, f_next, f_outcome, f_lastResult, f_stepCount, a_draftKind, a_draftValue, a_draftPartner, a_openBlock, a_unitKind, a_unitValue, a_unitPartner, a_unitLength, a_listedUnit, a_listedAsLibrary, a_takenUnit, a_definition, a_isDuplicate, a_isWanted, a_codeKind, a_codeValue, a_codePartner, a_functionOf, a_placeOf, a_memory, a_operands, a_pendingToken, a_pendingDue, a_locals, a_returnTo⟩ := u
  obtain ⟨g_place, g_culprit, g_listed, g_units, g_taken, g_used, g_depth, g_waiting, g_held, g_fault, g_steps, g_result, g_given, g_gift, g_has, b_kind, b_value, b_size, b_list, b_library, b_places, b_memory, b_wanted, b_pc, b_base, b_locals, b_waits, b_got, b_values⟩ := v
  have I' := i_el I
  obtain ⟨_, _, _, _, ⟨n, m, tk, ln, D, B, pr, hR, hm⟩, _⟩ := I'
  refine x_par hR (fun nm d hnm e hd => y_par hR (fun nm' d' hnm' e' hd' => ⟨?_, I⟩) (fun nm' hnm' e' hd' => ?_) (fun z => absurd (ix_no (by omega) hnm e z) id)) (fun nm hnm e hd => y_par hR (fun nm' d' hnm' e' hd' => ?_) (fun _ _ _ _ => ⟨rfl, I⟩) (fun z => absurd (ix_no (by omega) hnm e z) id)) (fun z => y_par hR (fun nm' d' hnm' e' hd' => absurd (ix_no (by omega) hnm' e' z) id) (fun _ _ _ _ => ⟨rfl, I⟩) (fun _ => ⟨rfl, I⟩))
  · have en := ba_inj (by omega) (by omega) (e.symm.trans e')
    subst en
    have ed : d = d' := Option.some.inj (hd.1.symm.trans hd'.1)
    subst ed
    rfl
  · have en := ba_inj (by omega) (by omega) (e.symm.trans e')
    subst en
    exact absurd ⟨d, hd⟩ hd'
  · have en := ba_inj (by omega) (by omega) (e.symm.trans e')
    subst en
    exact absurd ⟨d', hd'⟩ hd
theorem i_vc_run {k : Nat} {u : SX} {v : SY} (I : i_Rel k u v) (hk : k + 5 ≤ 2560) (v1 : Int32) (v2 : Int32) (v3 : Int32) (v4 : Int32) : wpX_run (fun r u' => wpY_run (fun r' v' => r' = r ∧ i_Rel (k + 5) u' v') v v1 v2 v3 v4) u v1 v2 v3 v4 := by
  obtain ⟨f_draftCount, f_openCount, f_operandsDue, f_faultPlace, f_listCount, f_takenCount, f_culpritName, f_memorySize, f_operandCount, f_pendingCount, f_frameCount, f_next, f_outcome, f_lastResult, f_stepCount, a_draftKind, a_draftValue, a_draftPartner, a_openBlock, a_unitKind, a_unitValue, a_unitPartner, a_unitLength, a_listedUnit, a_listedAsLibrary, a_takenUnit, a_definition, a_isDuplicate, a_isWanted, a_codeKind, a_codeValue, a_codePartner, a_functionOf, a_placeOf, a_memory, a_operands, a_pendingToken, a_pendingDue, a_locals, a_returnTo⟩ := u
  obtain ⟨g_place, g_culprit, g_listed, g_units, g_taken, g_used, g_depth, g_waiting, g_held, g_fault, g_steps, g_result, g_given, g_gift, g_has, b_kind, b_value, b_size, b_list, b_library, b_places, b_memory, b_wanted, b_pc, b_base, b_locals, b_waits, b_got, b_values⟩ := v
  have I' := i_el I
  obtain ⟨i1, i2, i3, i4, ⟨n, m, tk, ln, D, B, pr, hR0, hm⟩, i6, i7, i8, i9, i10, i11⟩ := I'
  subst i10 i11
  have hR : pR (f_draftCount, f_openCount, f_operandsDue, f_faultPlace, f_listCount, f_takenCount, f_culpritName, f_memorySize, f_operandCount, f_pendingCount, f_frameCount, f_next, f_outcome, f_lastResult, f_stepCount, a_draftKind, a_draftValue, a_draftPartner, a_openBlock, a_unitKind, a_unitValue, a_unitPartner, a_unitLength, a_listedUnit, a_listedAsLibrary, a_takenUnit, a_definition, a_isDuplicate, a_isWanted, a_codeKind, a_codeValue, a_codePartner, a_functionOf, a_placeOf, a_memory, a_operands, a_pendingToken, a_pendingDue, a_locals, a_returnTo) (g_place, g_culprit, g_listed, g_units, g_taken, g_used, g_depth, g_waiting, g_held, g_fault, g_steps, 0, g_given, g_gift, g_has, b_kind, b_value, b_size, b_list, b_library, b_places, b_memory, b_wanted, b_pc, b_base, a_locals, b_waits, b_got, a_operands) n m tk ln D B pr := pR_ext (xMS_e.trans xMS_e.symm) (xCK_e.trans xCK_e.symm) (xCV_e.trans xCV_e.symm) (xCP_e.trans xCP_e.symm) (xFO_e.trans xFO_e.symm) (xPO_e.trans xPO_e.symm) (yUN_e.trans yUN_e.symm) (yUS_e.trans yUS_e.symm) (yPL_e.trans yPL_e.symm) (fun j _ => ⟨congrFun (yK_e.trans yK_e.symm) j, congrFun (yV_e.trans yV_e.symm) j⟩) (fun j _ => congrFun (yS_e.trans yS_e.symm) j) hR0
  have bad : i_Rel (k + 5) (f_draftCount, f_openCount, f_operandsDue, f_faultPlace, f_listCount, f_takenCount, f_culpritName, f_memorySize, f_operandCount, f_pendingCount, f_frameCount, f_next, f_outcome, 0, f_stepCount, a_draftKind, a_draftValue, a_draftPartner, a_openBlock, a_unitKind, a_unitValue, a_unitPartner, a_unitLength, a_listedUnit, a_listedAsLibrary, a_takenUnit, a_definition, a_isDuplicate, a_isWanted, a_codeKind, a_codeValue, a_codePartner, a_functionOf, a_placeOf, a_memory, a_operands, a_pendingToken, a_pendingDue, a_locals, a_returnTo) (g_place, g_culprit, g_listed, g_units, g_taken, g_used, g_depth, g_waiting, g_held, g_fault, g_steps, 0, g_given, g_gift, g_has, b_kind, b_value, b_size, b_list, b_library, b_places, b_memory, b_wanted, b_pc, b_base, a_locals, b_waits, b_got, a_operands) := i_mk ⟨i1, i2, i3, i4, ⟨n, m, tk, ln, D, B, pr, pR_ext (xMS_e.trans xMS_e.symm) (xCK_e.trans xCK_e.symm) (xCV_e.trans xCV_e.symm) (xCP_e.trans xCP_e.symm) (xFO_e.trans xFO_e.symm) (xPO_e.trans xPO_e.symm) (yUN_e.trans yUN_e.symm) (yUS_e.trans yUS_e.symm) (yPL_e.trans yPL_e.symm) (fun j _ => ⟨congrFun (yK_e.trans yK_e.symm) j, congrFun (yV_e.trans yV_e.symm) j⟩) (fun j _ => congrFun (yS_e.trans yS_e.symm) j) hR0, hm⟩, i6, i7, rfl, i9, rfl, rfl⟩
  have rel : ∀ (oc pc fc nx o lr sc de wa he gv gf ha : Int32) (me my op lc pt pd rt cp ba wt gt : Nat → Int32), (∀ i, i < m → me i = my i) → i_Rel (k + 5) (mX (f_draftCount, f_openCount, f_operandsDue, f_faultPlace, f_listCount, f_takenCount, f_culpritName, f_memorySize, f_operandCount, f_pendingCount, f_frameCount, f_next, f_outcome, f_lastResult, f_stepCount, a_draftKind, a_draftValue, a_draftPartner, a_openBlock, a_unitKind, a_unitValue, a_unitPartner, a_unitLength, a_listedUnit, a_listedAsLibrary, a_takenUnit, a_definition, a_isDuplicate, a_isWanted, a_codeKind, a_codeValue, a_codePartner, a_functionOf, a_placeOf, a_memory, a_operands, a_pendingToken, a_pendingDue, a_locals, a_returnTo) oc pc fc nx o lr sc me op pt pd lc rt) (mY (g_place, g_culprit, g_listed, g_units, g_taken, g_used, g_depth, g_waiting, g_held, g_fault, g_steps, 0, g_given, g_gift, g_has, b_kind, b_value, b_size, b_list, b_library, b_places, b_memory, b_wanted, b_pc, b_base, a_locals, b_waits, b_got, a_operands) de wa he o sc lr gv gf ha my cp ba lc wt gt op) := by
    intro oc pc fc nx o lr sc de wa he gv gf ha me my op lc pt pd rt cp ba wt gt hmm
    show i_Rel (k + 5) (f_draftCount, f_openCount, f_operandsDue, f_faultPlace, f_listCount, f_takenCount, f_culpritName, f_memorySize, oc, pc, fc, nx, o, lr, sc, a_draftKind, a_draftValue, a_draftPartner, a_openBlock, a_unitKind, a_unitValue, a_unitPartner, a_unitLength, a_listedUnit, a_listedAsLibrary, a_takenUnit, a_definition, a_isDuplicate, a_isWanted, a_codeKind, a_codeValue, a_codePartner, a_functionOf, a_placeOf, me, op, pt, pd, lc, rt) (g_place, g_culprit, g_listed, g_units, g_taken, g_used, de, wa, he, o, sc, lr, gv, gf, ha, b_kind, b_value, b_size, b_list, b_library, b_places, my, b_wanted, cp, ba, lc, wt, gt, op)
    exact i_mk ⟨i1, i2, i3, i4, ⟨n, m, tk, ln, D, B, pr, pR_ext (xMS_e.trans xMS_e.symm) (xCK_e.trans xCK_e.symm) (xCV_e.trans xCV_e.symm) (xCP_e.trans xCP_e.symm) (xFO_e.trans xFO_e.symm) (xPO_e.trans xPO_e.symm) (yUN_e.trans yUN_e.symm) (yUS_e.trans yUS_e.symm) (yPL_e.trans yPL_e.symm) (fun j _ => ⟨congrFun (yK_e.trans yK_e.symm) j, congrFun (yV_e.trans yV_e.symm) j⟩) (fun j _ => congrFun (yS_e.trans yS_e.symm) j) hR0, hmm⟩, i6, i7, rfl, rfl, rfl, rfl⟩
  refine x_run hR (fun nm d hnm e hd => ?_) (fun nm hnm e hd => y_run hR (fun nm' d' hnm' e' hd' => ?_) (fun _ _ _ _ => ⟨rfl, bad⟩) (fun z => absurd (ix_no (by omega) hnm e z) id)) (fun z => y_run hR (fun nm' d' hnm' e' hd' => absurd (ix_no (by omega) hnm' e' z) id) (fun _ _ _ _ => ⟨rfl, bad⟩) (fun _ => ⟨rfl, bad⟩))
  · obtain ⟨b1, b2, b3, b4, b5, b6, b7, b8⟩ := fn_in hR hd
    obtain ⟨_, _, _, _, kS, _⟩ := hR.2.2.2.2.2.1 _ b1
    have hp1 := kS.2.2.1 _ b2 hd.2
    have hpl : d % 50 + 1 < ln (d / 50) := by
      apply Classical.byContradiction
      intro z
      have ez : d % 50 + 1 = ln (d / 50) := by omega
      have := kS.1
      rw [← ez, hp1.1] at this
      omega
    have hwg := (wg_le (g_place, g_culprit, g_listed, g_units, g_taken, g_used, g_depth, g_waiting, g_held, g_fault, g_steps, 0, g_given, g_gift, g_has, b_kind, b_value, b_size, b_list, b_library, b_places, b_memory, b_wanted, b_pc, b_base, a_locals, b_waits, b_got, a_operands) (d / 50) (d % 50 + 1) 0 (by omega)).1
    have sim := s_all hR 1000000 0 (by omega) 0 (d / 50) (d % 50 + 1) 0 0 0 0 1 1 0 a_memory b_memory (upd (upd (upd a_operands 0 v2) 1 v3) 2 v4) (mlo a_locals (upd (upd (upd a_operands 0 v2) 1 v3) 2 v4) 0 0 (pV (g_place, g_culprit, g_listed, g_units, g_taken, g_used, g_depth, g_waiting, g_held, g_fault, g_steps, 0, g_given, g_gift, g_has, b_kind, b_value, b_size, b_list, b_library, b_places, b_memory, b_wanted, b_pc, b_base, a_locals, b_waits, b_got, a_operands) (d / 50) (d % 50) / 16 % 4)) a_pendingToken a_pendingDue b_waits b_got (upd a_returnTo 0 (nI 0)) (upd b_pc 0 (nI (550 + d + 1))) (upd b_base 0 (nI 0)) g_given g_gift
      ⟨b1, hpl, by omega, by omega, by omega, by rw [pk_us]; exact congrArg nI (by omega), pk_us, hm, by omega, by omega, ⟨hp1.2, rfl, by omega⟩, ⟨rfl, rfl, rfl⟩⟩ (by omega)
    obtain ⟨o, x', y', ⟨oc, pc, fc, nx, lr, sc, de, wa, he, gv, gf, ha, me, my, op, lc, pt, pd, rt, cp, ba, wt, gt, ex, ey, hmm⟩, hX, hY⟩ := sim
    subst ex ey
    refine hX (poX _) ?_
    show wpY_run (fun r' v' => r' = o ∧ i_Rel (k + 5) (mX (f_draftCount, f_openCount, f_operandsDue, f_faultPlace, f_listCount, f_takenCount, f_culpritName, f_memorySize, f_operandCount, f_pendingCount, f_frameCount, f_next, f_outcome, f_lastResult, f_stepCount, a_draftKind, a_draftValue, a_draftPartner, a_openBlock, a_unitKind, a_unitValue, a_unitPartner, a_unitLength, a_listedUnit, a_listedAsLibrary, a_takenUnit, a_definition, a_isDuplicate, a_isWanted, a_codeKind, a_codeValue, a_codePartner, a_functionOf, a_placeOf, a_memory, a_operands, a_pendingToken, a_pendingDue, a_locals, a_returnTo) oc pc fc nx o lr sc me op pt pd lc rt) v') (g_place, g_culprit, g_listed, g_units, g_taken, g_used, g_depth, g_waiting, g_held, g_fault, g_steps, g_result, g_given, g_gift, g_has, b_kind, b_value, b_size, b_list, b_library, b_places, b_memory, b_wanted, b_pc, b_base, a_locals, b_waits, b_got, a_operands) v1 v2 v3 v4
    refine y_run hR (fun nm' d' hnm' e' hd' => ?_) (fun nm' hnm' e' hd' => ?_) (fun z => absurd (ix_no (by omega) hnm e z) id)
    · have en := ba_inj (by omega) (by omega) (e.symm.trans e')
      subst en
      have ed : d = d' := Option.some.inj (hd.1.symm.trans hd'.1)
      subst ed
      exact hY _ ⟨rfl, rel oc pc fc nx o lr sc de wa he gv gf ha me my op lc pt pd rt cp ba wt gt hmm⟩
    · have en := ba_inj (by omega) (by omega) (e.symm.trans e')
      subst en
      exact absurd ⟨d, hd⟩ hd'
  · have en := ba_inj (by omega) (by omega) (e.symm.trans e')
    subst en
    exact absurd ⟨d', hd'⟩ hd
