/-! unit: the owed row -/
theorem sk_SF_d {K N : Nat → Nat} {c : Nat} (hc : c ≤ 50) (h : sk_SF K N c (-1)) : sk_d K N c = 0 := by
  rcases h with ⟨i', h1, h2, h3, h4⟩ | ⟨h1, h⟩
  · exact absurd h2.symm (ba_m1 (by omega))
  · rcases h with h | h
    · exact h.2.1
    · exact absurd h.2.symm (ba_m1 (by omega))
theorem tw_S_m1 {K V : Nat → Nat} {c : Nat} (hc : c ≤ 50) (h : tw_S K V c (-1)) : ∀ j, j < c → tw_d K j → ¬ tw_b K V j := by
  rcases h with ⟨i, h1, h2, _⟩ | ⟨_, h⟩
  · exact absurd h2.symm (ba_m1 (by omega))
  · exact h
/-- the row that a unit leaves -/
theorem un_row {yk yv xk xv xp yk' yv' pa : Nat → Int32} {u c : Nat} (hc : c ≤ 50) (hT : ∀ i, i < 50 → yk (250 + i) = nI (kn yk (250 + i)) ∧ tk_P (kn yk (250 + i)) (yv (250 + i)))
    (hSF : sk_SF (fun j => kn yk (250 + j)) (fun j => tk_n (kn yk (250 + j)) (kn yv (250 + j))) c (-1)) (hcl : sk_cl (fun j => kn yk (250 + j)) pa c) (hTW : tw_S (fun j => kn yk (250 + j)) (fun j => kn yv (250 + j)) c (-1))
    (hx : ∀ i, i < c → xk (50 * u + i) = yk (250 + i) ∧ xv (50 * u + i) = yv (250 + i) ∧ xp (50 * u + i) = nI (50 * u) + pa i) (hy : ∀ i, i < c → yk' (50 * u + i) = yk (250 + i) ∧ yv' (50 * u + i) = yv (250 + i)) : rl_row xk xv xp (50 * u) yk' yv' (50 * u) c := by
  obtain ⟨hall, hs⟩ := sk_SF_m1 hc hSF
  have hd := sk_SF_d hc hSF
  have ek : ∀ i, i < c → kn yk' (50 * u + i) = kn yk (250 + i) := fun i hi => congrArg Int32.toNatClampNeg (hy i hi).1
  have ev : ∀ i, i < c → kn yv' (50 * u + i) = kn yv (250 + i) := fun i hi => congrArg Int32.toNatClampNeg (hy i hi).2
  have hop : ∀ p, p ≤ c → sk_op (fun j => kn yk (250 + j)) p (sk_st (fun j => kn yk (250 + j)) p) := fun p hp => by
    obtain ⟨_, h, _⟩ := sk_all p (fun j hj => hall j (by omega))
    exact h
  refine ⟨hc, fun i hi => ?_, wf_U_ext (sk_wf (P := fun i => xp (50 * u + i)) (b := 50 * u) hall hs hcl (fun i hi => (hx i hi).2.2) (fun i hi e => ?_) hop) (fun i hi => ⟨ek i hi, by rw [ek i hi, ev i hi], rfl⟩), fun i j hij hj => ?_, fun i hi => ?_⟩
  · rw [(hx i hi).1, (hx i hi).2.1, (hy i hi).1, (hy i hi).2, ek i hi]
    exact ⟨rfl, rfl, (hT i (by omega)).1, (hT i (by omega)).2⟩
  · have e' : kn yk (250 + i) = 28 := e
    show tk_n (kn yk (250 + i)) _ = 0
    rw [e']; rfl
  · rw [ek i (by omega), ek j hj, ev i (by omega), ev j hj]
    intro d1 d2 e
    exact tw_S_m1 hc hTW j hj d2 ⟨i, hij, d1, e⟩
  · rw [ek i hi]
    intro e
    apply Classical.byContradiction
    intro z
    have e2 : i + 1 = c := by omega
    have := (sk_after1 (hall i hi) e).2
    rw [e2, hd] at this
    exact absurd this (by decide)
theorem i_vc_unit {k : Nat} {u : SX} {v : SY} (I : i_Rel k u v) (hk : k + 5 ≤ 2560) (v1 : Int32) : wpX_unit (fun r u' => wpY_unit (fun r' v' => r' = r ∧ i_Rel (k + 5) u' v') v v1) u v1 := by
  obtain ⟨f_draftCount, f_openCount, f_operandsDue, f_faultPlace, f_listCount, f_takenCount, f_culpritName, f_memorySize, f_operandCount, f_pendingCount, f_frameCount, f_next, f_outcome, f_lastResult, f_stepCount, a_draftKind, a_draftValue, a_draftPartner, a_openBlock, a_unitKind, a_unitValue, a_unitPartner, a_unitLength, a_listedUnit, a_listedAsLibrary, a_takenUnit, a_definition, a_isDuplicate, a_isWanted, a_codeKind, a_codeValue, a_codePartner, a_functionOf, a_placeOf, a_memory, a_operands, a_pendingToken, a_pendingDue, a_locals, a_returnTo⟩ := u
  obtain ⟨g_place, g_culprit, g_listed, g_units, g_taken, g_used, g_depth, g_waiting, g_held, g_fault, g_steps, g_result, g_given, g_gift, g_has, b_kind, b_value, b_size, b_list, b_library, b_places, b_memory, b_wanted, b_pc, b_base, b_locals, b_waits, b_got, b_values⟩ := v
  have I' := i_el I
  obtain ⟨⟨c, c1, c2, c3, c4⟩, i2, i3, i4, ⟨n, m, tk, ln, D, B, pr, hR, hm⟩, i6, i7, i8⟩ := I'
  subst c2
  rcases pk_ix v1 (n := 5) (by omega) with z | z | ⟨u, hu, e⟩
  · exact xu_bad (Or.inl z) (yu_bad (Or.inl z) ⟨rfl, I⟩)
  · exact xu_bad (Or.inr z) (yu_bad (Or.inr z) ⟨rfl, I⟩)
  · subst e
    have xK : ∀ j, j < 50 → a_draftKind j = nI (kn b_kind (250 + j)) := fun j hj => by rw [(c4 j hj).1]; exact (c4 j hj).2.2.1
    have xP : ∀ j, j < 50 → tk_P (kn b_kind (250 + j)) (a_draftValue j) := fun j hj => by rw [(c4 j hj).2.1]; exact (c4 j hj).2.2.2
    have xV : ∀ j, j < 50 → kn b_value (250 + j) = (a_draftValue j).toNatClampNeg := fun j hj => by rw [(c4 j hj).2.1]; rfl
    have xN : ∀ j, j < 50 → tk_n (kn b_kind (250 + j)) (kn b_value (250 + j)) = tk_n (kn b_kind (250 + j)) (a_draftValue j).toNatClampNeg := fun j hj => by rw [xV j hj]
    have yKk : ∀ j, j < 50 → b_kind (250 + j) = nI (kn b_kind (250 + j)) := fun j hj => (c4 j hj).2.2.1
    have yPp : ∀ j, j < 50 → tk_P (kn b_kind (250 + j)) (b_value (250 + j)) := fun j hj => (c4 j hj).2.2.2
    have hs5 : ∀ r, r ≠ 5 → upd b_size 5 0 r = b_size r := fun r hr => pk_un hr
    have fin : ∀ (r oc od : Int32) (ob pa w : Nat → Int32), i_Rel (k + 5) (0, oc, od, r, f_listCount, f_takenCount, f_culpritName, f_memorySize, f_operandCount, f_pendingCount, f_frameCount, f_next, f_outcome, f_lastResult, f_stepCount, a_draftKind, a_draftValue, pa, ob, a_unitKind, a_unitValue, a_unitPartner, a_unitLength, a_listedUnit, a_listedAsLibrary, a_takenUnit, a_definition, a_isDuplicate, a_isWanted, a_codeKind, a_codeValue, a_codePartner, a_functionOf, a_placeOf, a_memory, a_operands, a_pendingToken, a_pendingDue, a_locals, a_returnTo) (r, g_culprit, g_listed, g_units, g_taken, g_used, g_depth, g_waiting, g_held, g_fault, g_steps, g_result, g_given, g_gift, g_has, b_kind, b_value, upd b_size 5 0, b_list, b_library, b_places, b_memory, w, b_pc, b_base, b_locals, b_waits, b_got, b_values) := by
      intro r oc od ob pa w
      refine i_mk ⟨⟨0, by omega, rfl, pk_us, c4⟩, fun u hu => ?_, i3, ⟨i4.1, fun r hr => ?_⟩, ⟨n, m, tk, ln, D, B, pr, pR_ext (xMS_e.trans xMS_e.symm) (xCK_e.trans xCK_e.symm) (xCV_e.trans xCV_e.symm) (xCP_e.trans xCP_e.symm) (xFO_e.trans xFO_e.symm) (xPO_e.trans xPO_e.symm) (yUN_e.trans yUN_e.symm) (yUS_e.trans yUS_e.symm) (yPL_e.trans yPL_e.symm) (fun j _ => ⟨congrFun (yK_e.trans yK_e.symm) j, congrFun (yV_e.trans yV_e.symm) j⟩) (fun r hr => ?_) hR, hm⟩, rfl, i7, i8⟩
      · obtain ⟨cu, a, b, d⟩ := i2 u hu
        exact ⟨cu, a, by rw [hs5 u (by omega)]; exact b, d⟩
      · by_cases z : r = 5
        · rw [z, pk_us]; exact ⟨0, by omega, rfl⟩
        · rw [hs5 r z]; exact i4.2 r hr
      · rw [yS_e, yS_e]; exact hs5 r (by omega)
    refine xu_unit hu c1 xK xP xN xV (fun r oc od ob pa hSF hr => ?_) (fun r oc od ob pa hSF hTW hr => ?_) (fun oc od ob pa hSF hcl hTW => ?_)
    · exact yu_S hu c1 c3 yKk yPp (fun _ _ => rfl) hSF hr (fun w => ⟨rfl, fin r oc od ob pa w⟩)
    · exact yu_unit hu c1 c3 yKk yPp (fun _ _ => rfl) (fun _ _ => rfl) hSF hTW (fun _ w => ⟨rfl, fin r oc od ob pa w⟩) (fun z => absurd z hr)
    · refine yu_unit hu c1 c3 yKk yPp (fun _ _ => rfl) (fun _ _ => rfl) hSF hTW (fun z => absurd rfl z) (fun _ w => ⟨rfl, ?_⟩)
      have hsz : ∀ r, r ≠ 5 → r ≠ u → upd (upd b_size u (nI c)) 5 0 r = b_size r := fun r h1 h2 => by rw [pk_un h1, pk_un h2]
      have hout : ∀ (a b : Nat → Int32) (j : Nat), ¬ (50 * u ≤ j ∧ j < 50 * u + 50) → kd_w a b u 50 j = a j := fun a b j h => kd_out h
      refine i_mk ⟨⟨0, by omega, rfl, pk_us, fun i hi => ?_⟩, fun u' hu' => ?_, i3, ⟨fun j hj => ?_, fun r hr => ?_⟩, ⟨n, m, tk, ln, D, B, pr, pR_ext (xMS_e.trans xMS_e.symm) (xCK_e.trans xCK_e.symm) (xCV_e.trans xCV_e.symm) (xCP_e.trans xCP_e.symm) (xFO_e.trans xFO_e.symm) (xPO_e.trans xPO_e.symm) (yUN_e.trans yUN_e.symm) (yUS_e.trans yUS_e.symm) (yPL_e.trans yPL_e.symm) (fun j hj => ⟨?_, ?_⟩) (fun r hr => ?_) hR, hm⟩, i6, i7, i8⟩
      · have ek : kn (kd_w b_kind (fun i => b_kind (250 + i)) u 50) (250 + i) = kn b_kind (250 + i) := congrArg Int32.toNatClampNeg (hout _ _ _ (by omega))
        rw [ek, hout _ _ _ (by omega), hout _ _ _ (by omega)]
        exact c4 i hi
      · by_cases z : u' = u
        · subst z
          refine ⟨c, pk_us, by rw [pk_un (by omega), pk_us], un_row c1 (fun i hi => ⟨yKk i hi, yPp i hi⟩) hSF hcl hTW (fun i hi => ?_) (fun i hi => ?_)⟩
          · rw [kd_in hi, kd_in hi, kd_in hi]
            exact ⟨(c4 i (by omega)).1, (c4 i (by omega)).2.1, rfl⟩
          · rw [kd_in (by omega), kd_in (by omega)]
            exact ⟨rfl, rfl⟩
        · obtain ⟨cu, a, b, d⟩ := i2 u' hu'
          have := d.1
          refine ⟨cu, by rw [pk_un z]; exact a, by rw [hsz u' (by omega) z]; exact b, rl_row_ext d (fun i hi => ?_) (fun i hi => ?_)⟩
          · exact ⟨kd_out (by omega), kd_out (by omega), kd_out (by omega)⟩
          · exact ⟨kd_out (by omega), kd_out (by omega)⟩
      · unfold kd_w
        split
        · exact i4.1 _ (by omega)
        · exact i4.1 j hj
      · by_cases z : r = 5
        · rw [z, pk_us]; exact ⟨0, by omega, rfl⟩
        · rw [pk_un z]
          by_cases y : r = u
          · rw [y, pk_us]; exact ⟨c, c1, rfl⟩
          · rw [pk_un y]; exact i4.2 r hr
      · rw [yK_e, yK_e]; exact hout _ _ _ (by omega)
      · rw [yV_e, yV_e]; exact hout _ _ _ (by omega)
      · rw [yS_e, yS_e]; exact hsz r (by omega) (by omega)
