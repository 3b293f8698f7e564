/-! token, listing, parameters: the owed rows -/
theorem wf_U_ext {K N K' N' : Nat → Nat} {c : Nat} {P P' : Nat → Int32} {b : Nat} (h : wf_U K N c P b) (he : ∀ i, i < c → K' i = K i ∧ N' i = N i ∧ P' i = P i) : wf_U K' N' c P' b := by
  obtain ⟨D, B, pr, ⟨s1, s2, s3, s4⟩, j1, j2⟩ := h
  refine ⟨D, B, pr, ⟨s1, fun p hp => ?_, fun p hp => ?_, fun p hp => ?_⟩, fun o ho hb hk => ?_, fun e hee hb hk => ?_⟩
  · rw [(he p hp).1]; exact s2 p hp
  · rw [(he p hp).1]; exact s3 p hp
  · rw [(he p hp).1, (he p hp).2.1]; exact s4 p hp
  · rw [(he o ho).1] at hk
    obtain ⟨a1, a2, a3, a4, a5, a6, a7⟩ := j1 o ho hb hk
    rw [(he o ho).1, (he o ho).2.2, (he _ a2).1]
    exact ⟨a1, a2, a3, a4, a5, a6, fun q1 q q2 q3 q4 => a7 q1 q q2 q3 (by rw [← (he q (by omega)).1]; exact q4)⟩
  · rw [(he e hee).1] at hk
    obtain ⟨f, a1, a2, a3, a4, a5, a6, a7, a8⟩ := j2 e hee hb hk
    refine ⟨f, a1, a2, ?_, ?_, ?_, ?_, a7, a8⟩
    · rw [(he e hee).2.2]; exact a3
    · rw [(he (pr e) (by omega)).1]; exact a4
    · rw [(he (pr e) (by omega)).1, (he f (by omega)).1]; exact a5
    · rw [(he (pr e) (by omega)).1]; exact a6
theorem rl_row_ext {xk xv xp yk yv xk' xv' xp' yk' yv' : Nat → Int32} {xb yb yb' c : Nat} (h : rl_row xk xv xp xb yk yv yb c) (hx : ∀ i, i < c → xk' (xb + i) = xk (xb + i) ∧ xv' (xb + i) = xv (xb + i) ∧ xp' (xb + i) = xp (xb + i)) (hy : ∀ i, i < c → yk' (yb' + i) = yk (yb + i) ∧ yv' (yb' + i) = yv (yb + i)) : rl_row xk' xv' xp' xb yk' yv' yb' c := by
  obtain ⟨h1, h2, h3, h4, h5⟩ := h
  have ek : ∀ i, i < c → kn yk' (yb' + i) = kn yk (yb + i) := fun i hi => congrArg Int32.toNatClampNeg (hy i hi).1
  have ev : ∀ i, i < c → kn yv' (yb' + i) = kn yv (yb + i) := fun i hi => congrArg Int32.toNatClampNeg (hy i hi).2
  refine ⟨h1, fun i hi => ?_, wf_U_ext h3 (fun i hi => ⟨ek i hi, by rw [ek i hi, ev i hi], (hx i hi).2.2⟩), fun i j a b => ?_, fun i hi => ?_⟩
  · obtain ⟨a, b, d, e⟩ := h2 i hi
    rw [(hx i hi).1, (hx i hi).2.1, (hy i hi).1, (hy i hi).2, ek i hi]
    exact ⟨a, b, d, e⟩
  · rw [ek i (by omega), ek j b, ev i (by omega), ev j b]; exact h4 i j a b
  · rw [ek i hi]; exact h5 i hi
theorem i_vc_token {k : Nat} {u : SX} {v : SY} (I : i_Rel k u v) (hk : k + 5 ≤ 2560) (v1 : Int32) (v2 : Int32) : wpX_token (fun r u' => wpY_token (fun r' v' => r' = r ∧ i_Rel (k + 5) u' v') v v1 v2) u v1 v2 := by
  obtain ⟨f_draftCount, f_openCount, f_operandsDue, f_faultPlace, f_listCount, f_takenCount, f_culpritName, f_memorySize, f_operandCount, f_pendingCount, f_frameCount, f_next, f_outcome, f_lastResult, f_stepCount, a_draftKind, a_draftValue, a_draftPartner, a_openBlock, a_unitKind, a_unitValue, a_unitPartner, a_unitLength, a_listedUnit, a_listedAsLibrary, a_takenUnit, a_definition, a_isDuplicate, a_isWanted, a_codeKind, a_codeValue, a_codePartner, a_functionOf, a_placeOf, a_memory, a_operands, a_pendingToken, a_pendingDue, a_locals, a_returnTo⟩ := u
  obtain ⟨g_place, g_culprit, g_listed, g_units, g_taken, g_used, g_depth, g_waiting, g_held, g_fault, g_steps, g_result, g_given, g_gift, g_has, b_kind, b_value, b_size, b_list, b_library, b_places, b_memory, b_wanted, b_pc, b_base, b_locals, b_waits, b_got, b_values⟩ := v
  have I' := i_el I
  obtain ⟨⟨c, c1, c2, c3, c4⟩, i2, i3, i4, ⟨n, m, tk, ln, D, B, pr, hR, hm⟩, i6⟩ := I'
  subst c2
  refine x_token c1 (fun h => y_token c1 c3 (fun _ => ?_) (fun z => absurd h z)) (fun h => y_token c1 c3 (fun z => absurd z h) (fun _ => ⟨rfl, I⟩))
  obtain ⟨hc, q, e, hp⟩ := h
  have h9 := hp.1
  refine ⟨rfl, i_mk ⟨⟨c + 1, by omega, rfl, pk_us, fun i hi => ?_⟩, fun u hu => ?_, i3, ⟨fun j hj => ?_, fun r hr => ?_⟩, ⟨n, m, tk, ln, D, B, pr, pR_ext (xMS_e.trans xMS_e.symm) (xCK_e.trans xCK_e.symm) (xCV_e.trans xCV_e.symm) (xCP_e.trans xCP_e.symm) (xFO_e.trans xFO_e.symm) (xPO_e.trans xPO_e.symm) (yUN_e.trans yUN_e.symm) (yUS_e.trans yUS_e.symm) (yPL_e.trans yPL_e.symm) (fun j hj => ⟨?_, ?_⟩) (fun r hr => ?_) hR, hm⟩, i6⟩⟩
  · by_cases z : i = c
    · subst z
      have ek : kn (upd b_kind (250 + i) v1) (250 + i) = q := by
        show (upd b_kind (250 + i) v1 (250 + i)).toNatClampNeg = q
        rw [pk_us, e, nI_clamp (by omega)]
      rw [ek, pk_us, pk_us, pk_us, pk_us]
      exact ⟨rfl, rfl, e, hp⟩
    · have ek : kn (upd b_kind (250 + c) v1) (250 + i) = kn b_kind (250 + i) := congrArg Int32.toNatClampNeg (pk_un (by omega))
      rw [ek, pk_un z, pk_un z, pk_un (by omega), pk_un (by omega)]
      exact c4 i hi
  · obtain ⟨cu, a, b, d⟩ := i2 u hu
    refine ⟨cu, a, by rw [pk_un (by omega)]; exact b, rl_row_ext d (fun i hi => ⟨rfl, rfl, rfl⟩) (fun i hi => ?_)⟩
    have := d.1
    exact ⟨pk_un (by omega), pk_un (by omega)⟩
  · by_cases z : j = 250 + c
    · rw [z, pk_us]; exact ⟨q, h9, e⟩
    · rw [pk_un z]; exact i4.1 j hj
  · by_cases z : r = 5
    · rw [z, pk_us]; exact ⟨c + 1, by omega, rfl⟩
    · rw [pk_un z]; exact i4.2 r hr
  · rw [yK_e, yK_e]; exact pk_un (by omega)
  · rw [yV_e, yV_e]; exact pk_un (by omega)
  · rw [yS_e, yS_e]; exact pk_un (by omega)
theorem pig5 : ∀ a b : Fin 5, a ≠ b → ∀ c : Fin 5, c ≠ a → c ≠ b → ∀ d : Fin 5, d ≠ a → d ≠ b → d ≠ c → ∀ e : Fin 5, e ≠ a → e ≠ b → e ≠ c → e ≠ d → ∀ u : Fin 5, u = a ∨ u = b ∨ u = c ∨ u = d ∨ u = e := by decide +kernel
theorem pig {lu : Nat → Int32} (h : ∀ i, i < 5 → ∃ u, u < 5 ∧ lu i = nI u) (hd : ∀ i j, i < j → j < 5 → lu i ≠ lu j) {u : Nat} (hu : u < 5) : ∃ i, i < 5 ∧ lu i = nI u := by
  obtain ⟨a, a1, a2⟩ := h 0 (by omega)
  obtain ⟨b, b1, b2⟩ := h 1 (by omega)
  obtain ⟨c, c1, c2⟩ := h 2 (by omega)
  obtain ⟨d, d1, d2⟩ := h 3 (by omega)
  obtain ⟨e, e1, e2⟩ := h 4 (by omega)
  have ne : ∀ {i j x y : Nat} (hx : x < 5) (hy : y < 5), i < j → j < 5 → lu i = nI x → lu j = nI y → (⟨y, hy⟩ : Fin 5) ≠ ⟨x, hx⟩ := by
    intro i j x y hx hy hij hj ex ey z
    have := congrArg Fin.val z
    exact hd i j hij hj (by rw [ex, ey]; exact congrArg nI this.symm)
  rcases pig5 ⟨a, a1⟩ ⟨b, b1⟩ (ne a1 b1 (by omega) (by omega) a2 b2).symm ⟨c, c1⟩ (ne a1 c1 (by omega) (by omega) a2 c2) (ne b1 c1 (by omega) (by omega) b2 c2) ⟨d, d1⟩ (ne a1 d1 (by omega) (by omega) a2 d2) (ne b1 d1 (by omega) (by omega) b2 d2) (ne c1 d1 (by omega) (by omega) c2 d2) ⟨e, e1⟩ (ne a1 e1 (by omega) (by omega) a2 e2) (ne b1 e1 (by omega) (by omega) b2 e2) (ne c1 e1 (by omega) (by omega) c2 e2) (ne d1 e1 (by omega) (by omega) d2 e2) ⟨u, hu⟩ with z | z | z | z | z
  · exact ⟨0, by omega, by rw [a2]; exact congrArg nI (congrArg Fin.val z).symm⟩
  · exact ⟨1, by omega, by rw [b2]; exact congrArg nI (congrArg Fin.val z).symm⟩
  · exact ⟨2, by omega, by rw [c2]; exact congrArg nI (congrArg Fin.val z).symm⟩
  · exact ⟨3, by omega, by rw [d2]; exact congrArg nI (congrArg Fin.val z).symm⟩
  · exact ⟨4, by omega, by rw [e2]; exact congrArg nI (congrArg Fin.val z).symm⟩
section
variable {f_draftCount f_openCount f_operandsDue f_faultPlace f_listCount f_takenCount f_culpritName f_memorySize f_operandCount f_pendingCount f_frameCount f_next f_outcome f_lastResult f_stepCount : Int32} {a_draftKind a_draftValue a_draftPartner a_openBlock a_unitKind a_unitValue a_unitPartner a_unitLength a_listedUnit a_listedAsLibrary a_takenUnit a_definition a_isDuplicate a_isWanted a_codeKind a_codeValue a_codePartner a_functionOf a_placeOf a_memory a_operands a_pendingToken a_pendingDue a_locals a_returnTo : Nat → Int32}
theorem x_incl {post : Int32 → SX → Prop} {n : Nat} {v1 v2 : Int32} (hn : n ≤ 5) (hb : (v1 < 0 ∨ nI 5 ≤ v1) → post 0 (f_draftCount, f_openCount, f_operandsDue, f_faultPlace, nI n, f_takenCount, f_culpritName, f_memorySize, f_operandCount, f_pendingCount, f_frameCount, f_next, f_outcome, f_lastResult, f_stepCount, a_draftKind, a_draftValue, a_draftPartner, a_openBlock, a_unitKind, a_unitValue, a_unitPartner, a_unitLength, a_listedUnit, a_listedAsLibrary, a_takenUnit, a_definition, a_isDuplicate, a_isWanted, a_codeKind, a_codeValue, a_codePartner, a_functionOf, a_placeOf, a_memory, a_operands, a_pendingToken, a_pendingDue, a_locals, a_returnTo)) (h0 : ∀ u, u < 5 → v1 = nI u → (∃ i, i < n ∧ a_listedUnit i = v1) → post 0 (f_draftCount, f_openCount, f_operandsDue, f_faultPlace, nI n, f_takenCount, f_culpritName, f_memorySize, f_operandCount, f_pendingCount, f_frameCount, f_next, f_outcome, f_lastResult, f_stepCount, a_draftKind, a_draftValue, a_draftPartner, a_openBlock, a_unitKind, a_unitValue, a_unitPartner, a_unitLength, a_listedUnit, a_listedAsLibrary, a_takenUnit, a_definition, a_isDuplicate, a_isWanted, a_codeKind, a_codeValue, a_codePartner, a_functionOf, a_placeOf, a_memory, a_operands, a_pendingToken, a_pendingDue, a_locals, a_returnTo)) (hf : ∀ u, u < 5 → v1 = nI u → ¬ (∃ i, i < n ∧ a_listedUnit i = v1) → n = 5 → post 0 (f_draftCount, f_openCount, f_operandsDue, f_faultPlace, nI n, f_takenCount, f_culpritName, f_memorySize, f_operandCount, f_pendingCount, f_frameCount, f_next, f_outcome, f_lastResult, f_stepCount, a_draftKind, a_draftValue, a_draftPartner, a_openBlock, a_unitKind, a_unitValue, a_unitPartner, a_unitLength, a_listedUnit, a_listedAsLibrary, a_takenUnit, a_definition, a_isDuplicate, a_isWanted, a_codeKind, a_codeValue, a_codePartner, a_functionOf, a_placeOf, a_memory, a_operands, a_pendingToken, a_pendingDue, a_locals, a_returnTo)) (h1 : ∀ u, u < 5 → v1 = nI u → ¬ (∃ i, i < n ∧ a_listedUnit i = v1) → n < 5 → post 1 (f_draftCount, f_openCount, f_operandsDue, f_faultPlace, nI (n + 1), f_takenCount, f_culpritName, f_memorySize, f_operandCount, f_pendingCount, f_frameCount, f_next, f_outcome, f_lastResult, f_stepCount, a_draftKind, a_draftValue, a_draftPartner, a_openBlock, a_unitKind, a_unitValue, a_unitPartner, a_unitLength, upd a_listedUnit n v1, upd a_listedAsLibrary n (vp_nar .boolean v2), a_takenUnit, a_definition, a_isDuplicate, a_isWanted, a_codeKind, a_codeValue, a_codePartner, a_functionOf, a_placeOf, a_memory, a_operands, a_pendingToken, a_pendingDue, a_locals, a_returnTo)) : wpX_include post (f_draftCount, f_openCount, f_operandsDue, f_faultPlace, nI n, f_takenCount, f_culpritName, f_memorySize, f_operandCount, f_pendingCount, f_frameCount, f_next, f_outcome, f_lastResult, f_stepCount, a_draftKind, a_draftValue, a_draftPartner, a_openBlock, a_unitKind, a_unitValue, a_unitPartner, a_unitLength, a_listedUnit, a_listedAsLibrary, a_takenUnit, a_definition, a_isDuplicate, a_isWanted, a_codeKind, a_codeValue, a_codePartner, a_functionOf, a_placeOf, a_memory, a_operands, a_pendingToken, a_pendingDue, a_locals, a_returnTo) v1 v2 := by
  unfold wpX_include
  have hlist : ∀ P : Int32 → Prop, ((∃ i, i < n ∧ a_listedUnit i = v1) → P 1) → (¬ (∃ i, i < n ∧ a_listedUnit i = v1) → P 0) → wpX_isListed P (f_draftCount, f_openCount, f_operandsDue, f_faultPlace, nI n, f_takenCount, f_culpritName, f_memorySize, f_operandCount, f_pendingCount, f_frameCount, f_next, f_outcome, f_lastResult, f_stepCount, a_draftKind, a_draftValue, a_draftPartner, a_openBlock, a_unitKind, a_unitValue, a_unitPartner, a_unitLength, a_listedUnit, a_listedAsLibrary, a_takenUnit, a_definition, a_isDuplicate, a_isWanted, a_codeKind, a_codeValue, a_codePartner, a_functionOf, a_placeOf, a_memory, a_operands, a_pendingToken, a_pendingDue, a_locals, a_returnTo) v1 := by
    intro P p1 p0
    have key : ∀ m i, i + m = n → (∀ j, j < i → a_listedUnit j ≠ v1) → wX_isListed_2 P v1 f_draftCount f_openCount f_operandsDue f_faultPlace (nI n) f_takenCount f_culpritName f_memorySize f_operandCount f_pendingCount f_frameCount f_next f_outcome f_lastResult f_stepCount a_draftKind a_draftValue a_draftPartner a_openBlock a_unitKind a_unitValue a_unitPartner a_unitLength a_listedUnit a_listedAsLibrary a_takenUnit a_definition a_isDuplicate a_isWanted a_codeKind a_codeValue a_codePartner a_functionOf a_placeOf a_memory a_operands a_pendingToken a_pendingDue a_locals a_returnTo (m + 1) (nI i) := by
      intro m
      induction m with
      | zero =>
        intro i hi hno
        exact br_t (nI_le (by omega) (by omega)) (p0 (fun ⟨j, a, b⟩ => hno j (by omega) b))
      | succ m ih =>
        intro i hi hno
        refine br_f (nI_ge (by omega) (by omega)) ⟨pk_in i 5 (by omega), ?_⟩
        rw [nI_clamp (show i < 2 ^ 31 by omega)]
        refine br_c (fun z => p1 ⟨i, by omega, z⟩) (fun z => nm_r (nI_1 i) (ih (i + 1) (by omega) (fun j hj => ?_)))
        by_cases y : j = i
        · rw [y]; exact z
        · exact hno j (by omega)
    exact ⟨n + 1, key n 0 (by omega) (fun j h => absurd h (by omega))⟩
  rcases pk_ix v1 (n := 5) (by omega) with z | z | ⟨u, hu, e⟩
  · exact br_t z (br_t rfl (hb (Or.inl z)))
  · exact br_c (fun _ => br_t rfl (hb (Or.inr z))) (fun _ => br_t z (br_t rfl (hb (Or.inr z))))
  · refine br_f (by rw [e]; exact nI_pos (by omega)) (br_f (by rw [e]; exact nI_ge (b := 5) hu (by omega)) (br_f (by decide) ?_))
    have hin : n < 5 → vp_in (nI n) 5 := fun h => pk_in n 5 h
    refine hlist _ (fun y => br_f (by decide) (h0 u hu e y)) (fun y => br_t rfl (pk_lt n 5 (fun w => ⟨hin w, nm_r (by rw [nI_clamp (by omega)]) ⟨hin w, nm_r (by rw [nI_clamp (by omega)]) (nm_r (nI_1 n) (h1 u hu e y w))⟩⟩) (fun w => hf u hu e y (by omega))))
end
section
variable {g_place g_culprit g_listed g_units g_taken g_used g_depth g_waiting g_held g_fault g_steps g_result g_given g_gift g_has : Int32} {b_kind b_value b_size b_list b_library b_places b_memory b_wanted b_pc b_base b_locals b_waits b_got b_values : Nat → Int32}
theorem y_incl {post : Int32 → SY → Prop} {n : Nat} {v1 v2 : Int32} (hn : n ≤ 5) (hb : (v1 < 0 ∨ nI 5 ≤ v1) → post 0 (g_place, g_culprit, nI n, g_units, g_taken, g_used, g_depth, g_waiting, g_held, g_fault, g_steps, g_result, g_given, g_gift, g_has, b_kind, b_value, b_size, b_list, b_library, b_places, b_memory, b_wanted, b_pc, b_base, b_locals, b_waits, b_got, b_values)) (h0 : ∀ u, u < 5 → v1 = nI u → (∃ i, i < n ∧ b_list i = v1) → post 0 (g_place, g_culprit, nI n, g_units, g_taken, g_used, g_depth, g_waiting, g_held, g_fault, g_steps, g_result, g_given, g_gift, g_has, b_kind, b_value, b_size, b_list, b_library, b_places, b_memory, b_wanted, b_pc, b_base, b_locals, b_waits, b_got, b_values)) (h1 : ∀ u, u < 5 → v1 = nI u → ¬ (∃ i, i < n ∧ b_list i = v1) → n < 5 ∧ post 1 (g_place, g_culprit, nI (n + 1), g_units, g_taken, g_used, g_depth, g_waiting, g_held, g_fault, g_steps, g_result, g_given, g_gift, g_has, b_kind, b_value, b_size, upd b_list n v1, upd b_library n (vp_nar .boolean v2), b_places, b_memory, b_wanted, b_pc, b_base, b_locals, b_waits, b_got, b_values)) : wpY_include post (g_place, g_culprit, nI n, g_units, g_taken, g_used, g_depth, g_waiting, g_held, g_fault, g_steps, g_result, g_given, g_gift, g_has, b_kind, b_value, b_size, b_list, b_library, b_places, b_memory, b_wanted, b_pc, b_base, b_locals, b_waits, b_got, b_values) v1 v2 := by
  unfold wpY_include
  refine y_outs (m := 5) (by omega) (fun u hu e => br_t rfl ⟨n + 1, ?_⟩) (fun z => br_f (by decide) (hb z))
  have key : ∀ m i, i + m = n → (∀ j, j < i → b_list j ≠ v1) → wY_include_12 post v1 v2 g_place g_culprit (nI n) g_units g_taken g_used g_depth g_waiting g_held g_fault g_steps g_result g_given g_gift g_has b_kind b_value b_size b_list b_library b_places b_memory b_wanted b_pc b_base b_locals b_waits b_got b_values (m + 1) (nI i) := by
    intro m
    induction m with
    | zero =>
      intro i hi hno
      obtain ⟨hn5, hp⟩ := h1 u hu e (fun ⟨j, a, b⟩ => hno j (by omega) b)
      have hin : vp_in (nI n) 5 := pk_in n 5 hn5
      refine br_t (nI_le (by omega) (by omega)) ⟨hin, nm_r (e' := upd b_list n v1) (by rw [nI_clamp (by omega), e, ba_nbb (by omega)]) (nm_r (nI_1 n) ⟨hin, nm_r (by rw [nI_clamp (by omega)]) hp⟩)⟩
    | succ m ih =>
      intro i hi hno
      refine br_f (nI_ge (by omega) (by omega)) ⟨pk_in i 5 (by omega), ?_⟩
      rw [nI_clamp (show i < 2 ^ 31 by omega)]
      refine br_c (fun z => h0 u hu e ⟨i, by omega, z⟩) (fun z => nm_r (nI_1 i) (ih (i + 1) (by omega) (fun j hj => ?_)))
      by_cases y : j = i
      · rw [y]; exact z
      · exact hno j (by omega)
  exact key n 0 (by omega) (fun j h => absurd h (by omega))
end
theorem i_vc_include {k : Nat} {u : SX} {v : SY} (I : i_Rel k u v) (hk : k + 5 ≤ 2560) (v1 : Int32) (v2 : Int32) : wpX_include (fun r u' => wpY_include (fun r' v' => r' = r ∧ i_Rel (k + 5) u' v') v v1 (lw_bz v2)) u v1 (lw_bz v2) := by
  obtain ⟨f_draftCount, f_openCount, f_operandsDue, f_faultPlace, f_listCount, f_takenCount, f_culpritName, f_memorySize, f_operandCount, f_pendingCount, f_frameCount, f_next, f_outcome, f_lastResult, f_stepCount, a_draftKind, a_draftValue, a_draftPartner, a_openBlock, a_unitKind, a_unitValue, a_unitPartner, a_unitLength, a_listedUnit, a_listedAsLibrary, a_takenUnit, a_definition, a_isDuplicate, a_isWanted, a_codeKind, a_codeValue, a_codePartner, a_functionOf, a_placeOf, a_memory, a_operands, a_pendingToken, a_pendingDue, a_locals, a_returnTo⟩ := u
  obtain ⟨g_place, g_culprit, g_listed, g_units, g_taken, g_used, g_depth, g_waiting, g_held, g_fault, g_steps, g_result, g_given, g_gift, g_has, b_kind, b_value, b_size, b_list, b_library, b_places, b_memory, b_wanted, b_pc, b_base, b_locals, b_waits, b_got, b_values⟩ := v
  have I' := i_el I
  obtain ⟨i1, i2, ⟨c, c1, c2, c3, c4, c5, c6, c7⟩, i4, ⟨n, m, tk, ln, D, B, pr, hR, hm⟩, i6⟩ := I'
  subst c2 c3 c4 c5
  refine x_incl c1 (fun z => y_incl c1 (fun _ => ⟨rfl, I⟩) (fun u hu e => absurd (ix_no (by omega) hu e z) id) (fun u hu e => absurd (ix_no (by omega) hu e z) id)) (fun u hu e z => y_incl c1 (fun w => absurd (ix_no (by omega) hu e w) id) (fun _ _ _ _ => ⟨rfl, I⟩) (fun _ _ _ w => absurd z w)) (fun u hu e z h5 => ?_) (fun u hu e z h5 => y_incl c1 (fun w => absurd (ix_no (by omega) hu e w) id) (fun _ _ _ w => absurd w z) (fun _ _ _ _ => ⟨h5, rfl, ?_⟩))
  · subst h5
    obtain ⟨i, a, b⟩ := pig c6 c7 hu
    exact absurd ⟨i, a, b.trans e.symm⟩ z
  · refine i_mk ⟨i1, i2, ⟨c + 1, by omega, rfl, rfl, rfl, rfl, fun i hi => ?_, fun i j hij hj => ?_⟩, i4, ⟨n, m, tk, ln, D, B, pr, pR_ext (xMS_e.trans xMS_e.symm) (xCK_e.trans xCK_e.symm) (xCV_e.trans xCV_e.symm) (xCP_e.trans xCP_e.symm) (xFO_e.trans xFO_e.symm) (xPO_e.trans xPO_e.symm) (yUN_e.trans yUN_e.symm) (yUS_e.trans yUS_e.symm) (yPL_e.trans yPL_e.symm) (fun j _ => ⟨congrFun (yK_e.trans yK_e.symm) j, congrFun (yV_e.trans yV_e.symm) j⟩) (fun j _ => congrFun (yS_e.trans yS_e.symm) j) hR, hm⟩, i6⟩
    · by_cases y : i = c
      · rw [y, pk_us]; exact ⟨u, hu, e⟩
      · rw [pk_un y]; exact c6 i hi
    · by_cases y : j = c
      · rw [y, pk_us, pk_un (by omega)]
        exact fun w => z ⟨i, by omega, w⟩
      · rw [pk_un y, pk_un (by omega)]; exact c7 i j hij (by omega)
