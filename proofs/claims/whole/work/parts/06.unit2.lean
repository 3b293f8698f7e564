/-! unit, both sides -/
theorem tb_sh : ∀ l, l < 32 → ((1 : Int32) <<< (nI l &&& 31)).toBitVec = BitVec.twoPow 32 l := by decide +kernel
theorem tb_tp : ∀ l, l < 32 → BitVec.twoPow 32 l ≠ 0#32 := by decide +kernel
theorem tb_and {x : Int32} {l : Nat} (hl : l < 16) : (x &&& ((1 : Int32) <<< (nI l &&& 31))) = 0 ↔ x.toBitVec.getLsbD l = false := by
  rw [← Int32.toBitVec_inj, Int32.toBitVec_and, tb_sh l (by omega), BitVec.and_twoPow]
  show _ = 0#32 ↔ _
  cases hb : x.toBitVec.getLsbD l
  · exact ⟨fun _ => rfl, fun _ => by simp⟩
  · exact ⟨fun z => absurd ((if_pos rfl).symm.trans z) (tb_tp l (by omega)), fun z => nomatch z⟩
theorem tb_or {x : Int32} {l n : Nat} (hl : l < 16) (hn : n < 16) : (x ||| ((1 : Int32) <<< (nI l &&& 31))).toBitVec.getLsbD n = (x.toBitVec.getLsbD n || decide (l = n)) := by
  rw [Int32.toBitVec_or, tb_sh l (by omega), BitVec.getLsbD_or, BitVec.getLsbD_twoPow]
  rw [decide_eq_true (show l < 32 by omega), Bool.true_and]
/-- the set of names seen -/
def tw_I (K V : Nat → Nat) (i : Nat) (s : Int32) : Prop := ∀ n, n < 16 → (s.toBitVec.getLsbD n = true ↔ ∃ j, j < i ∧ tw_d K j ∧ V j % 16 = n)
section
variable {f_draftCount f_openCount f_operandsDue f_faultPlace f_listCount f_takenCount f_culpritName f_memorySize f_operandCount f_pendingCount f_frameCount f_next f_outcome f_lastResult f_stepCount : Int32} {a_draftKind a_draftValue a_draftPartner a_openBlock a_unitKind a_unitValue a_unitPartner a_unitLength a_listedUnit a_listedAsLibrary a_takenUnit a_definition a_isDuplicate a_isWanted a_codeKind a_codeValue a_codePartner a_functionOf a_placeOf a_memory a_operands a_pendingToken a_pendingDue a_locals a_returnTo : Nat → Int32}
variable {K N V : Nat → Nat}
theorem xu_unit {post : Int32 → SX → Prop} {u c : Nat} (hu : u < 5) (hc : c ≤ 50) (hK : ∀ j, j < 50 → a_draftKind j = nI (K j)) (hP : ∀ j, j < 50 → tk_P (K j) (a_draftValue j)) (hN : ∀ j, j < 50 → N j = tk_n (K j) (a_draftValue j).toNatClampNeg) (hV : ∀ j, j < 50 → V j = (a_draftValue j).toNatClampNeg)
    (hS : ∀ r oc od ob pa, sk_SF K N c r → r ≠ -1 → post 1 (0, oc, od, r, f_listCount, f_takenCount, f_culpritName, f_memorySize, f_operandCount, f_pendingCount, f_frameCount, f_next, f_outcome, f_lastResult, f_stepCount, a_draftKind, a_draftValue, pa, ob, a_unitKind, a_unitValue, a_unitPartner, a_unitLength, a_listedUnit, a_listedAsLibrary, a_takenUnit, a_definition, a_isDuplicate, a_isWanted, a_codeKind, a_codeValue, a_codePartner, a_functionOf, a_placeOf, a_memory, a_operands, a_pendingToken, a_pendingDue, a_locals, a_returnTo))
    (hT : ∀ r oc od ob pa, sk_SF K N c (-1) → tw_S K V c r → r ≠ -1 → post 2 (0, oc, od, r, f_listCount, f_takenCount, f_culpritName, f_memorySize, f_operandCount, f_pendingCount, f_frameCount, f_next, f_outcome, f_lastResult, f_stepCount, a_draftKind, a_draftValue, pa, ob, a_unitKind, a_unitValue, a_unitPartner, a_unitLength, a_listedUnit, a_listedAsLibrary, a_takenUnit, a_definition, a_isDuplicate, a_isWanted, a_codeKind, a_codeValue, a_codePartner, a_functionOf, a_placeOf, a_memory, a_operands, a_pendingToken, a_pendingDue, a_locals, a_returnTo))
    (hO : ∀ oc od ob pa, sk_SF K N c (-1) → sk_cl K pa c → tw_S K V c (-1) → post 0 (0, oc, od, f_faultPlace, f_listCount, f_takenCount, f_culpritName, f_memorySize, f_operandCount, f_pendingCount, f_frameCount, f_next, f_outcome, f_lastResult, f_stepCount, a_draftKind, a_draftValue, pa, ob, kd_w a_unitKind a_draftKind u c, kd_w a_unitValue a_draftValue u c, kd_w a_unitPartner (fun i => nI (50 * u) + pa i) u c, upd a_unitLength u (nI c), a_listedUnit, a_listedAsLibrary, a_takenUnit, a_definition, a_isDuplicate, a_isWanted, a_codeKind, a_codeValue, a_codePartner, a_functionOf, a_placeOf, a_memory, a_operands, a_pendingToken, a_pendingDue, a_locals, a_returnTo)) :
    wpX_unit post (nI c, f_openCount, f_operandsDue, f_faultPlace, f_listCount, f_takenCount, f_culpritName, f_memorySize, f_operandCount, f_pendingCount, f_frameCount, f_next, f_outcome, f_lastResult, f_stepCount, a_draftKind, a_draftValue, a_draftPartner, a_openBlock, a_unitKind, a_unitValue, a_unitPartner, a_unitLength, a_listedUnit, a_listedAsLibrary, a_takenUnit, a_definition, a_isDuplicate, a_isWanted, a_codeKind, a_codeValue, a_codePartner, a_functionOf, a_placeOf, a_memory, a_operands, a_pendingToken, a_pendingDue, a_locals, a_returnTo) (nI u) := by
  have hU : ∀ P : Int32 → Prop, P 1 → wpX_isUnit P (nI u) := fun P h => br_f (nI_pos (by omega)) (br_f (nI_ge (b := 5) hu (by omega)) h)
  unfold wpX_unit
  refine hU _ (br_f (by decide) ?_)
  unfold wpX_checkDraft
  refine xf_syntax hc hK hP hN (fun r oc od ob pa hSF hcl => ?_)
  refine br_c (fun e => ?_) (fun e => ?_)
  · subst e
    refine xd_second hc hK hP hV (fun r2 hr2 => br_c (fun e2 => ?_) (fun e2 => ?_))
    · subst e2
      refine br_t rfl (xu_keep hu hc ?_)
      exact hO oc od ob pa hSF (hcl rfl) hr2
    · exact br_f (by decide) (hT r2 oc od ob pa hSF hr2 e2)
  · exact br_f (by decide) (hS r oc od ob pa hSF e)
theorem xu_bad {post : Int32 → SX → Prop} {v : Int32} (hv : v < 0 ∨ nI 5 ≤ v) (h : post (-1) (f_draftCount, f_openCount, f_operandsDue, f_faultPlace, f_listCount, f_takenCount, f_culpritName, f_memorySize, f_operandCount, f_pendingCount, f_frameCount, f_next, f_outcome, f_lastResult, f_stepCount, a_draftKind, a_draftValue, a_draftPartner, a_openBlock, a_unitKind, a_unitValue, a_unitPartner, a_unitLength, a_listedUnit, a_listedAsLibrary, a_takenUnit, a_definition, a_isDuplicate, a_isWanted, a_codeKind, a_codeValue, a_codePartner, a_functionOf, a_placeOf, a_memory, a_operands, a_pendingToken, a_pendingDue, a_locals, a_returnTo)) : wpX_unit post (f_draftCount, f_openCount, f_operandsDue, f_faultPlace, f_listCount, f_takenCount, f_culpritName, f_memorySize, f_operandCount, f_pendingCount, f_frameCount, f_next, f_outcome, f_lastResult, f_stepCount, a_draftKind, a_draftValue, a_draftPartner, a_openBlock, a_unitKind, a_unitValue, a_unitPartner, a_unitLength, a_listedUnit, a_listedAsLibrary, a_takenUnit, a_definition, a_isDuplicate, a_isWanted, a_codeKind, a_codeValue, a_codePartner, a_functionOf, a_placeOf, a_memory, a_operands, a_pendingToken, a_pendingDue, a_locals, a_returnTo) v := by
  unfold wpX_unit
  refine br_c (fun _ => br_t rfl h) (fun hn => br_t (hv.resolve_left hn) (br_t rfl h))
end
section
variable {g_place g_culprit g_listed g_units g_taken g_used g_depth g_waiting g_held g_fault g_steps g_result g_given g_gift g_has : Int32} {b_kind b_value b_size b_list b_library b_places b_memory b_wanted b_pc b_base b_locals b_waits b_got b_values : Nat → Int32}
variable {K N V : Nat → Nat}
theorem yu_out {post : Int32 → Prop} {i n : Nat} (hi : i < n) (hn : n < 2 ^ 31) (h : post 0) : wpY_out post (nI i) (nI n) := br_f (nI_pos (by omega)) (br_t (nI_lt hi hn) h)
theorem yu_out1 {post : Int32 → Prop} {v w : Int32} (hv : v < 0 ∨ w ≤ v) (h : post 1) : wpY_out post v w := br_c (fun _ => h) (fun hn => br_f (Int32.not_lt.mpr (hv.resolve_left hn)) h)
theorem yu_bad {post : Int32 → SY → Prop} {v : Int32} (hv : v < 0 ∨ nI 5 ≤ v) (h : post (-1) (g_place, g_culprit, g_listed, g_units, g_taken, g_used, g_depth, g_waiting, g_held, g_fault, g_steps, g_result, g_given, g_gift, g_has, b_kind, b_value, b_size, b_list, b_library, b_places, b_memory, b_wanted, b_pc, b_base, b_locals, b_waits, b_got, b_values)) : wpY_unit post (g_place, g_culprit, g_listed, g_units, g_taken, g_used, g_depth, g_waiting, g_held, g_fault, g_steps, g_result, g_given, g_gift, g_has, b_kind, b_value, b_size, b_list, b_library, b_places, b_memory, b_wanted, b_pc, b_base, b_locals, b_waits, b_got, b_values) v := by
  unfold wpY_unit
  exact yu_out1 hv (br_f (by decide) h)
theorem yu_39 {post : Int32 → SY → Prop} {u c : Nat} {x4 : Int32} {r : Int32} {h : Nat} {fuel : Nat} (i : Nat) (hh : ¬ nI h = 0) (hp : wY_unit_115 post (nI u) r (nI h) g_place g_culprit g_listed g_units g_taken g_used g_depth g_waiting g_held g_fault g_steps g_result g_given g_gift g_has b_kind b_value b_size b_list b_library b_places b_memory b_wanted b_pc b_base b_locals b_waits b_got b_values) (hc : c ≤ 50) (hi : i ≤ 50) : wY_unit_39 post (nI u) (nI c) g_place g_culprit g_listed g_units g_taken g_used g_depth g_waiting g_held g_fault g_steps g_result g_given g_gift g_has b_kind b_value b_size b_list b_library b_places b_memory b_wanted b_pc b_base b_locals b_waits b_got b_values (fuel + 1) r x4 (nI h) (nI i) :=
  br_c (fun _ => hp) (fun _ => br_f hh hp)
theorem yu_S {post : Int32 → SY → Prop} {u c : Nat} {r : Int32} (hu : u < 5) (hc : c ≤ 50) (hs : b_size 5 = nI c) (hK : ∀ j, j < 50 → b_kind (250 + j) = nI (K j)) (hP : ∀ j, j < 50 → tk_P (K j) (b_value (250 + j))) (hN : ∀ j, j < 50 → N j = tk_n (K j) (b_value (250 + j)).toNatClampNeg)
    (hSF : sk_SF K N c r) (hr : r ≠ -1) (hp : ∀ w, post 1 (r, g_culprit, g_listed, g_units, g_taken, g_used, g_depth, g_waiting, g_held, g_fault, g_steps, g_result, g_given, g_gift, g_has, b_kind, b_value, upd b_size 5 0, b_list, b_library, b_places, b_memory, w, b_pc, b_base, b_locals, b_waits, b_got, b_values)) : wpY_unit post (g_place, g_culprit, g_listed, g_units, g_taken, g_used, g_depth, g_waiting, g_held, g_fault, g_steps, g_result, g_given, g_gift, g_has, b_kind, b_value, b_size, b_list, b_library, b_places, b_memory, b_wanted, b_pc, b_base, b_locals, b_waits, b_got, b_values) (nI u) := by
  unfold wpY_unit
  refine yu_out (n := 5) hu (by omega) (br_t rfl ?_)
  refine ym_misfit hc hs hK hP hN hSF (fun w => ?_)
  rcases sk_SF_r hSF with e | ⟨i, hi, e⟩
  · exact absurd e hr
  · refine nm_r hs (br_f (by rw [e]; exact nI_pos (by omega)) ⟨1, ?_⟩)
    exact yu_39 (h := 1) 0 (by decide) (br_f (by decide) (nm_r (e' := upd b_size 5 0) (congrArg (upd b_size 5) (ba_nb (n := 0) (by omega))) (hp w))) hc (by omega)
theorem yu_loop {post : Int32 → SY → Prop} {u c : Nat} {r : Int32} (hc : c ≤ 50) (hK : ∀ j, j < 50 → b_kind (250 + j) = nI (K j)) (hP : ∀ j, j < 50 → tk_P (K j) (b_value (250 + j))) (hV : ∀ j, j < 50 → V j = (b_value (250 + j)).toNatClampNeg)
    (hr : tw_S K V c r) (h0 : r = -1 → wY_unit_115 post (nI u) (-1) 0 g_place g_culprit g_listed g_units g_taken g_used g_depth g_waiting g_held g_fault g_steps g_result g_given g_gift g_has b_kind b_value b_size b_list b_library b_places b_memory b_wanted b_pc b_base b_locals b_waits b_got b_values) (h2 : r ≠ -1 → wY_unit_115 post (nI u) r 2 g_place g_culprit g_listed g_units g_taken g_used g_depth g_waiting g_held g_fault g_steps g_result g_given g_gift g_has b_kind b_value b_size b_list b_library b_places b_memory b_wanted b_pc b_base b_locals b_waits b_got b_values) :
    ∀ m i s, i + m = c → tw_I K V i s → (∀ j, j < i → tw_d K j → ¬ tw_b K V j) → wY_unit_39 post (nI u) (nI c) g_place g_culprit g_listed g_units g_taken g_used g_depth g_waiting g_held g_fault g_steps g_result g_given g_gift g_has b_kind b_value b_size b_list b_library b_places b_memory b_wanted b_pc b_base b_locals b_waits b_got b_values (m + 2) (-1) s 0 (nI i) := by
  intro m
  induction m with
  | zero =>
    intro i s hi hI hno
    refine br_t (nI_le (by omega) (by omega)) (h0 ?_)
    rcases hr with ⟨i', a, b, d, e, f⟩ | ⟨e, _⟩
    · exact absurd e (hno i' (by omega) d)
    · exact e
  | succ m ih =>
    intro i s hi hI hno
    have e1 : (250 : Int32) + nI i = nI (250 + i) := nI_add 250 i
    have e2 : ((250 : Int32) + nI i).toNatClampNeg = 250 + i := by rw [e1, nI_clamp (by omega)]
    have hin : vp_in ((250 : Int32) + nI i) 800 := pk_in (250 + i) 800 (by omega) e1
    have hPi := hP i (by omega)
    refine br_f (nI_ge (by omega) (by omega)) (br_t rfl ⟨hin, ?_⟩)
    rw [e2, hK i (by omega)]
    refine yd_isdef hPi.1 (fun hd => br_f (by decide) ⟨hin, ?_⟩) (fun hd => br_t rfl (nm_r (nI_1 i) ?_))
    · obtain ⟨hv1, hv2, hv3⟩ := tw_V hPi hd
      rw [← hV i (by omega)] at hv2 hv3
      refine nm_r (e' := (1 : Int32) <<< (nI (V i % 16) &&& 31)) (by rw [tw_V16 hPi hd, hV i (by omega)]) ?_
      refine br_c (fun hz => ?_) (fun hz => ?_)
      · rw [tb_and (by omega)] at hz
        have hnb : ¬ tw_b K V i := fun ⟨j, a, b, d⟩ => by
          have := (hI (V i % 16) (by omega)).mpr ⟨j, a, b, d⟩
          rw [hz] at this
          exact nomatch this
        refine nm_e (nm_r (nI_1 i) (ih (i + 1) _ (by omega) ?_ ?_))
        · intro n hn
          rw [tb_or (by omega) hn, Bool.or_eq_true, hI n hn, decide_eq_true_eq]
          constructor
          · rintro (⟨j, a, b, d⟩ | e)
            · exact ⟨j, by omega, b, d⟩
            · exact ⟨i, by omega, hd, e⟩
          · rintro ⟨j, a, b, d⟩
            by_cases z : j = i
            · subst z; exact Or.inr d
            · exact Or.inl ⟨j, by omega, b, d⟩
        · intro j a b
          by_cases z : j = i
          · subst z; exact hnb
          · exact hno j (by omega) b
      · rw [tb_and (by omega)] at hz
        have hb : tw_b K V i := by
          obtain ⟨j, a, b, d⟩ := (hI (V i % 16) (by omega)).mp (by cases h : s.toBitVec.getLsbD (V i % 16) with | false => exact absurd h hz | true => rfl)
          exact ⟨j, a, b, d⟩
        have er : r = nI i := by
          rcases hr with ⟨i', a, b, d, e, f⟩ | ⟨e, f⟩
          · have : i' = i := by
              by_cases x : i' < i
              · exact absurd e (hno i' x d)
              · by_cases y : i < i'
                · exact absurd hb (f i y hd)
                · omega
            rw [b, this]
          · exact absurd hb (f i (by omega) hd)
        refine nm_e (nm_r (nI_1 i) ?_)
        rw [← er]
        exact yu_39 (h := 2) (i + 1) (by decide) (h2 (by rw [er]; exact ba_m1 (by omega))) hc (by omega)
    · refine ih (i + 1) s (by omega) ?_ ?_
      · intro n hn
        rw [hI n hn]
        constructor
        · rintro ⟨j, a, b, d⟩; exact ⟨j, by omega, b, d⟩
        · rintro ⟨j, a, b, d⟩
          by_cases z : j = i
          · subst z; exact absurd b hd
          · exact ⟨j, by omega, b, d⟩
      · intro j a b
        by_cases z : j = i
        · subst z; exact absurd b hd
        · exact hno j (by omega) b
theorem yu_unit {post : Int32 → SY → Prop} {u c : Nat} {r : Int32} (hu : u < 5) (hc : c ≤ 50) (hs : b_size 5 = nI c) (hK : ∀ j, j < 50 → b_kind (250 + j) = nI (K j)) (hP : ∀ j, j < 50 → tk_P (K j) (b_value (250 + j))) (hN : ∀ j, j < 50 → N j = tk_n (K j) (b_value (250 + j)).toNatClampNeg) (hV : ∀ j, j < 50 → V j = (b_value (250 + j)).toNatClampNeg)
    (hSF : sk_SF K N c (-1)) (hr : tw_S K V c r)
    (hT : r ≠ -1 → ∀ w, post 2 (r, g_culprit, g_listed, g_units, g_taken, g_used, g_depth, g_waiting, g_held, g_fault, g_steps, g_result, g_given, g_gift, g_has, b_kind, b_value, upd b_size 5 0, b_list, b_library, b_places, b_memory, w, b_pc, b_base, b_locals, b_waits, b_got, b_values))
    (hO : r = -1 → ∀ w, post 0 (g_place, g_culprit, g_listed, g_units, g_taken, g_used, g_depth, g_waiting, g_held, g_fault, g_steps, g_result, g_given, g_gift, g_has, kd_w b_kind (fun i => b_kind (250 + i)) u 50, kd_w b_value (fun i => b_value (250 + i)) u 50, upd (upd b_size u (nI c)) 5 0, b_list, b_library, b_places, b_memory, w, b_pc, b_base, b_locals, b_waits, b_got, b_values)) : wpY_unit post (g_place, g_culprit, g_listed, g_units, g_taken, g_used, g_depth, g_waiting, g_held, g_fault, g_steps, g_result, g_given, g_gift, g_has, b_kind, b_value, b_size, b_list, b_library, b_places, b_memory, b_wanted, b_pc, b_base, b_locals, b_waits, b_got, b_values) (nI u) := by
  unfold wpY_unit
  refine yu_out (n := 5) hu (by omega) (br_t rfl ?_)
  refine ym_misfit hc hs hK hP hN hSF (fun w => ?_)
  refine nm_r hs (br_t (by decide) ⟨c + 2, ?_⟩)
  refine yu_loop hc hK hP hV hr (fun e => br_t rfl ?_) (fun e => br_f (by decide) (nm_r (e' := upd b_size 5 0) (congrArg (upd b_size 5) (ba_nb (n := 0) (by omega))) (hT e w))) c 0 0 (by omega) ?_ (fun j h => absurd h (by omega))
  · refine yu_copy (f := 5) (by omega) (by omega) (by omega) (fun i hi => ⟨K i, (hP i hi).1, hK i hi⟩) hs hc ?_
    refine nm_r (congrArg (upd (upd b_size u (nI c)) 5) (ba_nb (n := 0) (by omega))) ?_
    exact hO e w
  · intro n hn
    constructor
    · intro z
      exact absurd z (by simp)
    · rintro ⟨j, a, _⟩; exact absurd a (by omega)
end
