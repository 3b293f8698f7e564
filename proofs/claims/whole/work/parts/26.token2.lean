/-! token, listing, parameters -/
theorem tkP_a {c : Nat} {v : Int32} (hc : c = 1 ∨ c = 20) : tk_P c v ↔ ∃ m : Nat, m < 6 ∧ v = nI m :=
  ⟨fun h => h.2.2.1 hc, fun h => ⟨by omega, by omega, fun _ => h, by omega, by omega, by omega, by omega⟩⟩
theorem tkP_b {c : Nat} {v : Int32} (hc : c = 2 ∨ c = 3) : tk_P c v ↔ ∃ m : Nat, m < 12 ∧ v = nI m :=
  ⟨fun h => h.2.2.2.1 hc, fun h => ⟨by omega, by omega, by omega, fun _ => h, by omega, by omega, by omega⟩⟩
theorem tkP_5 {v : Int32} : tk_P 5 v ↔ ∃ m : Nat, m < 64 ∧ m % 16 < 12 ∧ v = nI m :=
  ⟨fun h => h.2.2.2.2.1 rfl, fun h => ⟨by omega, by omega, by omega, by omega, fun _ => h, by omega, by omega⟩⟩
theorem tkP_28 {v : Int32} : tk_P 28 v ↔ ∃ m : Nat, m < 128 ∧ m % 16 < 12 ∧ v = nI m :=
  ⟨fun h => h.2.2.2.2.2.1 rfl, fun h => ⟨by omega, by omega, by omega, by omega, by omega, fun _ => h, by omega⟩⟩
theorem tkP_29 {v : Int32} : tk_P 29 v ↔ ∃ m : Nat, m < 256 ∧ m % 16 < 12 ∧ v = nI m :=
  ⟨fun h => h.2.2.2.2.2.2 rfl, fun h => ⟨by omega, by omega, by omega, by omega, by omega, by omega, fun _ => h⟩⟩
theorem tkP_o {c : Nat} {v : Int32} (h1 : c ≤ 29) (h2 : c ≠ 19) (h3 : c ≠ 1) (h4 : c ≠ 20) (h5 : c ≠ 2) (h6 : c ≠ 3) (h7 : c ≠ 5) (h8 : c ≠ 28) (h9 : c ≠ 29) : tk_P c v := ⟨h1, h2, by omega, by omega, by omega, by omega, by omega⟩
theorem x_rng {post : Int32 → Prop} {v : Int32} {N : Nat} (hN : N < 2 ^ 31) (h1 : (∃ m, m < N ∧ v = nI m) → post 1) (h0 : ¬ (∃ m, m < N ∧ v = nI m) → post 0) : ((v < 0 → post 0) ∧ (¬ v < 0 → ((nI N ≤ v → post 0) ∧ (¬ nI N ≤ v → post 1)))) := by
  rcases pk_ix v (n := N) hN with z | z | ⟨q, hq, e⟩
  · exact br_t z (h0 (fun ⟨m, a, b⟩ => ix_no hN a b (Or.inl z)))
  · exact br_c (fun _ => h0 (fun ⟨m, a, b⟩ => ix_no hN a b (Or.inr z))) (fun _ => br_t z (h0 (fun ⟨m, a, b⟩ => ix_no hN a b (Or.inr z))))
  · exact br_f (by rw [e]; exact nI_pos (by omega)) (br_f (by rw [e]; exact nI_ge hq hN) (h1 ⟨q, hq, e⟩))
theorem x_nmd {post : Int32 → Prop} {v : Int32} {N : Nat} (hN : N < 2 ^ 31) (h1 : (∃ m, m < N ∧ m % 16 < 12 ∧ v = nI m) → post 1) (h0 : ¬ (∃ m, m < N ∧ m % 16 < 12 ∧ v = nI m) → post 0) : ((v < 0 → post 0) ∧ (¬ v < 0 → ((nI N ≤ v → post 0) ∧ (¬ nI N ≤ v → ((12 ≤ v &&& 15 → post 0) ∧ (¬ 12 ≤ v &&& 15 → post 1)))))) := by
  rcases pk_ix v (n := N) hN with z | z | ⟨q, hq, e⟩
  · exact br_t z (h0 (fun ⟨m, a, _, b⟩ => ix_no hN a b (Or.inl z)))
  · exact br_c (fun _ => h0 (fun ⟨m, a, _, b⟩ => ix_no hN a b (Or.inr z))) (fun _ => br_t z (h0 (fun ⟨m, a, _, b⟩ => ix_no hN a b (Or.inr z))))
  · subst e
    refine br_f (nI_pos (by omega)) (br_f (nI_ge hq hN) ?_)
    rw [ba_and15 (by omega)]
    refine pk_le 12 (q % 16) (fun z => h0 (fun ⟨m, a, b, c⟩ => ?_)) (fun z => h1 ⟨q, hq, z, rfl⟩)
    have := ba_inj (by omega) (by omega) c
    subst this
    omega
theorem x_kind {post : Int32 → Prop} {v : Int32} (h1 : ∀ c, v = nI c → c ≤ 29 → c ≠ 19 → post 1) (h0 : (∀ c, v = nI c → ¬ (c ≤ 29 ∧ c ≠ 19)) → post 0) : wpX_isKind post v := by
  by_cases z : v < 0
  · refine br_t z (br_t (Int32.lt_trans z (by decide)) (h0 (fun c e q => ?_)))
    rw [e] at z
    exact nI_pos (by omega) z
  · obtain ⟨c, hc, e⟩ := nI_of z
    subst e
    have hno : ¬ (c ≤ 29 ∧ c ≠ 19) → post 0 := fun q => h0 (fun c' e' q' => by
      have := ba_inj hc (by omega) e'
      subst this
      exact q q')
    exact br_f z (pk_le c 18 (fun y => h1 c rfl (by omega) (by omega)) (fun y => pk_lt c 20 (fun y2 => hno (by omega)) (fun y2 => pk_lt 29 c (fun y3 => hno (by omega)) (fun y3 => h1 c rfl (by omega) (by omega)))))
theorem x_val {post : Int32 → Prop} {c : Nat} {v : Int32} (hc : c ≤ 29) (hc2 : c ≠ 19) (h1 : tk_P c v → post 1) (h0 : ¬ tk_P c v → post 0) : wpX_isValueFor post (nI c) v := by
  have h68 : (c = 1 ∨ c = 20) → wX_isValueFor_68 post v := fun z => x_rng (N := 6) (by omega) (fun q => h1 ((tkP_a z).mpr q)) (fun q => h0 (fun y => q ((tkP_a z).mp y)))
  have h84 : (c = 2 ∨ c = 3) → wX_isValueFor_84 post v := fun z => x_name (fun q hq e => ⟨rfl, h1 ((tkP_b z).mpr ⟨q, hq, e⟩)⟩) (fun y => ⟨rfl, h0 (fun w => by obtain ⟨m, a, b⟩ := (tkP_b z).mp w; exact ix_no (by omega) a b y)⟩)
  refine pk_eq c 1 (fun z => h68 (Or.inl z)) (fun z1 => pk_eq c 2 (fun z => h84 (Or.inl z)) (fun z2 => pk_eq c 3 (fun z => h84 (Or.inr z)) (fun z3 => pk_eq c 5 (fun z => ?_) (fun z5 => pk_eq c 20 (fun z => h68 (Or.inr z)) (fun z20 => pk_eq c 28 (fun z => ?_) (fun z28 => pk_eq c 29 (fun z => ?_) (fun z29 => h1 (tkP_o hc hc2 z1 z20 z2 z3 z5 z28 z29))))))))
  · subst z
    exact x_nmd (N := 64) (by omega) (fun q => h1 (tkP_5.mpr q)) (fun q => h0 (fun y => q (tkP_5.mp y)))
  · subst z
    exact x_nmd (N := 128) (by omega) (fun q => h1 (tkP_28.mpr q)) (fun q => h0 (fun y => q (tkP_28.mp y)))
  · subst z
    exact x_nmd (N := 256) (by omega) (fun q => h1 (tkP_29.mpr q)) (fun q => h0 (fun y => q (tkP_29.mp y)))
theorem y_nmd {post : Int32 → Prop} {v : Int32} {N : Nat} (hN : N < 2 ^ 31) (h1 : (∃ m, m < N ∧ m % 16 < 12 ∧ v = nI m) → post 1) (h0 : ¬ (∃ m, m < N ∧ m % 16 < 12 ∧ v = nI m) → post 0) : wpY_named post v (nI N) := x_nmd hN h1 h0
/-- what token takes -/
def tk_ok (c : Nat) (v1 v2 : Int32) : Prop := c < 50 ∧ ∃ q, v1 = nI q ∧ tk_P q v2
section
variable {f_draftCount f_openCount f_operandsDue f_faultPlace f_listCount f_takenCount f_culpritName f_memorySize f_operandCount f_pendingCount f_frameCount f_next f_outcome f_lastResult f_stepCount : Int32} {a_draftKind a_draftValue a_draftPartner a_openBlock a_unitKind a_unitValue a_unitPartner a_unitLength a_listedUnit a_listedAsLibrary a_takenUnit a_definition a_isDuplicate a_isWanted a_codeKind a_codeValue a_codePartner a_functionOf a_placeOf a_memory a_operands a_pendingToken a_pendingDue a_locals a_returnTo : Nat → Int32}
theorem x_token {post : Int32 → SX → Prop} {c : Nat} {v1 v2 : Int32} (hc : c ≤ 50) (h1 : tk_ok c v1 v2 → post 1 (nI (c + 1), f_openCount, f_operandsDue, f_faultPlace, f_listCount, f_takenCount, f_culpritName, f_memorySize, f_operandCount, f_pendingCount, f_frameCount, f_next, f_outcome, f_lastResult, f_stepCount, upd a_draftKind c v1, upd a_draftValue c v2, a_draftPartner, a_openBlock, a_unitKind, a_unitValue, a_unitPartner, a_unitLength, a_listedUnit, a_listedAsLibrary, a_takenUnit, a_definition, a_isDuplicate, a_isWanted, a_codeKind, a_codeValue, a_codePartner, a_functionOf, a_placeOf, a_memory, a_operands, a_pendingToken, a_pendingDue, a_locals, a_returnTo)) (h0 : ¬ tk_ok c v1 v2 → post 0 (nI c, f_openCount, f_operandsDue, f_faultPlace, f_listCount, f_takenCount, f_culpritName, f_memorySize, f_operandCount, f_pendingCount, f_frameCount, f_next, f_outcome, f_lastResult, f_stepCount, a_draftKind, a_draftValue, a_draftPartner, a_openBlock, a_unitKind, a_unitValue, a_unitPartner, a_unitLength, a_listedUnit, a_listedAsLibrary, a_takenUnit, a_definition, a_isDuplicate, a_isWanted, a_codeKind, a_codeValue, a_codePartner, a_functionOf, a_placeOf, a_memory, a_operands, a_pendingToken, a_pendingDue, a_locals, a_returnTo)) : wpX_token post (nI c, f_openCount, f_operandsDue, f_faultPlace, f_listCount, f_takenCount, f_culpritName, f_memorySize, f_operandCount, f_pendingCount, f_frameCount, f_next, f_outcome, f_lastResult, f_stepCount, a_draftKind, a_draftValue, a_draftPartner, a_openBlock, a_unitKind, a_unitValue, a_unitPartner, a_unitLength, a_listedUnit, a_listedAsLibrary, a_takenUnit, a_definition, a_isDuplicate, a_isWanted, a_codeKind, a_codeValue, a_codePartner, a_functionOf, a_placeOf, a_memory, a_operands, a_pendingToken, a_pendingDue, a_locals, a_returnTo) v1 v2 := by
  unfold wpX_token
  refine pk_le 50 c (fun z => h0 (fun q => by have := q.1; omega)) (fun z => ?_)
  refine x_kind (fun q e q1 q2 => br_f (by decide) ?_) (fun y => br_t rfl (h0 (fun ⟨_, q, e, p⟩ => y q e ⟨p.1, p.2.1⟩)))
  have hin : vp_in (nI c) 50 := pk_in c 50 z
  have ec : (nI c).toNatClampNeg = c := nI_clamp (by omega)
  have key : wpX_isValueFor (fun r_4 => (r_4 = 0 → post 0 (nI c, f_openCount, f_operandsDue, f_faultPlace, f_listCount, f_takenCount, f_culpritName, f_memorySize, f_operandCount, f_pendingCount, f_frameCount, f_next, f_outcome, f_lastResult, f_stepCount, a_draftKind, a_draftValue, a_draftPartner, a_openBlock, a_unitKind, a_unitValue, a_unitPartner, a_unitLength, a_listedUnit, a_listedAsLibrary, a_takenUnit, a_definition, a_isDuplicate, a_isWanted, a_codeKind, a_codeValue, a_codePartner, a_functionOf, a_placeOf, a_memory, a_operands, a_pendingToken, a_pendingDue, a_locals, a_returnTo)) ∧ (¬ r_4 = 0 → (vp_in (nI c) 50 ∧ ∀ a_7 : Nat → Int32, a_7 = upd a_draftKind (nI c).toNatClampNeg v1 → (vp_in (nI c) 50 ∧ ∀ a_9 : Nat → Int32, a_9 = upd a_draftValue (nI c).toNatClampNeg v2 → ∀ f_10 : Int32, f_10 = nI c + 1 → post 1 (f_10, f_openCount, f_operandsDue, f_faultPlace, f_listCount, f_takenCount, f_culpritName, f_memorySize, f_operandCount, f_pendingCount, f_frameCount, f_next, f_outcome, f_lastResult, f_stepCount, a_7, a_9, a_draftPartner, a_openBlock, a_unitKind, a_unitValue, a_unitPartner, a_unitLength, a_listedUnit, a_listedAsLibrary, a_takenUnit, a_definition, a_isDuplicate, a_isWanted, a_codeKind, a_codeValue, a_codePartner, a_functionOf, a_placeOf, a_memory, a_operands, a_pendingToken, a_pendingDue, a_locals, a_returnTo))))) (nI q) v2 := by
    refine x_val q1 q2 (fun p => br_f (by decide) ⟨hin, nm_r (by rw [ec]) ⟨hin, nm_r (by rw [ec]) (nm_r (nI_1 c) (h1 ⟨z, q, e, p⟩))⟩⟩) (fun p => br_t rfl (h0 (fun ⟨_, q', e', p'⟩ => ?_)))
    have := ba_inj (by omega) (by have := p'.1; omega) (e.symm.trans e')
    subst this
    exact p p'
  rw [← e] at key
  exact key
end
section
variable {g_place g_culprit g_listed g_units g_taken g_used g_depth g_waiting g_held g_fault g_steps g_result g_given g_gift g_has : Int32} {b_kind b_value b_size b_list b_library b_places b_memory b_wanted b_pc b_base b_locals b_waits b_got b_values : Nat → Int32}
theorem y_token {post : Int32 → SY → Prop} {c : Nat} {v1 v2 : Int32} (hc : c ≤ 50) (hs : b_size 5 = nI c) (h1 : tk_ok c v1 v2 → post 1 (g_place, g_culprit, g_listed, g_units, g_taken, g_used, g_depth, g_waiting, g_held, g_fault, g_steps, g_result, g_given, g_gift, g_has, upd b_kind (250 + c) v1, upd b_value (250 + c) v2, upd b_size 5 (nI (c + 1)), b_list, b_library, b_places, b_memory, b_wanted, b_pc, b_base, b_locals, b_waits, b_got, b_values)) (h0 : ¬ tk_ok c v1 v2 → post 0 (g_place, g_culprit, g_listed, g_units, g_taken, g_used, g_depth, g_waiting, g_held, g_fault, g_steps, g_result, g_given, g_gift, g_has, b_kind, b_value, b_size, b_list, b_library, b_places, b_memory, b_wanted, b_pc, b_base, b_locals, b_waits, b_got, b_values)) : wpY_token post (g_place, g_culprit, g_listed, g_units, g_taken, g_used, g_depth, g_waiting, g_held, g_fault, g_steps, g_result, g_given, g_gift, g_has, b_kind, b_value, b_size, b_list, b_library, b_places, b_memory, b_wanted, b_pc, b_base, b_locals, b_waits, b_got, b_values) v1 v2 := by
  by_cases z : v1 < 0
  · refine br_t z (h0 (fun ⟨_, q, e, p⟩ => ?_))
    have := p.1
    rw [e] at z
    exact nI_pos (by omega) z
  · obtain ⟨q, hq, e⟩ := nI_of z
    subst e
    have hno : ¬ tk_P q v2 → post 0 (g_place, g_culprit, g_listed, g_units, g_taken, g_used, g_depth, g_waiting, g_held, g_fault, g_steps, g_result, g_given, g_gift, g_has, b_kind, b_value, b_size, b_list, b_library, b_places, b_memory, b_wanted, b_pc, b_base, b_locals, b_waits, b_got, b_values) := fun y => h0 (fun ⟨_, q', e', p'⟩ => by
      have := ba_inj hq (by have := p'.1; omega) e'
      subst this
      exact y p')
    refine br_f z (pk_lt 29 q (fun y => hno (fun p => by have := p.1; omega)) (fun y => pk_eq q 19 (fun y2 => hno (fun p => absurd y2 p.2.1)) (fun y2 => ?_)))
    rw [hs]
    refine pk_eq c 50 (fun y3 => h0 (fun w => by have := w.1; omega)) (fun y3 => ?_)
    have e1 : (250 : Int32) + b_size 5 = nI (250 + c) := by rw [hs]; exact nI_add 250 c
    have ec : ((250 : Int32) + b_size 5).toNatClampNeg = 250 + c := by rw [e1, nI_clamp (by omega)]
    have h118 : tk_P q v2 → wY_token_118 post (nI q) v2 g_place g_culprit g_listed g_units g_taken g_used g_depth g_waiting g_held g_fault g_steps g_result g_given g_gift g_has b_kind b_value b_size b_list b_library b_places b_memory b_wanted b_pc b_base b_locals b_waits b_got b_values := by
      intro p
      refine ⟨pk_in (250 + c) 800 (by omega) e1, nm_r (e' := upd b_kind (250 + c) (nI q)) (by rw [ec, ba_nbb (by omega)]) (nm_r (e' := upd b_size 5 (nI (c + 1))) (by rw [hs, nI_1, ba_nbb (by omega)]) ⟨pk_in (250 + c) 800 (by omega) e1, nm_r (e' := upd b_value (250 + c) v2) (by rw [ec]) (h1 ⟨by omega, q, rfl, p⟩)⟩)⟩
    have h100 : q ≠ 1 → q ≠ 20 → q ≠ 2 → q ≠ 3 → q ≠ 5 → q ≠ 28 → wY_token_100 post (nI q) v2 g_place g_culprit g_listed g_units g_taken g_used g_depth g_waiting g_held g_fault g_steps g_result g_given g_gift g_has b_kind b_value b_size b_list b_library b_places b_memory b_wanted b_pc b_base b_locals b_waits b_got b_values := by
      intro a1 a2 a3 a4 a5 a6
      refine pk_eq q 29 (fun w => ?_) (fun w => h118 (tkP_o y y2 a1 a2 a3 a4 a5 a6 w))
      subst w
      exact y_nmd (N := 256) (by omega) (fun p => br_f (by decide) (h118 (tkP_29.mpr p))) (fun p => br_t rfl (hno (fun w => p (tkP_29.mp w))))
    have h84 : q ≠ 1 → q ≠ 20 → q ≠ 2 → q ≠ 3 → q ≠ 5 → wY_token_84 post (nI q) v2 g_place g_culprit g_listed g_units g_taken g_used g_depth g_waiting g_held g_fault g_steps g_result g_given g_gift g_has b_kind b_value b_size b_list b_library b_places b_memory b_wanted b_pc b_base b_locals b_waits b_got b_values := by
      intro a1 a2 a3 a4 a5
      refine pk_eq q 28 (fun w => ?_) (fun w => h100 a1 a2 a3 a4 a5 w)
      subst w
      exact y_nmd (N := 128) (by omega) (fun p => br_f (by decide) (br_f (by decide) (h118 (tkP_28.mpr p)))) (fun p => br_t rfl (hno (fun w => p (tkP_28.mp w))))
    have skip : q ≠ 5 → q ≠ 28 → q ≠ 29 → tk_P q v2 → wY_token_70 post (nI q) v2 g_place g_culprit g_listed g_units g_taken g_used g_depth g_waiting g_held g_fault g_steps g_result g_given g_gift g_has b_kind b_value b_size b_list b_library b_places b_memory b_wanted b_pc b_base b_locals b_waits b_got b_values := fun a1 a2 a3 p => br_f (ba_ne (b := 5) (by omega) (by omega) a1) (br_f (ba_ne (b := 28) (by omega) (by omega) a2) (br_f (ba_ne (b := 29) (by omega) (by omega) a3) (h118 p)))
    have h49 : q ≠ 1 → q ≠ 20 → wY_token_49 post (nI q) v2 g_place g_culprit g_listed g_units g_taken g_used g_depth g_waiting g_held g_fault g_steps g_result g_given g_gift g_has b_kind b_value b_size b_list b_library b_places b_memory b_wanted b_pc b_base b_locals b_waits b_got b_values := by
      intro a1 a2
      have h59 : (q = 2 ∨ q = 3) → wY_token_59 post (nI q) v2 g_place g_culprit g_listed g_units g_taken g_used g_depth g_waiting g_held g_fault g_steps g_result g_given g_gift g_has b_kind b_value b_size b_list b_library b_places b_memory b_wanted b_pc b_base b_locals b_waits b_got b_values := fun w => y_outs (m := 12) (by omega) (fun r hr e => br_t rfl (skip (by omega) (by omega) (by omega) ((tkP_b w).mpr ⟨r, hr, e⟩))) (fun x => br_f (by decide) (hno (fun p => by obtain ⟨r, hr, e⟩ := (tkP_b w).mp p; exact ix_no (by omega) hr e x)))
      refine pk_eq q 2 (fun w => h59 (Or.inl w)) (fun w2 => pk_eq q 3 (fun w => h59 (Or.inr w)) (fun w3 => pk_eq q 5 (fun w => ?_) (fun w => h84 a1 a2 w2 w3 w)))
      subst w
      exact y_nmd (N := 64) (by omega) (fun p => br_f (by decide) (br_f (by decide) (br_f (by decide) (h118 (tkP_5.mpr p))))) (fun p => br_t rfl (hno (fun w => p (tkP_5.mp w))))
    have h40 : (q = 1 ∨ q = 20) → wY_token_40 post (nI q) v2 g_place g_culprit g_listed g_units g_taken g_used g_depth g_waiting g_held g_fault g_steps g_result g_given g_gift g_has b_kind b_value b_size b_list b_library b_places b_memory b_wanted b_pc b_base b_locals b_waits b_got b_values := fun w => y_outs (m := 6) (by omega) (fun r hr e => br_t rfl (br_f (ba_ne (b := 2) (by omega) (by omega) (by omega)) (br_f (ba_ne (b := 3) (by omega) (by omega) (by omega)) (skip (by omega) (by omega) (by omega) ((tkP_a w).mpr ⟨r, hr, e⟩))))) (fun x => br_f (by decide) (hno (fun p => by obtain ⟨r, hr, e⟩ := (tkP_a w).mp p; exact ix_no (by omega) hr e x)))
    exact pk_eq q 1 (fun w => h40 (Or.inl w)) (fun w1 => pk_eq q 20 (fun w => h40 (Or.inr w)) (fun w2 => h49 w1 w2))
end
