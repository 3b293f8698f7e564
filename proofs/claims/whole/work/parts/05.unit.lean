/-! compiling a unit -/
theorem sk_all {K N : Nat → Nat} : ∀ i, (∀ j, j < i → sk_fit K N j) → ∃ pa, sk_op K i (sk_st K i) ∧ sk_cl K pa i := by
  intro i
  induction i with
  | zero => exact fun _ => ⟨fun _ => 0, trivial, fun o h => absurd h (by omega), fun o h => absurd h (by omega)⟩
  | succ i ih =>
    intro h
    obtain ⟨pa, h1, h2⟩ := ih (fun j hj => h j (by omega))
    by_cases hB : K i = 28 ∨ K i = 22 ∨ K i = 24
    · exact ⟨pa, sk_stepB h1 h2 hB⟩
    · by_cases hC : K i = 23 ∨ K i = 27
      · obtain ⟨o, l, es, hko⟩ := sk_fit_close (h i (by omega)) hC
        rcases hC with e | e
        · exact ⟨_, sk_stepD h1 h2 es e (hko e)⟩
        · exact ⟨_, sk_stepC h1 h2 es e⟩
      · exact ⟨pa, sk_stepA h1 h2 (by omega) (by omega) (by omega) (by omega) (by omega)⟩
theorem sk_SF_no {K N : Nat → Nat} {c i : Nat} {r : Int32} (h : sk_SF K N c r) (hi : i < c) (hall : ∀ j, j < i → sk_fit K N j) (hn : ¬ sk_fit K N i) : r = nI i := by
  rcases h with ⟨i', h1, h2, h3, h4⟩ | ⟨h1, _⟩
  · by_cases a : i' < i
    · exact absurd (hall i' a) h4
    · by_cases b : i < i'
      · exact absurd (h3 i b) hn
      · rw [h2, show i' = i by omega]
  · exact absurd (h1 i hi) hn
theorem sk_SF_end {K N : Nat → Nat} {c : Nat} {r : Int32} (h : sk_SF K N c r) (hall : ∀ j, j < c → sk_fit K N j) : (sk_st K c = [] ∧ sk_d K N c = 0 → r = -1) ∧ (¬ (sk_st K c = [] ∧ sk_d K N c = 0) → r = nI c) := by
  rcases h with ⟨i', h1, h2, h3, h4⟩ | ⟨_, h⟩
  · exact absurd (hall i' h1) h4
  · rcases h with h | h
    · exact ⟨fun _ => h.2.2, fun z => absurd ⟨h.1, h.2.1⟩ z⟩
    · exact ⟨fun z => absurd z h.1, fun _ => h.2⟩
theorem sk_SF_m1 {K N : Nat → Nat} {c : Nat} (hc : c ≤ 50) (h : sk_SF K N c (-1)) : (∀ j, j < c → sk_fit K N j) ∧ sk_st K c = [] := by
  rcases h with ⟨i', h1, h2, h3, h4⟩ | ⟨h1, h⟩
  · exact absurd h2.symm (ba_m1 (by omega))
  · rcases h with h | h
    · exact ⟨h1, h.1⟩
    · exact absurd h.2.symm (ba_m1 (by omega))
theorem sk_SF_r {K N : Nat → Nat} {c : Nat} {r : Int32} (h : sk_SF K N c r) : r = -1 ∨ ∃ i, i ≤ c ∧ r = nI i := by
  rcases h with ⟨i', h1, h2, _⟩ | ⟨_, h⟩
  · exact Or.inr ⟨i', by omega, h2⟩
  · rcases h with h | h
    · exact Or.inl h.2.2
    · exact Or.inr ⟨c, Nat.le_refl _, h.2⟩
section
variable {g_place g_culprit g_listed g_units g_taken g_used g_depth g_waiting g_held g_fault g_steps g_result g_given g_gift g_has : Int32} {b_kind b_value b_size b_list b_library b_places b_memory b_wanted b_pc b_base b_locals b_waits b_got b_values : Nat → Int32}
variable {K N : Nat → Nat}
theorem ym_loop {post : Int32 → SY → Prop} {c : Nat} {r : Int32} (hc : c ≤ 50) (hs : b_size 5 = nI c) (hK : ∀ j, j < 50 → b_kind (250 + j) = nI (K j)) (hP : ∀ j, j < 50 → tk_P (K j) (b_value (250 + j))) (hN : ∀ j, j < 50 → N j = tk_n (K j) (b_value (250 + j)).toNatClampNeg) (hSF : sk_SF K N c r) (hp : ∀ w, post r (g_place, g_culprit, g_listed, g_units, g_taken, g_used, g_depth, g_waiting, g_held, g_fault, g_steps, g_result, g_given, g_gift, g_has, b_kind, b_value, b_size, b_list, b_library, b_places, b_memory, w, b_pc, b_base, b_locals, b_waits, b_got, b_values)) :
    ∀ m i w, i + m = c → ym_I K N i w → (∀ j, j < i → sk_fit K N j) → wY_misfit_4 post g_place g_culprit g_listed g_units g_taken g_used g_depth g_waiting g_held g_fault g_steps g_result g_given g_gift g_has (m + 1) (nI ((sk_st K i).length + sk_d K N i)) (nI i) b_kind b_value b_size b_list b_library b_places b_memory w b_pc b_base b_locals b_waits b_got b_values := by
  have hN3 : ∀ j, j < 50 → N j ≤ 3 := fun j hj => by rw [hN j hj]; exact tk_n3 (hP j hj)
  intro m
  induction m with
  | zero =>
    intro i w hi hI hall
    have hic : i = c := by omega
    subst hic
    have hdb : sk_d K N i ≤ 3 * i := sk_d_le i (fun j hj => hN3 j (by omega))
    have hb := sk_B_le K i
    have he := sk_SF_end hSF hall
    refine br_t (by rw [hs]; exact nI_le (Nat.le_refl _) (by omega)) (pk_le ((sk_st K i).length + sk_d K N i) 0 (fun hz => ?_) (fun hz => ?_))
    · rw [← he.1 ⟨List.eq_nil_of_length_eq_zero (by omega), by omega⟩]
      exact hp w
    · rw [hs, ← he.2 (fun z => by rw [z.1, z.2] at hz; exact absurd hz (by decide))]
      exact hp w
  | succ m ih =>
    intro i w hi hI hall
    have hdb : sk_d K N i ≤ 3 * i := sk_d_le i (fun j hj => hN3 j (by omega))
    obtain ⟨_, hop, _⟩ := sk_all i hall
    have e1 : (250 : Int32) + nI i = nI (250 + i) := nI_add 250 i
    refine br_f (by rw [hs]; exact nI_ge (by omega) (by omega)) ⟨pk_in (250 + i) 800 (by omega) e1, nm_r (e' := nI (K i)) (by rw [e1, nI_clamp (by omega), hK i (by omega)]) ?_⟩
    refine ym_body (by omega) (hK i (by omega)) (hP i (by omega)) (hN i (by omega)) hdb hI hop hall (fun hf w' hI' => ?_) (fun hf => ?_)
    · exact ih (i + 1) w' (by omega) hI' (fun j hj => by
        by_cases z : j = i
        · rw [z]; exact hf
        · exact hall j (by omega))
    · rw [← sk_SF_no hSF (by omega) hall hf]
      exact hp w
theorem ym_misfit {post : Int32 → SY → Prop} {c : Nat} {r : Int32} (hc : c ≤ 50) (hs : b_size 5 = nI c) (hK : ∀ j, j < 50 → b_kind (250 + j) = nI (K j)) (hP : ∀ j, j < 50 → tk_P (K j) (b_value (250 + j))) (hN : ∀ j, j < 50 → N j = tk_n (K j) (b_value (250 + j)).toNatClampNeg) (hSF : sk_SF K N c r) (hp : ∀ w, post r (g_place, g_culprit, g_listed, g_units, g_taken, g_used, g_depth, g_waiting, g_held, g_fault, g_steps, g_result, g_given, g_gift, g_has, b_kind, b_value, b_size, b_list, b_library, b_places, b_memory, w, b_pc, b_base, b_locals, b_waits, b_got, b_values)) : wpY_misfit post (g_place, g_culprit, g_listed, g_units, g_taken, g_used, g_depth, g_waiting, g_held, g_fault, g_steps, g_result, g_given, g_gift, g_has, b_kind, b_value, b_size, b_list, b_library, b_places, b_memory, b_wanted, b_pc, b_base, b_locals, b_waits, b_got, b_values) :=
  ⟨c + 1, ym_loop hc hs hK hP hN hSF hp c 0 b_wanted (by omega) ⟨trivial, fun j _ h => absurd h (Nat.not_lt_zero _)⟩ (fun j h => absurd h (by omega))⟩
end
/-! a name defined twice -/
def tw_d (K : Nat → Nat) (i : Nat) : Prop := K i = 28 ∨ K i = 29
def tw_b (K V : Nat → Nat) (i : Nat) : Prop := ∃ j, j < i ∧ tw_d K j ∧ V j % 16 = V i % 16
def tw_S (K V : Nat → Nat) (c : Nat) (r : Int32) : Prop := (∃ i, i < c ∧ r = nI i ∧ tw_d K i ∧ tw_b K V i ∧ ∀ j, j < i → tw_d K j → ¬ tw_b K V j) ∨ (r = -1 ∧ ∀ j, j < c → tw_d K j → ¬ tw_b K V j)
theorem tw_V {c : Nat} {v : Int32} (h : tk_P c v) (hc : c = 28 ∨ c = 29) : v = nI v.toNatClampNeg ∧ v.toNatClampNeg < 256 ∧ v.toNatClampNeg % 16 < 12 := by
  rcases hc with e | e
  · obtain ⟨m, a, b, rfl⟩ := h.2.2.2.2.2.1 e
    rw [nI_clamp (by omega)]
    exact ⟨rfl, by omega, b⟩
  · obtain ⟨m, a, b, rfl⟩ := h.2.2.2.2.2.2 e
    rw [nI_clamp (by omega)]
    exact ⟨rfl, by omega, b⟩
theorem tw_V16 {c : Nat} {v : Int32} (h : tk_P c v) (hc : c = 28 ∨ c = 29) : v &&& 15 = nI (v.toNatClampNeg % 16) := by
  obtain ⟨a, b, _⟩ := tw_V h hc
  have := ba_and15 (n := v.toNatClampNeg) (by omega)
  rw [← a] at this
  exact this
theorem xd_isdef {post : Int32 → Prop} {k : Nat} (hk : k ≤ 29) (h1 : (k = 28 ∨ k = 29) → post 1) (h0 : ¬ (k = 28 ∨ k = 29) → post 0) : wpX_isDefinition post (nI k) :=
  pk_eq k 28 (fun e => h1 (Or.inl e)) (fun e => pk_eq k 29 (fun e2 => h1 (Or.inr e2)) (fun e2 => h0 (by omega)))
theorem yd_isdef {post : Int32 → Prop} {k : Nat} (hk : k ≤ 29) (h1 : (k = 28 ∨ k = 29) → post 1) (h0 : ¬ (k = 28 ∨ k = 29) → post 0) : wpY_defines post (nI k) :=
  pk_eq k 28 (fun e => h1 (Or.inl e)) (fun e => pk_eq k 29 (fun e2 => h1 (Or.inr e2)) (fun e2 => h0 (by omega)))
section
variable {f_draftCount f_openCount f_operandsDue f_faultPlace f_listCount f_takenCount f_culpritName f_memorySize f_operandCount f_pendingCount f_frameCount f_next f_outcome f_lastResult f_stepCount : Int32} {a_draftKind a_draftValue a_draftPartner a_openBlock a_unitKind a_unitValue a_unitPartner a_unitLength a_listedUnit a_listedAsLibrary a_takenUnit a_definition a_isDuplicate a_isWanted a_codeKind a_codeValue a_codePartner a_functionOf a_placeOf a_memory a_operands a_pendingToken a_pendingDue a_locals a_returnTo : Nat → Int32}
variable {K V : Nat → Nat}
theorem xd_before {post : Int32 → Prop} {i : Nat} (hi : i < 50) (hK : ∀ j, j < 50 → a_draftKind j = nI (K j)) (hP : ∀ j, j < 50 → tk_P (K j) (a_draftValue j)) (hV : ∀ j, j < 50 → V j = (a_draftValue j).toNatClampNeg) (hd : tw_d K i) (h1 : tw_b K V i → post 1) (h0 : ¬ tw_b K V i → post 0) : wpX_isDefinedBefore post (f_draftCount, f_openCount, f_operandsDue, f_faultPlace, f_listCount, f_takenCount, f_culpritName, f_memorySize, f_operandCount, f_pendingCount, f_frameCount, f_next, f_outcome, f_lastResult, f_stepCount, a_draftKind, a_draftValue, a_draftPartner, a_openBlock, a_unitKind, a_unitValue, a_unitPartner, a_unitLength, a_listedUnit, a_listedAsLibrary, a_takenUnit, a_definition, a_isDuplicate, a_isWanted, a_codeKind, a_codeValue, a_codePartner, a_functionOf, a_placeOf, a_memory, a_operands, a_pendingToken, a_pendingDue, a_locals, a_returnTo) (nI i) := by
  have key : ∀ m j, j + m = i → (∀ j', j' < j → tw_d K j' → V j' % 16 ≠ V i % 16) → wX_isDefinedBefore_12 post (nI i) (nI (V i % 16)) f_draftCount f_openCount f_operandsDue f_faultPlace f_listCount f_takenCount f_culpritName f_memorySize f_operandCount f_pendingCount f_frameCount f_next f_outcome f_lastResult f_stepCount a_draftKind a_draftValue a_draftPartner a_openBlock a_unitKind a_unitValue a_unitPartner a_unitLength a_listedUnit a_listedAsLibrary a_takenUnit a_definition a_isDuplicate a_isWanted a_codeKind a_codeValue a_codePartner a_functionOf a_placeOf a_memory a_operands a_pendingToken a_pendingDue a_locals a_returnTo (m + 1) (nI j) := by
    intro m
    induction m with
    | zero =>
      intro j hj hno
      refine br_t (nI_le (by omega) (by omega)) (h0 (fun ⟨j', a, b, c⟩ => hno j' (by omega) b c))
    | succ m ih =>
      intro j hj hno
      have hPj := hP j (by omega)
      have hnext : (tw_d K j → V j % 16 ≠ V i % 16) → wX_isDefinedBefore_12 post (nI i) (nI (V i % 16)) f_draftCount f_openCount f_operandsDue f_faultPlace f_listCount f_takenCount f_culpritName f_memorySize f_operandCount f_pendingCount f_frameCount f_next f_outcome f_lastResult f_stepCount a_draftKind a_draftValue a_draftPartner a_openBlock a_unitKind a_unitValue a_unitPartner a_unitLength a_listedUnit a_listedAsLibrary a_takenUnit a_definition a_isDuplicate a_isWanted a_codeKind a_codeValue a_codePartner a_functionOf a_placeOf a_memory a_operands a_pendingToken a_pendingDue a_locals a_returnTo (m + 1) (nI j + 1) := by
        intro hj'
        rw [nI_1]
        exact ih (j + 1) (by omega) (fun j' a b => by
          by_cases z : j' = j
          · subst z; exact hj' b
          · exact hno j' (by omega) b)
      refine br_f (nI_ge (by omega) (by omega)) ⟨pk_in j 50 (by omega), ?_⟩
      rw [nI_clamp (show j < 2 ^ 31 by omega), hK j (by omega)]
      refine xd_isdef hPj.1 (fun hdj => br_f (by decide) ⟨pk_in j 50 (by omega), ?_⟩) (fun hdj => br_t rfl (nm_e (hnext (fun z => absurd z hdj))))
      show (_ → _) ∧ (_ → _)
      rw [tw_V16 hPj hdj, ← hV j (by omega)]
      refine pk_eq (V j % 16) (V i % 16) (fun e => h1 ⟨j, by omega, hdj, e⟩) (fun e => nm_e (hnext (fun _ => e)))
  refine ⟨pk_in i 50 hi, ?_⟩
  rw [nI_clamp (show i < 2 ^ 31 by omega)]
  show ∃ n, _
  rw [tw_V16 (hP i hi) hd, ← hV i hi]
  exact ⟨i + 1, key i 0 (by omega) (fun j h => absurd h (by omega))⟩
theorem xd_second {post : Int32 → Prop} {c : Nat} (hc : c ≤ 50) (hK : ∀ j, j < 50 → a_draftKind j = nI (K j)) (hP : ∀ j, j < 50 → tk_P (K j) (a_draftValue j)) (hV : ∀ j, j < 50 → V j = (a_draftValue j).toNatClampNeg) (hp : ∀ r, tw_S K V c r → post r) : wpX_secondDefinition post (nI c, f_openCount, f_operandsDue, f_faultPlace, f_listCount, f_takenCount, f_culpritName, f_memorySize, f_operandCount, f_pendingCount, f_frameCount, f_next, f_outcome, f_lastResult, f_stepCount, a_draftKind, a_draftValue, a_draftPartner, a_openBlock, a_unitKind, a_unitValue, a_unitPartner, a_unitLength, a_listedUnit, a_listedAsLibrary, a_takenUnit, a_definition, a_isDuplicate, a_isWanted, a_codeKind, a_codeValue, a_codePartner, a_functionOf, a_placeOf, a_memory, a_operands, a_pendingToken, a_pendingDue, a_locals, a_returnTo) := by
  have key : ∀ m i, i + m = c → (∀ j, j < i → tw_d K j → ¬ tw_b K V j) → wX_secondDefinition_2 post (nI c) f_openCount f_operandsDue f_faultPlace f_listCount f_takenCount f_culpritName f_memorySize f_operandCount f_pendingCount f_frameCount f_next f_outcome f_lastResult f_stepCount a_draftKind a_draftValue a_draftPartner a_openBlock a_unitKind a_unitValue a_unitPartner a_unitLength a_listedUnit a_listedAsLibrary a_takenUnit a_definition a_isDuplicate a_isWanted a_codeKind a_codeValue a_codePartner a_functionOf a_placeOf a_memory a_operands a_pendingToken a_pendingDue a_locals a_returnTo (m + 1) (nI i) := by
    intro m
    induction m with
    | zero =>
      intro i hi hno
      exact br_t (nI_le (by omega) (by omega)) (hp _ (Or.inr ⟨rfl, fun j hj => hno j (by omega)⟩))
    | succ m ih =>
      intro i hi hno
      have hnext : (tw_d K i → ¬ tw_b K V i) → wX_secondDefinition_2 post (nI c) f_openCount f_operandsDue f_faultPlace f_listCount f_takenCount f_culpritName f_memorySize f_operandCount f_pendingCount f_frameCount f_next f_outcome f_lastResult f_stepCount a_draftKind a_draftValue a_draftPartner a_openBlock a_unitKind a_unitValue a_unitPartner a_unitLength a_listedUnit a_listedAsLibrary a_takenUnit a_definition a_isDuplicate a_isWanted a_codeKind a_codeValue a_codePartner a_functionOf a_placeOf a_memory a_operands a_pendingToken a_pendingDue a_locals a_returnTo (m + 1) (nI i + 1) := by
        intro hj'
        rw [nI_1]
        exact ih (i + 1) (by omega) (fun j' a b => by
          by_cases z : j' = i
          · subst z; exact hj' b
          · exact hno j' (by omega) b)
      refine br_f (nI_ge (by omega) (by omega)) ⟨pk_in i 50 (by omega), ?_⟩
      rw [nI_clamp (show i < 2 ^ 31 by omega), hK i (by omega)]
      refine xd_isdef (hP i (by omega)).1 (fun hd => br_f (by decide) ?_) (fun hd => br_t rfl (nm_e (hnext (fun z => absurd z hd))))
      refine xd_before (by omega) hK hP hV hd (fun hb => br_f (by decide) (hp _ (Or.inl ⟨i, by omega, rfl, hd, hb, hno⟩))) (fun hb => br_t rfl (nm_e (hnext (fun _ => hb))))
  exact ⟨c + 1, key c 0 (by omega) (fun j h => absurd h (by omega))⟩
end
/-- an array with a row written over -/
def kd_w (a b : Nat → Int32) (u c : Nat) : Nat → Int32 := fun j => if 50 * u ≤ j ∧ j < 50 * u + c then b (j - 50 * u) else a j
theorem kd_0 {a b : Nat → Int32} {u : Nat} : kd_w a b u 0 = a := by
  funext j
  exact if_neg (by omega)
theorem kd_s {a b : Nat → Int32} {u c : Nat} : upd (kd_w a b u c) (50 * u + c) (b c) = kd_w a b u (c + 1) := by
  funext j
  by_cases e : j = 50 * u + c
  · rw [e, pk_us]
    unfold kd_w
    rw [if_pos (by omega), Nat.add_sub_cancel_left]
  · rw [pk_un e]
    unfold kd_w
    by_cases h : 50 * u ≤ j ∧ j < 50 * u + c
    · rw [if_pos h, if_pos (by omega)]
    · rw [if_neg h, if_neg (by omega)]
theorem kd_in {a b : Nat → Int32} {u c i : Nat} (h : i < c) : kd_w a b u c (50 * u + i) = b i := by
  unfold kd_w
  rw [if_pos (by omega), Nat.add_sub_cancel_left]
theorem kd_out {a b : Nat → Int32} {u c j : Nat} (h : ¬ (50 * u ≤ j ∧ j < 50 * u + c)) : kd_w a b u c j = a j := if_neg h
section
variable {f_draftCount f_openCount f_operandsDue f_faultPlace f_listCount f_takenCount f_culpritName f_memorySize f_operandCount f_pendingCount f_frameCount f_next f_outcome f_lastResult f_stepCount : Int32} {a_draftKind a_draftValue a_draftPartner a_openBlock a_unitKind a_unitValue a_unitPartner a_unitLength a_listedUnit a_listedAsLibrary a_takenUnit a_definition a_isDuplicate a_isWanted a_codeKind a_codeValue a_codePartner a_functionOf a_placeOf a_memory a_operands a_pendingToken a_pendingDue a_locals a_returnTo : Nat → Int32}
theorem xu_keep {post : SX → Prop} {u c : Nat} (hu : u < 5) (hc : c ≤ 50)
    (hp : post (nI c, f_openCount, f_operandsDue, f_faultPlace, f_listCount, f_takenCount, f_culpritName, f_memorySize, f_operandCount, f_pendingCount, f_frameCount, f_next, f_outcome, f_lastResult, f_stepCount, a_draftKind, a_draftValue, a_draftPartner, a_openBlock, kd_w a_unitKind a_draftKind u c, kd_w a_unitValue a_draftValue u c, kd_w a_unitPartner (fun i => nI (50 * u) + a_draftPartner i) u c, upd a_unitLength u (nI c), a_listedUnit, a_listedAsLibrary, a_takenUnit, a_definition, a_isDuplicate, a_isWanted, a_codeKind, a_codeValue, a_codePartner, a_functionOf, a_placeOf, a_memory, a_operands, a_pendingToken, a_pendingDue, a_locals, a_returnTo)) : wpX_keepDraft post (nI c, f_openCount, f_operandsDue, f_faultPlace, f_listCount, f_takenCount, f_culpritName, f_memorySize, f_operandCount, f_pendingCount, f_frameCount, f_next, f_outcome, f_lastResult, f_stepCount, a_draftKind, a_draftValue, a_draftPartner, a_openBlock, a_unitKind, a_unitValue, a_unitPartner, a_unitLength, a_listedUnit, a_listedAsLibrary, a_takenUnit, a_definition, a_isDuplicate, a_isWanted, a_codeKind, a_codeValue, a_codePartner, a_functionOf, a_placeOf, a_memory, a_operands, a_pendingToken, a_pendingDue, a_locals, a_returnTo) (nI u) := by
  have key : ∀ m i, i + m = c → wX_keepDraft_7 post (nI u) (nI (50 * u)) (nI c) f_openCount f_operandsDue f_faultPlace f_listCount f_takenCount f_culpritName f_memorySize f_operandCount f_pendingCount f_frameCount f_next f_outcome f_lastResult f_stepCount (m + 1) (nI i) a_draftKind a_draftValue a_draftPartner a_openBlock (kd_w a_unitKind a_draftKind u i) (kd_w a_unitValue a_draftValue u i) (kd_w a_unitPartner (fun i => nI (50 * u) + a_draftPartner i) u i) a_unitLength a_listedUnit a_listedAsLibrary a_takenUnit a_definition a_isDuplicate a_isWanted a_codeKind a_codeValue a_codePartner a_functionOf a_placeOf a_memory a_operands a_pendingToken a_pendingDue a_locals a_returnTo := by
    intro m
    induction m with
    | zero =>
      intro i hi
      have e : i = c := by omega
      subst e
      exact br_t (nI_le (Nat.le_refl _) (by omega)) ⟨pk_in u 5 hu, nm_r (e' := upd a_unitLength u (nI i)) (by rw [nI_clamp (by omega)]) hp⟩
    | succ m ih =>
      intro i hi
      have e1 : nI (50 * u) + nI i = nI (50 * u + i) := nI_add _ _
      have e2 : (nI (50 * u) + nI i).toNatClampNeg = 50 * u + i := by rw [e1, nI_clamp (by omega)]
      have e3 : (nI i).toNatClampNeg = i := nI_clamp (by omega)
      have hin := pk_in (x := nI (50 * u) + nI i) (50 * u + i) 250 (by omega) e1
      refine br_f (nI_ge (by omega) (by omega)) ⟨pk_in i 50 (by omega), hin, nm_r (e' := kd_w a_unitKind a_draftKind u (i + 1)) (by rw [e2, e3, kd_s]) ⟨pk_in i 50 (by omega), hin, nm_r (e' := kd_w a_unitValue a_draftValue u (i + 1)) (by rw [e2, e3, kd_s]) ⟨pk_in i 50 (by omega), hin, nm_r (e' := kd_w a_unitPartner (fun i => nI (50 * u) + a_draftPartner i) u (i + 1)) (by rw [e2, e3]; exact kd_s (b := fun i => nI (50 * u) + a_draftPartner i)) (nm_r (nI_1 i) (ih (i + 1) (by omega)))⟩⟩⟩
  refine nm_r (e' := nI (50 * u)) (by rw [show (50 : Int32) = nI 50 from rfl, pk_mul, Nat.mul_comm]) ⟨c + 1, ?_⟩
  have := key c 0 (by omega)
  rw [kd_0, kd_0, kd_0] at this
  exact this
end
section
variable {g_place g_culprit g_listed g_units g_taken g_used g_depth g_waiting g_held g_fault g_steps g_result g_given g_gift g_has : Int32} {b_kind b_value b_size b_list b_library b_places b_memory b_wanted b_pc b_base b_locals b_waits b_got b_values : Nat → Int32}
theorem yu_copy {post : SY → Prop} {f t c : Nat} (hf : f < 16) (ht : t < 16) (hft : f ≠ t) (hk : ∀ i, i < 50 → ∃ k, k ≤ 29 ∧ b_kind (50 * f + i) = nI k) (hs : b_size f = nI c) (hc : c ≤ 50)
    (hp : post (g_place, g_culprit, g_listed, g_units, g_taken, g_used, g_depth, g_waiting, g_held, g_fault, g_steps, g_result, g_given, g_gift, g_has, kd_w b_kind (fun i => b_kind (50 * f + i)) t 50, kd_w b_value (fun i => b_value (50 * f + i)) t 50, upd b_size t (nI c), b_list, b_library, b_places, b_memory, b_wanted, b_pc, b_base, b_locals, b_waits, b_got, b_values)) : wpY_copy post (g_place, g_culprit, g_listed, g_units, g_taken, g_used, g_depth, g_waiting, g_held, g_fault, g_steps, g_result, g_given, g_gift, g_has, b_kind, b_value, b_size, b_list, b_library, b_places, b_memory, b_wanted, b_pc, b_base, b_locals, b_waits, b_got, b_values) (nI f) (nI t) := by
  have key : ∀ m i, i + m = 50 → wY_copy_2 post (nI f) (nI t) g_place g_culprit g_listed g_units g_taken g_used g_depth g_waiting g_held g_fault g_steps g_result g_given g_gift g_has (m + 1) (nI i) (kd_w b_kind (fun i => b_kind (50 * f + i)) t i) (kd_w b_value (fun i => b_value (50 * f + i)) t i) b_size b_list b_library b_places b_memory b_wanted b_pc b_base b_locals b_waits b_got b_values := by
    intro m
    induction m with
    | zero =>
      intro i hi
      have e : i = 50 := by omega
      subst e
      exact br_t (nI_le (a := 50) (b := 50) (Nat.le_refl _) (by omega)) ⟨pk_in f 16 hf, pk_in t 16 ht, nm_r (e' := upd b_size t (nI c)) (by rw [nI_clamp (by omega), nI_clamp (by omega), hs, ba_nb (by omega)]) hp⟩
    | succ m ih =>
      intro i hi
      have e50 : ∀ r : Nat, (50 : Int32) * nI r + nI i = nI (50 * r + i) := fun r => by rw [show (50 : Int32) = nI 50 from rfl, pk_mul, nI_add]
      have e2 : ∀ r : Nat, r < 16 → ((50 : Int32) * nI r + nI i).toNatClampNeg = 50 * r + i := fun r hr => by rw [e50, nI_clamp (by omega)]
      have hin : ∀ r : Nat, r < 16 → vp_in ((50 : Int32) * nI r + nI i) 800 := fun r hr => pk_in (50 * r + i) 800 (by omega) (e50 r)
      obtain ⟨k, hk9, hki⟩ := hk i (by omega)
      have eo : ∀ a : Nat → Int32, kd_w a (fun i => a (50 * f + i)) t i (50 * f + i) = a (50 * f + i) := fun a => kd_out (by omega)
      refine br_f (nI_ge (b := 50) (by omega) (by omega)) ⟨hin f hf, hin t ht, nm_r (e' := kd_w b_kind (fun i => b_kind (50 * f + i)) t (i + 1)) (by rw [e2 f hf, e2 t ht, eo, hki, ba_nb (by omega), ← hki]; exact kd_s (b := fun i => b_kind (50 * f + i))) ⟨hin f hf, hin t ht, nm_r (e' := kd_w b_value (fun i => b_value (50 * f + i)) t (i + 1)) (by rw [e2 f hf, e2 t ht, eo]; exact kd_s (b := fun i => b_value (50 * f + i))) (nm_r (nI_1 i) (ih (i + 1) (by omega)))⟩⟩
  refine ⟨51, ?_⟩
  have := key 50 0 (by omega)
  rw [kd_0, kd_0] at this
  exact this
end
