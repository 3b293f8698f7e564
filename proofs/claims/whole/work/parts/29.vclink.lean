/-! link: the owed row -/
theorem lk_T_inj {C W : Nat → Nat → Nat} {M lst : Nat → Nat} {lib : Nat → Prop} : ∀ l, (∀ i j, i < j → j < l → lst i ≠ lst j) → (∀ k, k < (lk_T C W M lst lib l).1 → ∃ i, i < l ∧ (lk_T C W M lst lib l).2 k = lst i) ∧ ∀ k k', k < (lk_T C W M lst lib l).1 → k' < (lk_T C W M lst lib l).1 → (lk_T C W M lst lib l).2 k = (lk_T C W M lst lib l).2 k' → k = k' := by
  intro l
  induction l with
  | zero => exact fun _ => ⟨fun k h => absurd h (Nat.not_lt_zero _), fun k k' h => absurd h (Nat.not_lt_zero _)⟩
  | succ l ih =>
    intro h
    obtain ⟨a, b⟩ := ih (fun i j hij hj => h i j hij (by omega))
    by_cases hc : ¬ lib l ∨ lk_O C W M (lst l) (fun k => C ((lk_T C W M lst lib l).2 k)) (fun k => W ((lk_T C W M lst lib l).2 k)) (fun k => M ((lk_T C W M lst lib l).2 k)) (lk_T C W M lst lib l).1
    · rw [lk_T_yes hc]
      generalize (lk_T C W M lst lib l).1 = n0 at *
      generalize (lk_T C W M lst lib l).2 = tk0 at *
      have hne : ∀ k, k < n0 → tk0 k ≠ lst l := fun k hk e => by
        obtain ⟨i, hi, ei⟩ := a k hk
        exact h i l hi (by omega) (ei.symm.trans e)
      constructor
      · intro k hk
        have hk' : k < n0 + 1 := hk
        show ∃ i, i < l + 1 ∧ (if k = n0 then lst l else tk0 k) = lst i
        by_cases z : k = n0
        · rw [if_pos z]; exact ⟨l, by omega, rfl⟩
        · rw [if_neg z]
          obtain ⟨i, hi, ei⟩ := a k (by omega)
          exact ⟨i, by omega, ei⟩
      · intro k k' hk hk'
        have hk1 : k < n0 + 1 := hk
        have hk2 : k' < n0 + 1 := hk'
        show (if k = n0 then lst l else tk0 k) = (if k' = n0 then lst l else tk0 k') → k = k'
        by_cases z : k = n0
        · by_cases z' : k' = n0
          · exact fun _ => by omega
          · rw [if_pos z, if_neg z']
            exact fun e => absurd e.symm (hne k' (by omega))
        · by_cases z' : k' = n0
          · rw [if_neg z, if_pos z']
            exact fun e => absurd e (hne k (by omega))
          · rw [if_neg z, if_neg z']
            exact b k k' (by omega) (by omega)
    · rw [lk_T_no hc]
      exact ⟨fun k hk => by obtain ⟨i, hi, e⟩ := a k hk; exact ⟨i, by omega, e⟩, b⟩
theorem lk_q_cong {K V K' V' : Nat → Nat → Nat} {L L' tk : Nat → Nat} {n c nm : Nat} (hL : ∀ k, k < n → L k ≤ 50) (hE : lk_E K V K' V' L L' n) : lk_q K V L tk n c nm = lk_q K' V' L' tk n c nm := by
  unfold lk_q
  rw [← (@lk_cong K V K' V' L L' nm n hL hE).1]
  cases e : lk_b K V L nm n with
  | none => rfl
  | some d =>
    have hd := lk_b_in hL e
    show (if _ then _ else _) = (if _ then _ else _)
    rw [((hE _ hd.1).2 _ hd.2.1).1]
theorem sk3 {n : Nat} {P : Nat → (Nat → Nat) → (Nat → Nat) → (Nat → Nat) → Prop} (h : ∀ k, k < n → ∃ D B pr, P k D B pr) : ∃ D B pr : Nat → Nat → Nat, ∀ k, k < n → P k (D k) (B k) (pr k) := by
  have hx : ∀ k, ∃ t : (Nat → Nat) × (Nat → Nat) × (Nat → Nat), k < n → P k t.1 t.2.1 t.2.2 := by
    intro k
    by_cases hk : k < n
    · obtain ⟨D, B, pr, hp⟩ := h k hk
      exact ⟨(D, B, pr), fun _ => hp⟩
    · exact ⟨(fun _ => 0, fun _ => 0, fun _ => 0), fun z => absurd z hk⟩
  obtain ⟨f, hf⟩ := Classical.skolem.mp hx
  exact ⟨fun k => (f k).1, fun k => (f k).2.1, fun k => (f k).2.2, hf⟩
/-- what a good link leaves is a program -/
theorem ln_pR {E : SX} {Z : SY} {C W : Nat → Nat → Nat} {M tk : Nat → Nat} {n : Nat} {uv : Nat → Nat → Int32} (hn : n ≤ 5) (htk : ∀ k, k < n → tk k < 5)
    (hw : lk_o (fun k => C (tk k)) (fun k => W (tk k)) (fun k => M (tk k)) n (50 * n) ≤ 48) (hall : ∀ nm, nm < 12 → lk_R (fun k => C (tk k)) (fun k => W (tk k)) (fun k => M (tk k)) nm n 0)
    (h1 : yUN Z = nI n) (h2 : yUS Z = nI (lk_o (fun k => C (tk k)) (fun k => W (tk k)) (fun k => M (tk k)) n (50 * n))) (h3 : xMS E = nI (lk_o (fun k => C (tk k)) (fun k => W (tk k)) (fun k => M (tk k)) n (50 * n)))
    (hrow : ∀ k, k < n → M (tk k) ≤ 50 ∧ yS Z (11 + k) = nI (M (tk k)) ∧ (∀ i, i < M (tk k) → xCK E (50 * tk k + i) = nI (C (tk k) i) ∧ yK Z (550 + 50 * k + i) = nI (C (tk k) i) ∧ xCV E (50 * tk k + i) = uv k i ∧ yV Z (550 + 50 * k + i) = uv k i ∧ tk_P (C (tk k) i) (uv k i) ∧ (uv k i).toNatClampNeg = W (tk k) i) ∧ wf_U (C (tk k)) (fun i => tk_n (C (tk k) i) (W (tk k) i)) (M (tk k)) (fun i => xCP E (50 * tk k + i)) (50 * tk k))
    (hpo : ∀ nm, nm < 12 → xPO E nm = lk_p (fun k => C (tk k)) (fun k => W (tk k)) (fun k => M (tk k)) n (50 * n) nm) (hpl : ∀ nm, nm < 12 → yPL Z nm = lk_p (fun k => C (tk k)) (fun k => W (tk k)) (fun k => M (tk k)) n (50 * n) nm) (hfo : ∀ nm, nm < 12 → xFO E nm = lk_q (fun k => C (tk k)) (fun k => W (tk k)) (fun k => M (tk k)) tk n (50 * n) nm) :
    ∃ D B pr, pR E Z n (lk_o (fun k => C (tk k)) (fun k => W (tk k)) (fun k => M (tk k)) n (50 * n)) tk (fun k => M (tk k)) D B pr := by
  have eK : ∀ k, k < n → ∀ i, i < M (tk k) → pK Z k i = C (tk k) i := fun k hk i hi => by
    obtain ⟨_, a, _, _, b, _⟩ := (hrow k hk).2.2.1 i hi
    show (yK Z _).toNatClampNeg = _
    have := b.1
    rw [a, nI_clamp (by omega)]
  have eV : ∀ k, k < n → ∀ i, i < M (tk k) → pV Z k i = W (tk k) i := fun k hk i hi => by
    obtain ⟨_, _, _, a, _, b⟩ := (hrow k hk).2.2.1 i hi
    show (yV Z _).toNatClampNeg = _
    rw [a, b]
  have hLk : ∀ k, k < n → (fun k => M (tk k)) k ≤ 50 := fun k hk => (hrow k hk).1
  have hE : lk_E (fun k => C (tk k)) (fun k => W (tk k)) (pK Z) (pV Z) (fun k => M (tk k)) (fun k => M (tk k)) n := fun k hk => ⟨rfl, fun i hi => ⟨(eK k hk i hi).symm, (eV k hk i hi).symm⟩⟩
  obtain ⟨D, B, pr, hDB⟩ := sk3 (n := n) (P := fun k D B pr => wf_S (pK Z k) (pO Z k) (M (tk k)) D B ∧ wf_J (pK Z k) (M (tk k)) (fun i => xCP E (50 * tk k + i)) (50 * tk k) B pr) (fun k hk => wf_U_ext (hrow k hk).2.2.2 (fun i hi => ⟨eK k hk i hi, by unfold pO; rw [eK k hk i hi, eV k hk i hi], rfl⟩))
  refine ⟨D, B, pr, hn, hw, h1, h2, h3, fun k hk => ⟨htk k hk, (hrow k hk).1, (hrow k hk).2.1, fun i hi => ?_, (hDB k hk).1, (hDB k hk).2⟩, fun nm hnm => by rw [hpo nm hnm, hpl nm hnm], fun nm hnm => by rw [hfo nm hnm]; exact lk_q_cong hLk hE, fun k hk i hi => ?_⟩
  · obtain ⟨a, b, c, d, e, f⟩ := (hrow k hk).2.2.1 i hi
    unfold pT
    rw [eK k hk i hi, c, d]
    exact ⟨a, b, rfl, e⟩
  · obtain ⟨a, b, c, d, e, f⟩ := (hrow k hk).2.2.1 i hi
    rw [eK k hk i hi, eV k hk i hi]
    have huse : (C (tk k) i = 2 ∨ C (tk k) i = 3 ∨ C (tk k) i = 5) → ∃ d, lk_b (fun k => C (tk k)) (fun k => W (tk k)) (fun k => M (tk k)) (W (tk k) i % 16) n = some d ∧ lk_su (fun k => C (tk k)) (fun k => W (tk k)) d k i := by
      intro hu
      have hlt := (tw_U e hu).2.2
      rw [f] at hlt
      rcases hall _ hlt with ⟨_, h⟩ | ⟨h, _⟩ | ⟨h, _⟩
      · exact h k hk i hi ⟨hu, rfl⟩
      · exact absurd h (by decide)
      · exact absurd h (by decide)
    constructor
    · intro h2
      obtain ⟨d', hb, hsu⟩ := huse (Or.inl h2)
      have hsu' : C (tk (d' / 50)) (d' % 50) = 29 := by
        have : lk_su (fun k => C (tk k)) (fun k => W (tk k)) d' k i = (C (tk (d' / 50)) (d' % 50) = 29) := if_neg (by show ¬ C (tk k) i = 5; omega)
        rw [this] at hsu; exact hsu
      obtain ⟨mv, hmv, emv⟩ := e.2.2.2.1 (Or.inl h2)
      have eW : W (tk k) i = mv := by rw [← f, emv, nI_clamp (by omega)]
      rw [eW, show mv % 16 = mv by omega] at hb
      have hin := lk_b_in hLk hb
      have hdt : lk_dt (fun k => C (tk k)) (fun k => W (tk k)) (fun k => M (tk k)) n d' = true := by
        refine decide_eq_true ⟨hin.2.1, hsu', ?_⟩
        rw [hin.2.2.2]; exact hb
      have hat := lk_o_at hdt
      have hmono := @lk_o_mono (fun k => C (tk k)) (fun k => W (tk k)) (fun k => M (tk k)) n (d' + 1) (50 * n) (by have := hin.1; omega)
      have hz : 1 ≤ lk_z (fun k => W (tk k)) d' := Nat.succ_pos _
      refine ⟨lk_o (fun k => C (tk k)) (fun k => W (tk k)) (fun k => M (tk k)) n d', by omega, ?_⟩
      rw [eW, hpl mv hmv]
      unfold lk_p
      rw [hb]
      exact if_pos ⟨hsu', by have := hin.1; omega⟩
    · intro h5
      obtain ⟨d', hb, hsu⟩ := huse (Or.inr (Or.inr h5))
      have hin := lk_b_in hLk hb
      have hsu' : C (tk (d' / 50)) (d' % 50) = 28 ∧ W (tk (d' / 50)) (d' % 50) / 16 % 4 = W (tk k) i / 16 := by
        have : lk_su (fun k => C (tk k)) (fun k => W (tk k)) d' k i = (C (tk (d' / 50)) (d' % 50) = 28 ∧ W (tk (d' / 50)) (d' % 50) / 16 % 4 = W (tk k) i / 16) := if_pos (by show C (tk k) i = 5; omega)
        rw [this] at hsu; exact hsu
      refine ⟨d', ?_, ?_, ?_⟩
      · rw [← (@lk_cong (fun k => C (tk k)) (fun k => W (tk k)) (pK Z) (pV Z) (fun k => M (tk k)) (fun k => M (tk k)) (W (tk k) i % 16) n hLk hE).1]; exact hb
      · rw [eK _ hin.1 _ hin.2.1]; exact hsu'.1
      · rw [eV _ hin.1 _ hin.2.1]; exact hsu'.2
theorem i_vc_link {k : Nat} {u : SX} {v : SY} (I : i_Rel k u v) (hk : k + 5 ≤ 2560) : wpX_link (fun r u' => wpY_link (fun r' v' => r' = r ∧ i_Rel (k + 5) u' v') v) u := by
  obtain ⟨f_draftCount, f_openCount, f_operandsDue, f_faultPlace, f_listCount, f_takenCount, f_culpritName, f_memorySize, f_operandCount, f_pendingCount, f_frameCount, f_next, f_outcome, f_lastResult, f_stepCount, a_draftKind, a_draftValue, a_draftPartner, a_openBlock, a_unitKind, a_unitValue, a_unitPartner, a_unitLength, a_listedUnit, a_listedAsLibrary, a_takenUnit, a_definition, a_isDuplicate, a_isWanted, a_codeKind, a_codeValue, a_codePartner, a_functionOf, a_placeOf, a_memory, a_operands, a_pendingToken, a_pendingDue, a_locals, a_returnTo⟩ := u
  obtain ⟨g_place, g_culprit, g_listed, g_units, g_taken, g_used, g_depth, g_waiting, g_held, g_fault, g_steps, g_result, g_given, g_gift, g_has, b_kind, b_value, b_size, b_list, b_library, b_places, b_memory, b_wanted, b_pc, b_base, b_locals, b_waits, b_got, b_values⟩ := v
  have I' := i_el I
  obtain ⟨⟨c, c1, c2, c3, c4⟩, i2, ⟨nl, l1, l2, l3, l4, l5, l6, l7⟩, i4, ⟨n0, m0, tk0, ln0, D0, B0, pr0, hR, hm⟩, i6, i7, i8⟩ := I'
  subst c2 l2 l3 l4 l5
  have hM : ∀ u, u < 5 → a_unitLength u = nI (kn b_size u) ∧ b_size u = nI (kn b_size u) ∧ rl_row a_unitKind a_unitValue a_unitPartner (50 * u) b_kind b_value (50 * u) (kn b_size u) := by
    intro u hu
    obtain ⟨cu, a, b, d⟩ := i2 u hu
    have : kn b_size u = cu := by
      show (b_size u).toNatClampNeg = cu
      have := d.1
      rw [b, nI_clamp (by omega)]
    rw [this]
    exact ⟨a, b, d⟩
  have hU : ∀ u, u < 5 → yr_R b_kind b_value b_size u (fun i => kn b_kind (50 * u + i)) (fun i => kn b_value (50 * u + i)) (kn b_size u) := by
    intro u hu
    obtain ⟨_, b, d⟩ := hM u hu
    exact ⟨d.1, b, fun i hi => ⟨(d.2.1 i hi).2.2.1, (d.2.1 i hi).2.2.2, rfl⟩⟩
  have hX : ∀ u, u < 5 → yr_R a_unitKind a_unitValue a_unitLength u (fun i => kn b_kind (50 * u + i)) (fun i => kn b_value (50 * u + i)) (kn b_size u) := by
    intro u hu
    obtain ⟨a, _, d⟩ := hM u hu
    refine ⟨d.1, a, fun i hi => ?_⟩
    obtain ⟨e1, e2, e3, e4⟩ := d.2.1 i hi
    rw [e1, e2]
    exact ⟨e3, e4, rfl⟩
  have hlst : ∀ i, i < nl → kn b_list i < 5 ∧ b_list i = nI (kn b_list i) := by
    intro i hi
    obtain ⟨u, hu, e⟩ := l6 i (by omega)
    have : kn b_list i = u := by
      show (b_list i).toNatClampNeg = u
      rw [e, nI_clamp (by omega)]
    rw [this]
    exact ⟨hu, e⟩
  have hlib : ∀ i, i < nl → (b_library i = 0 ↔ ¬ ¬ b_library i = 0) := fun i _ => Classical.not_not.symm
  have hinj := (@lk_T_inj (fun u i => kn b_kind (50 * u + i)) (fun u i => kn b_value (50 * u + i)) (kn b_size) (kn b_list) (fun i => ¬ b_library i = 0) nl (fun i j hij hj e => l7 i j hij hj (by rw [(hlst i (by omega)).2, (hlst j hj).2, e]))).2
  have hin := @lk_T_in (fun u i => kn b_kind (50 * u + i)) (fun u i => kn b_value (50 * u + i)) (kn b_size) (kn b_list) (fun i => ¬ b_library i = 0) nl (fun i hi => (hlst i hi).1)
  have hT : lk_T (fun u i => kn b_kind (50 * u + i)) (fun u i => kn b_value (50 * u + i)) (kn b_size) (kn b_list) (fun i => ¬ b_library i = 0) nl = ((lk_T (fun u i => kn b_kind (50 * u + i)) (fun u i => kn b_value (50 * u + i)) (kn b_size) (kn b_list) (fun i => ¬ b_library i = 0) nl).1, (lk_T (fun u i => kn b_kind (50 * u + i)) (fun u i => kn b_value (50 * u + i)) (kn b_size) (kn b_list) (fun i => ¬ b_library i = 0) nl).2) := rfl
  revert hT hinj hin
  generalize (lk_T (fun u i => kn b_kind (50 * u + i)) (fun u i => kn b_value (50 * u + i)) (kn b_size) (kn b_list) (fun i => ¬ b_library i = 0) nl).1 = n
  generalize (lk_T (fun u i => kn b_kind (50 * u + i)) (fun u i => kn b_value (50 * u + i)) (kn b_size) (kn b_list) (fun i => ¬ b_library i = 0) nl).2 = tk
  intro hinj hin hT
  have hn5 : n ≤ 5 := by have := hin.1; omega
  have hdr : ∀ (kd vl sz : Nat → Int32), (∀ j, j < 300 → kd j = b_kind j ∧ vl j = b_value j) → sz 5 = b_size 5 → rl_dr (nI c) a_draftKind a_draftValue kd vl sz := by
    intro kd vl sz h1 h2
    refine ⟨c, c1, rfl, by rw [h2]; exact c3, fun i hi => ?_⟩
    have ek : kn kd (250 + i) = kn b_kind (250 + i) := congrArg Int32.toNatClampNeg (h1 _ (by omega)).1
    rw [ek, (h1 _ (by omega)).1, (h1 _ (by omega)).2]
    exact c4 i hi
  have hun : ∀ (kd vl sz : Nat → Int32), (∀ j, j < 300 → kd j = b_kind j ∧ vl j = b_value j) → (∀ r, r < 6 → sz r = b_size r) → rl_un a_unitKind a_unitValue a_unitPartner a_unitLength kd vl sz := by
    intro kd vl sz h1 h2 u hu
    obtain ⟨cu, a, b, d⟩ := i2 u hu
    have := d.1
    exact ⟨cu, a, by rw [h2 u (by omega)]; exact b, rl_row_ext d (fun i hi => ⟨rfl, rfl, rfl⟩) (fun i hi => h1 _ (by omega))⟩
  refine xl_link l1 rfl hlst hlib hX (fun u hu i j hij hj => (hM u hu).2.2.2.2.2.1 i j hij hj) (fun u hu t ht => (hM u hu).2.2.2.2.2.2 t ht) hT hinj (fun r cul tu de du wa hZ hr => ?_) (fun cul tu de du wa ck cv cp fo po mem hZ hco hV => ?_)
  · refine yl_link l1 rfl hlst hlib hU i4 hT hZ (fun _ kd vl sz hG => ⟨rfl, i_mk ⟨hdr kd vl sz hG.1 (hG.2.1 5 (by omega)), hun kd vl sz hG.1 hG.2.1, ⟨0, by omega, rfl, rfl, rfl, rfl, l6, fun i j _ hj => absurd hj (Nat.not_lt_zero _)⟩, hG.2.2.2.2.2, ⟨n0, m0, tk0, ln0, D0, B0, pr0, pR_ext (xMS_e.trans xMS_e.symm) (xCK_e.trans xCK_e.symm) (xCV_e.trans xCV_e.symm) (xCP_e.trans xCP_e.symm) (xFO_e.trans xFO_e.symm) (xPO_e.trans xPO_e.symm) (yUN_e.trans yUN_e.symm) (yUS_e.trans yUS_e.symm) (yPL_e.trans yPL_e.symm) (fun j hj => ?_) (fun r hr => ?_) hR, hm⟩, i6, rfl, i8.1, i8.2⟩⟩) (fun z => absurd z hr)
    · rw [yK_e, yK_e, yV_e, yV_e]; exact hG.2.2.2.1 j hj
    · rw [yS_e, yS_e]; exact hG.2.2.2.2.1 r hr
  · refine yl_link l1 rfl hlst hlib hU i4 hT hZ (fun z => absurd rfl z) (fun _ kd0 vl0 sz0 kd vl sz pl my hG hC hw hpl hmy => ⟨rfl, ?_⟩)
    have hall : ∀ nm, nm < 12 → lk_R (fun k => (fun u i => kn b_kind (50 * u + i)) (tk k)) (fun k => (fun u i => kn b_value (50 * u + i)) (tk k)) (fun k => kn b_size (tk k)) nm n 0 := by
      rcases hZ with ⟨_, _, _, _, h, _⟩ | ⟨_, ⟨_, _, h, _⟩ | ⟨h, _⟩⟩
      · exact absurd h (by decide)
      · exact absurd rfl h
      · exact h
    have hlow : ∀ j, j < 300 → kd j = b_kind j ∧ vl j = b_value j := fun j hj => by
      rw [(hC.1 j (by omega)).1, (hC.1 j (by omega)).2]; exact hG.1 j hj
    have hsz : ∀ r, r < 6 → sz r = b_size r := fun r hr => by rw [hC.2.1 r (by omega)]; exact hG.2.1 r hr
    have hrows : ∀ k, k < n → ∀ i, i < 50 → kd (550 + 50 * k + i) = b_kind (50 * tk k + i) ∧ vl (550 + 50 * k + i) = b_value (50 * tk k + i) := fun k hk i hi => by
      rw [((hC.2.2.1 k hk).2 i hi).1, ((hC.2.2.1 k hk).2 i hi).2]
      exact (hG.2.2.1 k hk).2 i hi
    have hpr := @ln_pR (nI c, f_openCount, f_operandsDue, f_faultPlace, 0, nI n, cul, nI (lk_o (fun k => (fun u i => kn b_kind (50 * u + i)) (tk k)) (fun k => (fun u i => kn b_value (50 * u + i)) (tk k)) (fun k => kn b_size (tk k)) n (50 * n)), f_operandCount, f_pendingCount, f_frameCount, f_next, f_outcome, f_lastResult, f_stepCount, a_draftKind, a_draftValue, a_draftPartner, a_openBlock, a_unitKind, a_unitValue, a_unitPartner, a_unitLength, b_list, b_library, tu, de, du, wa, ck, cv, cp, fo, po, mem, a_operands, a_pendingToken, a_pendingDue, a_locals, a_returnTo) (g_place, cul, 0, nI n, nI n, nI (lk_o (fun k => (fun u i => kn b_kind (50 * u + i)) (tk k)) (fun k => (fun u i => kn b_value (50 * u + i)) (tk k)) (fun k => kn b_size (tk k)) n (50 * n)), g_depth, g_waiting, g_held, g_fault, g_steps, g_result, g_given, g_gift, g_has, kd, vl, sz, b_list, b_library, pl, my, b_wanted, b_pc, b_base, b_locals, b_waits, b_got, b_values) (fun u i => kn b_kind (50 * u + i)) (fun u i => kn b_value (50 * u + i)) (kn b_size) tk n (fun k i => b_value (50 * tk k + i)) hn5 hin.2 hw hall (yUN_e) (yUS_e) (xMS_e) (fun k hk => ?_) (fun nm hnm => ?_) (fun nm hnm => ?_) (fun nm hnm => ?_)
    · obtain ⟨D, B, pr, hpR⟩ := hpr
      refine i_mk ⟨hdr kd vl sz hlow (hsz 5 (by omega)), hun kd vl sz hlow hsz, ⟨0, by omega, rfl, rfl, rfl, rfl, l6, fun i j _ hj => absurd hj (Nat.not_lt_zero _)⟩, hC.2.2.2, ⟨n, _, tk, _, D, B, pr, hpR, ?_⟩, i6, rfl, i8.1, i8.2⟩
      refine lk_m_eq (50 * n) hV.2.2 hmy (fun d hd hdt => ?_)
      have hdt' := of_decide_eq_true hdt
      have hk : d / 50 < n := by omega
      have h5 := hin.2 _ hk
      have hrow := (hM _ h5).2.2
      have h1 : d % 50 < kn b_size (tk (d / 50)) := hdt'.1
      have h2 : d % 50 + 1 < kn b_size (tk (d / 50)) := hrow.2.2.2.2 _ h1 hdt'.2.1
      have h50 := hrow.1
      have e1 := (hrow.2.1 _ h2).2.1
      have e2 := ((hG.2.2.1 _ hk).2 (d % 50 + 1) (by omega)).2
      show a_unitValue (50 * tk (d / 50) + d % 50 + 1) = vl0 (301 + d)
      rw [show 301 + d = 300 + 50 * (d / 50) + (d % 50 + 1) by omega, e2]
      exact e1
    · have h5 := hin.2 k hk
      have hrow := (hM _ h5).2.2
      have h50 := hrow.1
      refine ⟨h50, ?_, fun i hi => ?_, ?_⟩
      · rw [yS_e, (hC.2.2.1 k hk).1, (hG.2.2.1 k hk).1]; exact (hM _ h5).2.1
      · obtain ⟨a, b, d, e⟩ := hrow.2.1 i hi
        obtain ⟨r1, r2⟩ := hrows k hk i (by omega)
        rw [xCK_e, xCV_e, yK_e, yV_e, (hco _ (by omega)).1, (hco _ (by omega)).2.1, a, b, r1, r2]
        exact ⟨d, d, rfl, rfl, e, rfl⟩
      · refine wf_U_ext hrow.2.2.1 (fun i hi => ⟨rfl, rfl, ?_⟩)
        rw [xCP_e]
        exact (hco _ (by omega)).2.2
    · rw [xPO_e]; exact (hV.2.1 nm hnm).1
    · rw [yPL_e]; exact hpl nm hnm
    · rw [xFO_e]; exact (hV.2.1 nm hnm).2
