/-! the faults of a link, on the component's side -/
section
variable {f_draftCount f_openCount f_operandsDue f_faultPlace f_listCount f_takenCount f_culpritName f_memorySize f_operandCount f_pendingCount f_frameCount f_next f_outcome f_lastResult f_stepCount : Int32} {a_draftKind a_draftValue a_draftPartner a_openBlock a_unitKind a_unitValue a_unitPartner a_unitLength a_listedUnit a_listedAsLibrary a_takenUnit a_definition a_isDuplicate a_isWanted a_codeKind a_codeValue a_codePartner a_functionOf a_placeOf a_memory a_operands a_pendingToken a_pendingDue a_locals a_returnTo : Nat → Int32}
variable {C W : Nat → Nat → Nat} {M tk : Nat → Nat}
theorem xl_suits {post : Int32 → Prop} {u t d : Nat} (hu : u < 5) (ht : t < M u) (hX : ∀ u, u < 5 → yr_R a_unitKind a_unitValue a_unitLength u (C u) (W u) (M u)) (hq : C u t = 2 ∨ C u t = 3 ∨ C u t = 5) {k : Nat} (hk : tk k = u) (h5 : tk (d / 50) < 5) (hd : d % 50 < M (tk (d / 50))) (hdd : C (tk (d / 50)) (d % 50) = 28 ∨ C (tk (d / 50)) (d % 50) = 29)
    (h1 : lk_su (fun k => C (tk k)) (fun k => W (tk k)) d k t → post 1) (h0 : ¬ lk_su (fun k => C (tk k)) (fun k => W (tk k)) d k t → post 0) : wpX_suits post (f_draftCount, f_openCount, f_operandsDue, f_faultPlace, f_listCount, f_takenCount, f_culpritName, f_memorySize, f_operandCount, f_pendingCount, f_frameCount, f_next, f_outcome, f_lastResult, f_stepCount, a_draftKind, a_draftValue, a_draftPartner, a_openBlock, a_unitKind, a_unitValue, a_unitPartner, a_unitLength, a_listedUnit, a_listedAsLibrary, a_takenUnit, a_definition, a_isDuplicate, a_isWanted, a_codeKind, a_codeValue, a_codePartner, a_functionOf, a_placeOf, a_memory, a_operands, a_pendingToken, a_pendingDue, a_locals, a_returnTo) (nI (50 * u + t)) (nI (50 * tk (d / 50) + d % 50)) := by
  obtain ⟨a1, a2, a3⟩ := (hX u hu).2.2 t ht
  obtain ⟨b1, b2, b3⟩ := (hX _ h5).2.2 _ hd
  have hL := (hX u hu).1
  have hLd := (hX _ h5).1
  have hin : vp_in (nI (50 * u + t)) 250 := pk_in (50 * u + t) 250 (by omega)
  have ec : (nI (50 * u + t)).toNatClampNeg = 50 * u + t := nI_clamp (by omega)
  have hind : vp_in (nI (50 * tk (d / 50) + d % 50)) 250 := pk_in (50 * tk (d / 50) + d % 50) 250 (by omega)
  have ecd : (nI (50 * tk (d / 50) + d % 50)).toNatClampNeg = 50 * tk (d / 50) + d % 50 := nI_clamp (by omega)
  obtain ⟨u1, u2, u3⟩ := tw_U a2 hq
  obtain ⟨v1, v2, v3⟩ := tw_V b2 hdd
  rw [a3] at u1 u2 u3
  rw [b3] at v1 v2 v3
  have h9 := a2.1
  have h9d := b2.1
  have esu : lk_su (fun k => C (tk k)) (fun k => W (tk k)) d k t = if C u t = 5 then C (tk (d / 50)) (d % 50) = 28 ∧ W (tk (d / 50)) (d % 50) / 16 % 4 = W u t / 16 else C (tk (d / 50)) (d % 50) = 29 := by
    show (if C (tk k) t = 5 then C (tk (d / 50)) (d % 50) = 28 ∧ W (tk (d / 50)) (d % 50) / 16 % 4 = W (tk k) t / 16 else C (tk (d / 50)) (d % 50) = 29) = _
    rw [hk]
  rw [esu] at h1 h0
  refine ⟨hin, ?_⟩
  rw [ec, a1, ecd, b1]
  refine pk_eq (C u t) 5 (fun e => ⟨hind, ?_⟩) (fun e => ⟨hind, ?_⟩)
  · rw [if_pos e] at h1 h0
    refine pk_eq (C (tk (d / 50)) (d % 50)) 28 (fun e2 => ⟨hin, ?_⟩) (fun e2 => h0 (fun z => e2 z.1))
    show vp_in _ 250 ∧ (_ → _) ∧ (_ → _)
    refine ⟨hind, ?_⟩
    rw [u1, v1, ba_cnt (by omega), ba_cnt (by omega)]
    exact pk_eq (W u t / 16 % 4) (W (tk (d / 50)) (d % 50) / 16 % 4) (fun e3 => h1 ⟨e2, by omega⟩) (fun e3 => h0 (fun z => e3 (by have := z.2; omega)))
  · rw [if_neg e] at h1 h0
    exact pk_eq (C (tk (d / 50)) (d % 50)) 29 (fun e2 => h1 e2) (fun e2 => h0 e2)
theorem xl_wrong {post : Int32 → Prop} {u nm d : Nat} (hu : u < 5) (hnm : nm < 12) (hX : ∀ u, u < 5 → yr_R a_unitKind a_unitValue a_unitLength u (C u) (W u) (M u)) {k : Nat} (hk : tk k = u) (h5 : tk (d / 50) < 5) (hd : d % 50 < M (tk (d / 50))) (hdd : C (tk (d / 50)) (d % 50) = 28 ∨ C (tk (d / 50)) (d % 50) = 29) (hde : a_definition nm = nI (50 * tk (d / 50) + d % 50))
    (h1 : (∃ i, i < M u ∧ lk_Q (fun k => C (tk k)) (fun k => W (tk k)) k nm i ∧ ¬ lk_su (fun k => C (tk k)) (fun k => W (tk k)) d k i) → post 1) (h0 : (∀ i, i < M u → lk_Q (fun k => C (tk k)) (fun k => W (tk k)) k nm i → lk_su (fun k => C (tk k)) (fun k => W (tk k)) d k i) → post 0) : wpX_wantsWrongly post (f_draftCount, f_openCount, f_operandsDue, f_faultPlace, f_listCount, f_takenCount, f_culpritName, f_memorySize, f_operandCount, f_pendingCount, f_frameCount, f_next, f_outcome, f_lastResult, f_stepCount, a_draftKind, a_draftValue, a_draftPartner, a_openBlock, a_unitKind, a_unitValue, a_unitPartner, a_unitLength, a_listedUnit, a_listedAsLibrary, a_takenUnit, a_definition, a_isDuplicate, a_isWanted, a_codeKind, a_codeValue, a_codePartner, a_functionOf, a_placeOf, a_memory, a_operands, a_pendingToken, a_pendingDue, a_locals, a_returnTo) (nI u) (nI nm) := by
  obtain ⟨hL, hs, hT⟩ := hX u hu
  have e50 : nI u * 50 = nI (50 * u) := by rw [show (50 : Int32) = nI 50 from rfl, pk_mul, Nat.mul_comm]
  have eb : nI (50 * u) + a_unitLength (nI u).toNatClampNeg = nI (50 * u + M u) := by rw [nI_clamp (by omega), hs, nI_add]
  have eQ : ∀ i, lk_Q (fun k => C (tk k)) (fun k => W (tk k)) k nm i = ((C u i = 2 ∨ C u i = 3 ∨ C u i = 5) ∧ W u i % 16 = nm) := by
    intro i
    show ((C (tk k) i = 2 ∨ C (tk k) i = 3 ∨ C (tk k) i = 5) ∧ W (tk k) i % 16 = nm) = _
    rw [hk]
  have key : ∀ m t, t + m = M u → (∀ i, i < t → lk_Q (fun k => C (tk k)) (fun k => W (tk k)) k nm i → lk_su (fun k => C (tk k)) (fun k => W (tk k)) d k i) → wX_wantsWrongly_8 post (nI u) (nI nm) (nI (50 * u)) f_draftCount f_openCount f_operandsDue f_faultPlace f_listCount f_takenCount f_culpritName f_memorySize f_operandCount f_pendingCount f_frameCount f_next f_outcome f_lastResult f_stepCount a_draftKind a_draftValue a_draftPartner a_openBlock a_unitKind a_unitValue a_unitPartner a_unitLength a_listedUnit a_listedAsLibrary a_takenUnit a_definition a_isDuplicate a_isWanted a_codeKind a_codeValue a_codePartner a_functionOf a_placeOf a_memory a_operands a_pendingToken a_pendingDue a_locals a_returnTo (m + 1) (nI (50 * u + t)) := by
    intro m
    induction m with
    | zero =>
      intro t ht hok
      exact ⟨pk_in u 5 hu, br_t (by rw [eb]; exact nI_le (by omega) (by omega)) (h0 (fun i hi => hok i (by omega)))⟩
    | succ m ih =>
      intro t ht hok
      obtain ⟨a1, a2, a3⟩ := hT t (by omega)
      have hin : vp_in (nI (50 * u + t)) 250 := pk_in (50 * u + t) 250 (by omega)
      have ec : (nI (50 * u + t)).toNatClampNeg = 50 * u + t := nI_clamp (by omega)
      have hnext : (lk_Q (fun k => C (tk k)) (fun k => W (tk k)) k nm t → lk_su (fun k => C (tk k)) (fun k => W (tk k)) d k t) → wX_wantsWrongly_8 post (nI u) (nI nm) (nI (50 * u)) f_draftCount f_openCount f_operandsDue f_faultPlace f_listCount f_takenCount f_culpritName f_memorySize f_operandCount f_pendingCount f_frameCount f_next f_outcome f_lastResult f_stepCount a_draftKind a_draftValue a_draftPartner a_openBlock a_unitKind a_unitValue a_unitPartner a_unitLength a_listedUnit a_listedAsLibrary a_takenUnit a_definition a_isDuplicate a_isWanted a_codeKind a_codeValue a_codePartner a_functionOf a_placeOf a_memory a_operands a_pendingToken a_pendingDue a_locals a_returnTo (m + 1) (nI (50 * u + t) + 1) := by
        intro h
        rw [nI_1]
        exact ih (t + 1) (by omega) (fun i hi => by
          by_cases z : i = t
          · subst z; exact h
          · exact hok i (by omega))
      refine ⟨pk_in u 5 hu, br_f (by rw [eb]; exact nI_ge (by omega) (by omega)) ⟨hin, ?_⟩⟩
      rw [ec, a1]
      refine xt_isuse a2.1 (fun hq => br_f (by decide) ⟨hin, ?_⟩) (fun hq => br_t rfl (nm_e (hnext (fun z => absurd (by rw [eQ] at z; exact z.1) hq))))
      obtain ⟨v1, v2, v3⟩ := tw_U a2 hq
      show (_ → _) ∧ (_ → _)
      rw [tw_U16 a2 hq, a3]
      rw [a3] at v1 v2 v3
      refine pk_eq (W u t % 16) nm (fun e => ⟨pk_in nm 12 hnm, ?_⟩) (fun e => nm_e (hnext (fun z => absurd (by rw [eQ] at z; exact z.2) e)))
      have hQ : lk_Q (fun k => C (tk k)) (fun k => W (tk k)) k nm t := by rw [eQ]; exact ⟨hq, e⟩
      rw [nI_clamp (show nm < 2 ^ 31 by omega), hde]
      exact xl_suits (k := k) hu (by omega) hX hq hk h5 hd hdd (fun z => br_f (by decide) (nm_e (hnext (fun _ => z)))) (fun z => br_t rfl (h1 ⟨t, by omega, hQ, z⟩))
  refine nm_r e50 ⟨M u + 1, ?_⟩
  exact key (M u) 0 (by omega) (fun i h => absurd h (by omega))
theorem xl_want {post : Int32 → Prop} {n nm : Nat} (hn : n ≤ 5) (hnm : nm < 12) (hX : ∀ u, u < 5 → yr_R a_unitKind a_unitValue a_unitLength u (C u) (W u) (M u)) (htk : ∀ k, k < n → tk k < 5) (htu : ∀ k, k < n → a_takenUnit k = nI (tk k)) (hI : xt_I (fun k => C (tk k)) (fun k => W (tk k)) (fun k => M (tk k)) tk n a_definition a_isDuplicate a_isWanted) (hno : lk_u (fun k => C (tk k)) (fun k => W (tk k)) (fun k => M (tk k)) nm n = false)
    (hp : ∀ r, lk_R (fun k => C (tk k)) (fun k => W (tk k)) (fun k => M (tk k)) nm n r → post r) : wpX_wantFault post (f_draftCount, f_openCount, f_operandsDue, f_faultPlace, f_listCount, nI n, f_culpritName, f_memorySize, f_operandCount, f_pendingCount, f_frameCount, f_next, f_outcome, f_lastResult, f_stepCount, a_draftKind, a_draftValue, a_draftPartner, a_openBlock, a_unitKind, a_unitValue, a_unitPartner, a_unitLength, a_listedUnit, a_listedAsLibrary, a_takenUnit, a_definition, a_isDuplicate, a_isWanted, a_codeKind, a_codeValue, a_codePartner, a_functionOf, a_placeOf, a_memory, a_operands, a_pendingToken, a_pendingDue, a_locals, a_returnTo) (nI nm) := by
  obtain ⟨i1, i2, i3⟩ := hI nm hnm
  have hLk : ∀ k, k < n → M (tk k) ≤ 50 := fun k hk => (hX _ (htk k hk)).1
  have hag := @lk_agree (fun k => C (tk k)) (fun k => W (tk k)) (fun k => M (tk k)) nm n hLk
  rw [hag.2.1 hno] at i1
  have ecn : (nI nm).toNatClampNeg = nm := nI_clamp (by omega)
  have hin : vp_in (nI nm) 12 := pk_in nm 12 hnm
  refine ⟨hin, ?_⟩
  rw [ecn]
  refine br_c (fun z => hp 0 (Or.inl ⟨rfl, fun k hk i hi hq => absurd ⟨k, hk, i, hi, hq⟩ (i3.mp z)⟩)) (fun z => ⟨hin, ?_⟩)
  have hW : lk_W (fun k => C (tk k)) (fun k => W (tk k)) (fun k => M (tk k)) nm n := Classical.byContradiction (fun q => z (i3.mpr q))
  rw [i1]
  cases eb : lk_b (fun k => C (tk k)) (fun k => W (tk k)) (fun k => M (tk k)) nm n with
  | none => exact br_t rfl (hp 4 (Or.inr (Or.inl ⟨rfl, hW, eb⟩)))
  | some d =>
    have hd := lk_b_in hLk eb
    have h5 := htk _ hd.1
    have hdd : C (tk (d / 50)) (d % 50) = 28 ∨ C (tk (d / 50)) (d % 50) = 29 := hd.2.2.1
    have h50 := hLk _ hd.1
    rw [eb] at i1
    refine br_f (ba_m1 (by omega)) ⟨n + 1, ?_⟩
    have key : ∀ m k, k + m = n → (∀ k', k' < k → ∀ i, i < M (tk k') → lk_Q (fun k => C (tk k)) (fun k => W (tk k)) k' nm i → lk_su (fun k => C (tk k)) (fun k => W (tk k)) d k' i) → wX_wantFault_25 post (nI nm) f_draftCount f_openCount f_operandsDue f_faultPlace f_listCount (nI n) f_culpritName f_memorySize f_operandCount f_pendingCount f_frameCount f_next f_outcome f_lastResult f_stepCount a_draftKind a_draftValue a_draftPartner a_openBlock a_unitKind a_unitValue a_unitPartner a_unitLength a_listedUnit a_listedAsLibrary a_takenUnit a_definition a_isDuplicate a_isWanted a_codeKind a_codeValue a_codePartner a_functionOf a_placeOf a_memory a_operands a_pendingToken a_pendingDue a_locals a_returnTo (m + 1) (nI k) := by
      intro m
      induction m with
      | zero =>
        intro k hk hok
        exact br_t (nI_le (by omega) (by omega)) (hp 0 (Or.inl ⟨rfl, fun k' hk' i hi hq => ⟨d, eb, hok k' (by omega) i hi hq⟩⟩))
      | succ m ih =>
        intro k hk hok
        refine br_f (nI_ge (by omega) (by omega)) ⟨pk_in k 5 (by omega), ?_⟩
        rw [nI_clamp (show k < 2 ^ 31 by omega), htu k (by omega)]
        refine xl_wrong (k := k) (htk k (by omega)) hnm hX rfl h5 hd.2.1 hdd i1 (fun ⟨i, a, b, c⟩ => br_f (by decide) (hp 5 (Or.inr (Or.inr ⟨rfl, d, eb, k, by omega, i, a, b, c⟩)))) (fun h => br_t rfl (nm_r (nI_1 k) (ih (k + 1) (by omega) (fun k' hk' => ?_))))
        by_cases y : k' = k
        · subst y; exact h
        · exact hok k' (by omega)
    exact key n 0 (by omega) (fun k h => absurd h (by omega))
theorem xl_words {post : Int32 → Prop} {n : Nat} (hX : ∀ u, u < 5 → yr_R a_unitKind a_unitValue a_unitLength u (C u) (W u) (M u)) (htk : ∀ k, k < n → tk k < 5) (hI : xt_I (fun k => C (tk k)) (fun k => W (tk k)) (fun k => M (tk k)) tk n a_definition a_isDuplicate a_isWanted) (hno : ∀ nm, nm < 12 → lk_u (fun k => C (tk k)) (fun k => W (tk k)) (fun k => M (tk k)) nm n = false)
    (hp : post (nI (lk_o (fun k => C (tk k)) (fun k => W (tk k)) (fun k => M (tk k)) n (50 * n)))) : wpX_wordsNeeded post (f_draftCount, f_openCount, f_operandsDue, f_faultPlace, f_listCount, f_takenCount, f_culpritName, f_memorySize, f_operandCount, f_pendingCount, f_frameCount, f_next, f_outcome, f_lastResult, f_stepCount, a_draftKind, a_draftValue, a_draftPartner, a_openBlock, a_unitKind, a_unitValue, a_unitPartner, a_unitLength, a_listedUnit, a_listedAsLibrary, a_takenUnit, a_definition, a_isDuplicate, a_isWanted, a_codeKind, a_codeValue, a_codePartner, a_functionOf, a_placeOf, a_memory, a_operands, a_pendingToken, a_pendingDue, a_locals, a_returnTo) := by
  have hLk : ∀ k, k < n → M (tk k) ≤ 50 := fun k hk => (hX _ (htk k hk)).1
  rw [← lk_sum (K := fun k => C (tk k)) (V := fun k => W (tk k)) (L := fun k => M (tk k)) hLk (fun k hk i hi he => by
    obtain ⟨_, a2, a3⟩ := (hX _ (htk k hk)).2.2 i hi
    have := tw_V a2 (Or.inr he)
    rw [a3] at this
    exact this.2.2) (50 * n) (Nat.le_refl _)] at hp
  have key : ∀ m nm, nm + m = 12 → wX_wordsNeeded_4 post f_draftCount f_openCount f_operandsDue f_faultPlace f_listCount f_takenCount f_culpritName f_memorySize f_operandCount f_pendingCount f_frameCount f_next f_outcome f_lastResult f_stepCount a_draftKind a_draftValue a_draftPartner a_openBlock a_unitKind a_unitValue a_unitPartner a_unitLength a_listedUnit a_listedAsLibrary a_takenUnit a_definition a_isDuplicate a_isWanted a_codeKind a_codeValue a_codePartner a_functionOf a_placeOf a_memory a_operands a_pendingToken a_pendingDue a_locals a_returnTo (m + 1) (nI (sm (lk_n (fun k => C (tk k)) (fun k => W (tk k)) (fun k => M (tk k)) n (50 * n)) nm)) (nI nm) := by
    intro m
    induction m with
    | zero =>
      intro nm hm
      have e : nm = 12 := by omega
      subst e
      exact br_t (by decide) hp
    | succ m ih =>
      intro nm hm
      obtain ⟨i1, i2, i3⟩ := hI nm (by omega)
      have hag := @lk_agree (fun k => C (tk k)) (fun k => W (tk k)) (fun k => M (tk k)) nm n hLk
      rw [hag.2.1 (hno nm (by omega))] at i1
      have ecn : (nI nm).toNatClampNeg = nm := nI_clamp (by omega)
      have hin : vp_in (nI nm) 12 := pk_in nm 12 (by omega)
      have ihn := ih (nm + 1) (by omega)
      rw [show sm (lk_n (fun k => C (tk k)) (fun k => W (tk k)) (fun k => M (tk k)) n (50 * n)) (nm + 1) = sm (lk_n (fun k => C (tk k)) (fun k => W (tk k)) (fun k => M (tk k)) n (50 * n)) nm + lk_n (fun k => C (tk k)) (fun k => W (tk k)) (fun k => M (tk k)) n (50 * n) nm from rfl] at ihn
      refine br_f (nI_ge (b := 12) (by omega) (by omega)) ⟨hin, nm_r (e' := xe tk (lk_b (fun k => C (tk k)) (fun k => W (tk k)) (fun k => M (tk k)) nm n)) (by rw [ecn, i1]) ?_⟩
      cases eb : lk_b (fun k => C (tk k)) (fun k => W (tk k)) (fun k => M (tk k)) nm n with
      | none =>
        have e0 : lk_n (fun k => C (tk k)) (fun k => W (tk k)) (fun k => M (tk k)) n (50 * n) nm = 0 := by unfold lk_n; rw [eb]
        rw [e0] at ihn
        exact br_t rfl (nm_r (nI_1 nm) ihn)
      | some d =>
        have hd := lk_b_in hLk eb
        have h5 := htk _ hd.1
        have h50 : M (tk (d / 50)) ≤ 50 := hLk _ hd.1
        have hd2 : d % 50 < M (tk (d / 50)) := hd.2.1
        obtain ⟨b1, b2, b3⟩ := (hX _ h5).2.2 _ hd2
        have hind : vp_in (nI (50 * tk (d / 50) + d % 50)) 250 := pk_in (50 * tk (d / 50) + d % 50) 250 (by omega)
        have ecd : (nI (50 * tk (d / 50) + d % 50)).toNatClampNeg = 50 * tk (d / 50) + d % 50 := nI_clamp (by omega)
        have en : lk_n (fun k => C (tk k)) (fun k => W (tk k)) (fun k => M (tk k)) n (50 * n) nm = if C (tk (d / 50)) (d % 50) = 29 ∧ d < 50 * n then lk_z (fun k => W (tk k)) d else 0 := by unfold lk_n; rw [eb]
        have h9 := b2.1
        refine br_f (ba_m1 (by omega)) ⟨hind, ?_⟩
        show (a_unitKind (nI (50 * tk (d / 50) + d % 50)).toNatClampNeg = 29 → _) ∧ (¬ a_unitKind (nI (50 * tk (d / 50) + d % 50)).toNatClampNeg = 29 → _)
        rw [ecd, b1]
        refine pk_eq (C (tk (d / 50)) (d % 50)) 29 (fun e => ⟨hind, ?_⟩) (fun e => ?_)
        · obtain ⟨v1, v2, v3⟩ := tw_V b2 (Or.inr e)
          rw [b3] at v1 v2 v3
          show ∀ x, x = nI (sm _ nm) + (((a_unitValue (nI (50 * tk (d / 50) + d % 50)).toNatClampNeg >>> ((4 : Int32) &&& 31)) &&& 7) + 1) → _
          rw [en, if_pos ⟨e, by omega⟩] at ihn
          refine nm_r (by rw [ecd, v1, ba_sz (by omega), nI_1, nI_add]; rfl) (nm_r (nI_1 nm) ihn)
        · rw [en, if_neg (fun z => e z.1)] at ihn
          exact nm_r (nI_1 nm) ihn
  exact ⟨13, key 12 0 (by omega)⟩
theorem xl_fault {post : Int32 → SX → Prop} {n : Nat} (hn : n ≤ 5) (hX : ∀ u, u < 5 → yr_R a_unitKind a_unitValue a_unitLength u (C u) (W u) (M u)) (htk : ∀ k, k < n → tk k < 5) (htu : ∀ k, k < n → a_takenUnit k = nI (tk k)) (hI : xt_I (fun k => C (tk k)) (fun k => W (tk k)) (fun k => M (tk k)) tk n a_definition a_isDuplicate a_isWanted)
    (hp : ∀ r cul, lk_Z (fun k => C (tk k)) (fun k => W (tk k)) (fun k => M (tk k)) n r cul → post r (f_draftCount, f_openCount, f_operandsDue, f_faultPlace, f_listCount, nI n, cul, f_memorySize, f_operandCount, f_pendingCount, f_frameCount, f_next, f_outcome, f_lastResult, f_stepCount, a_draftKind, a_draftValue, a_draftPartner, a_openBlock, a_unitKind, a_unitValue, a_unitPartner, a_unitLength, a_listedUnit, a_listedAsLibrary, a_takenUnit, a_definition, a_isDuplicate, a_isWanted, a_codeKind, a_codeValue, a_codePartner, a_functionOf, a_placeOf, a_memory, a_operands, a_pendingToken, a_pendingDue, a_locals, a_returnTo)) : wpX_linkFault post (f_draftCount, f_openCount, f_operandsDue, f_faultPlace, f_listCount, nI n, -1, f_memorySize, f_operandCount, f_pendingCount, f_frameCount, f_next, f_outcome, f_lastResult, f_stepCount, a_draftKind, a_draftValue, a_draftPartner, a_openBlock, a_unitKind, a_unitValue, a_unitPartner, a_unitLength, a_listedUnit, a_listedAsLibrary, a_takenUnit, a_definition, a_isDuplicate, a_isWanted, a_codeKind, a_codeValue, a_codePartner, a_functionOf, a_placeOf, a_memory, a_operands, a_pendingToken, a_pendingDue, a_locals, a_returnTo) := by
  have hLk : ∀ k, k < n → M (tk k) ≤ 50 := fun k hk => (hX _ (htk k hk)).1
  have hag := fun nm => @lk_agree (fun k => C (tk k)) (fun k => W (tk k)) (fun k => M (tk k)) nm n hLk
  have hu2 : ∀ nm, lk_u (fun k => C (tk k)) (fun k => W (tk k)) (fun k => M (tk k)) nm n = false ↔ lk_s (fun k => C (tk k)) (fun k => W (tk k)) (fun k => M (tk k)) nm n < 2 := by
    intro nm
    have := (hag nm).2.2.2.2.2
    cases e : lk_u (fun k => C (tk k)) (fun k => W (tk k)) (fun k => M (tk k)) nm n with
    | false =>
      rw [e] at this
      exact ⟨fun _ => Nat.not_le.mp (fun q => nomatch this.mpr q), fun _ => rfl⟩
    | true =>
      rw [e] at this
      have := this.mp rfl
      exact ⟨fun q => (nomatch q), fun q => absurd q (by omega)⟩
  have h32 : (∀ nm, nm < 12 → lk_s (fun k => C (tk k)) (fun k => W (tk k)) (fun k => M (tk k)) nm n < 2) → ∀ m nm, nm + m = 12 → (∀ q, q < nm → lk_R (fun k => C (tk k)) (fun k => W (tk k)) (fun k => M (tk k)) q n 0) → wX_linkFault_32 post f_draftCount f_openCount f_operandsDue f_faultPlace f_listCount (nI n) (-1) f_memorySize f_operandCount f_pendingCount f_frameCount f_next f_outcome f_lastResult f_stepCount a_draftKind a_draftValue a_draftPartner a_openBlock a_unitKind a_unitValue a_unitPartner a_unitLength a_listedUnit a_listedAsLibrary a_takenUnit a_definition a_isDuplicate a_isWanted a_codeKind a_codeValue a_codePartner a_functionOf a_placeOf a_memory a_operands a_pendingToken a_pendingDue a_locals a_returnTo (m + 1) (nI nm) := by
    intro hs m
    induction m with
    | zero =>
      intro nm hm hall
      have hle := @lk_o_le (fun k => C (tk k)) (fun k => W (tk k)) (fun k => M (tk k)) n (50 * n)
      refine br_t (nI_le (a := 12) (by omega) (by omega)) (xl_words hX htk hI (fun q hq => (hu2 q).mpr (hs q hq)) (pk_le (lk_o (fun k => C (tk k)) (fun k => W (tk k)) (fun k => M (tk k)) n (50 * n)) 48 (fun h => ?_) (fun h => ?_)))
      · exact hp 0 (-1) (Or.inr ⟨hs, Or.inr ⟨fun q hq => hall q (by omega), rfl, Or.inr ⟨h, rfl⟩⟩⟩)
      · exact hp 6 (-1) (Or.inr ⟨hs, Or.inr ⟨fun q hq => hall q (by omega), rfl, Or.inl ⟨h, rfl⟩⟩⟩)
    | succ m ih =>
      intro nm hm hall
      refine br_f (nI_ge (b := 12) (by omega) (by omega)) (xl_want hn (by omega) hX htk htu hI ((hu2 nm).mpr (hs nm (by omega))) (fun r hr => br_c (fun z => nm_r (nI_1 nm) (ih (nm + 1) (by omega) (fun q hq => ?_))) (fun z => hp r (nI nm) (Or.inr ⟨hs, Or.inl ⟨nm, by omega, z, hr, hall, rfl⟩⟩))))
      by_cases y : q = nm
      · rw [y, ← z]; exact hr
      · exact hall q (by omega)
  have h2 : ∀ m nm, nm + m = 12 → (∀ q, q < nm → lk_s (fun k => C (tk k)) (fun k => W (tk k)) (fun k => M (tk k)) q n < 2) → wX_linkFault_2 post f_draftCount f_openCount f_operandsDue f_faultPlace f_listCount (nI n) (-1) f_memorySize f_operandCount f_pendingCount f_frameCount f_next f_outcome f_lastResult f_stepCount a_draftKind a_draftValue a_draftPartner a_openBlock a_unitKind a_unitValue a_unitPartner a_unitLength a_listedUnit a_listedAsLibrary a_takenUnit a_definition a_isDuplicate a_isWanted a_codeKind a_codeValue a_codePartner a_functionOf a_placeOf a_memory a_operands a_pendingToken a_pendingDue a_locals a_returnTo (m + 1) (nI nm) := by
    intro m
    induction m with
    | zero =>
      intro nm hm hall
      exact br_t (nI_le (a := 12) (by omega) (by omega)) ⟨13, h32 (fun q hq => hall q (by omega)) 12 0 (by omega) (fun q h => absurd h (by omega))⟩
    | succ m ih =>
      intro nm hm hall
      have ecn : (nI nm).toNatClampNeg = nm := nI_clamp (by omega)
      obtain ⟨i1, i2, i3⟩ := hI nm (by omega)
      refine br_f (nI_ge (b := 12) (by omega) (by omega)) ⟨pk_in nm 12 (by omega), ?_⟩
      rw [ecn]
      refine br_c (fun z => nm_r (nI_1 nm) (ih (nm + 1) (by omega) (fun q hq => ?_))) (fun z => hp 3 (nI nm) (Or.inl ⟨nm, by omega, ?_, hall, rfl, rfl⟩))
      · by_cases y : q = nm
        · rw [y]; exact (hu2 nm).mp (i2.mp z)
        · exact hall q (by omega)
      · exact Nat.not_lt.mp (fun q => z (i2.mpr ((hu2 nm).mpr q)))
  exact ⟨13, h2 12 0 (by omega) (fun q h => absurd h (by omega))⟩
end
