/-! taking the units, on the component's side -/
def xe (tk : Nat → Nat) (o : Option Nat) : Int32 := match o with
  | none => -1
  | some c => nI (50 * tk (c / 50) + c % 50)
def xt_I (K V : Nat → Nat → Nat) (L tk : Nat → Nat) (n : Nat) (de du wa : Nat → Int32) : Prop := ∀ nm, nm < 12 → de nm = xe tk (lk_x K V L nm n) ∧ (du nm = 0 ↔ lk_u K V L nm n = false) ∧ (wa nm = 0 ↔ ¬ lk_W K V L nm n)
/-- in the midst of row n -/
def xt_P (K V : Nat → Nat → Nat) (L tk : Nat → Nat) (n t : Nat) (de du wa : Nat → Int32) : Prop := ∀ nm, nm < 12 → de nm = xe tk (lk_X1 K V n (lk_x K V L nm n) (lk_f K V n nm t)) ∧ (du nm = 0 ↔ lk_U1 K V n (lk_u K V L nm n) (lk_x K V L nm n) (lk_f K V n nm t) = false) ∧ (wa nm = 0 ↔ ¬ (lk_W K V L nm n ∨ ∃ i, i < t ∧ lk_Q K V n nm i))
theorem xt_end {K V : Nat → Nat → Nat} {L tk : Nat → Nat} {n : Nat} {de du wa : Nat → Int32} (h : xt_P K V L tk n (L n) de du wa) : xt_I K V L tk (n + 1) de du wa := by
  intro nm hnm
  obtain ⟨a, b, c⟩ := h nm hnm
  refine ⟨a, b, ?_⟩
  rw [c]
  refine not_congr ⟨?_, ?_⟩
  · rintro (⟨k, hk, x⟩ | ⟨i, hi, hq⟩)
    · exact ⟨k, by omega, x⟩
    · exact ⟨n, by omega, i, hi, hq⟩
  · rintro ⟨k, hk, i, hi, hq⟩
    by_cases z : k = n
    · subst z; exact Or.inr ⟨i, hi, hq⟩
    · exact Or.inl ⟨k, by omega, i, hi, hq⟩
theorem xt_begin {K V : Nat → Nat → Nat} {L tk : Nat → Nat} {n : Nat} {de du wa : Nat → Int32} (h : xt_I K V L tk n de du wa) : xt_P K V L tk n 0 de du wa := by
  intro nm hnm
  obtain ⟨a, b, c⟩ := h nm hnm
  refine ⟨a, b, ?_⟩
  rw [c]
  refine not_congr ⟨Or.inl, ?_⟩
  rintro (x | ⟨i, hi, _⟩)
  · exact x
  · exact absurd hi (Nat.not_lt_zero _)
theorem xt_cong {K V K' V' : Nat → Nat → Nat} {L L' tk tk' : Nat → Nat} {n : Nat} {de du wa : Nat → Int32} (hL : ∀ k, k < n → L k ≤ 50) (hE : lk_E K V K' V' L L' n) (ht : ∀ k, k < n → tk k = tk' k) (h : xt_I K V L tk n de du wa) : xt_I K' V' L' tk' n de du wa := by
  intro nm hnm
  obtain ⟨a, b, c⟩ := h nm hnm
  obtain ⟨_, e2, e3, _⟩ := @lk_cong K V K' V' L L' nm n hL hE
  refine ⟨?_, by rw [← e3]; exact b, by rw [← lk_W_cong hE]; exact c⟩
  rw [a, ← e2]
  cases e : lk_x K V L nm n with
  | none => rfl
  | some c =>
    have := (lk_x_in hL e).1
    exact congrArg nI (by rw [ht _ this])
theorem xt_weak {post : Int32 → Prop} {K V : Nat → Nat → Nat} {k i : Nat} {v : Int32} (hP : tk_P (K k i) v) (hV : v.toNatClampNeg = V k i) (hd : K k i = 28 ∨ K k i = 29) (h1 : lk_w K V k i = true → post 1) (h0 : lk_w K V k i = false → post 0) : wpX_isWeak post (nI (K k i)) v := by
  obtain ⟨v1, v2, v3⟩ := tw_V hP hd
  rw [hV] at v1 v2 v3
  rw [v1]
  refine pk_eq (K k i) 28 (fun e => pk_lt (V k i) 64 (fun z => h0 ?_) (fun z => h1 ?_)) (fun e => pk_lt (V k i) 128 (fun z => h0 ?_) (fun z => h1 ?_))
  · unfold lk_w; rw [if_pos e]; exact decide_eq_false (by omega)
  · unfold lk_w; rw [if_pos e]; exact decide_eq_true (by omega)
  · unfold lk_w; rw [if_neg e]; exact decide_eq_false (by omega)
  · unfold lk_w; rw [if_neg e]; exact decide_eq_true (by omega)
theorem xt_isuse {post : Int32 → Prop} {k : Nat} (hk : k ≤ 29) (h1 : (k = 2 ∨ k = 3 ∨ k = 5) → post 1) (h0 : ¬ (k = 2 ∨ k = 3 ∨ k = 5) → post 0) : wpX_isUse post (nI k) :=
  pk_eq k 2 (fun e => h1 (Or.inl e)) (fun e => pk_eq k 3 (fun e2 => h1 (Or.inr (Or.inl e2))) (fun e2 => pk_eq k 5 (fun e3 => h1 (Or.inr (Or.inr e3))) (fun e3 => h0 (by omega))))
section
variable {f_draftCount f_openCount f_operandsDue f_faultPlace f_listCount f_takenCount f_culpritName f_memorySize f_operandCount f_pendingCount f_frameCount f_next f_outcome f_lastResult f_stepCount : Int32} {a_draftKind a_draftValue a_draftPartner a_openBlock a_unitKind a_unitValue a_unitPartner a_unitLength a_listedUnit a_listedAsLibrary a_takenUnit a_definition a_isDuplicate a_isWanted a_codeKind a_codeValue a_codePartner a_functionOf a_placeOf a_memory a_operands a_pendingToken a_pendingDue a_locals a_returnTo : Nat → Int32}
variable {C W : Nat → Nat → Nat} {M tk : Nat → Nat}
theorem xt_use {post : Int32 → Prop} {n u : Nat} (hu : u < 5) (hX : ∀ u, u < 5 → yr_R a_unitKind a_unitValue a_unitLength u (C u) (W u) (M u)) (htk : ∀ k, k < n → tk k < 5) (hI : xt_I (fun k => C (tk k)) (fun k => W (tk k)) (fun k => M (tk k)) tk n a_definition a_isDuplicate a_isWanted)
    (h1 : lk_O C W M u (fun k => C (tk k)) (fun k => W (tk k)) (fun k => M (tk k)) n → post 1) (h0 : ¬ lk_O C W M u (fun k => C (tk k)) (fun k => W (tk k)) (fun k => M (tk k)) n → post 0) : wpX_isOfUse post (f_draftCount, f_openCount, f_operandsDue, f_faultPlace, f_listCount, f_takenCount, f_culpritName, f_memorySize, f_operandCount, f_pendingCount, f_frameCount, f_next, f_outcome, f_lastResult, f_stepCount, a_draftKind, a_draftValue, a_draftPartner, a_openBlock, a_unitKind, a_unitValue, a_unitPartner, a_unitLength, a_listedUnit, a_listedAsLibrary, a_takenUnit, a_definition, a_isDuplicate, a_isWanted, a_codeKind, a_codeValue, a_codePartner, a_functionOf, a_placeOf, a_memory, a_operands, a_pendingToken, a_pendingDue, a_locals, a_returnTo) (nI u) := by
  obtain ⟨hL, hs, hT⟩ := hX u hu
  have hLk : ∀ k, k < n → M (tk k) ≤ 50 := fun k hk => (hX _ (htk k hk)).1
  have e50 : nI u * 50 = nI (50 * u) := by rw [show (50 : Int32) = nI 50 from rfl, pk_mul, Nat.mul_comm]
  have eb : nI (50 * u) + a_unitLength (nI u).toNatClampNeg = nI (50 * u + M u) := by rw [nI_clamp (by omega), hs, nI_add]
  have key : ∀ m t, t + m = M u → (∀ i, i < t → (C u i = 28 ∨ C u i = 29) → ¬ (lk_W (fun k => C (tk k)) (fun k => W (tk k)) (fun k => M (tk k)) (W u i % 16) n ∧ lk_b (fun k => C (tk k)) (fun k => W (tk k)) (fun k => M (tk k)) (W u i % 16) n = none)) → wX_isOfUse_7 post (nI u) (nI (50 * u)) f_draftCount f_openCount f_operandsDue f_faultPlace f_listCount f_takenCount f_culpritName f_memorySize f_operandCount f_pendingCount f_frameCount f_next f_outcome f_lastResult f_stepCount a_draftKind a_draftValue a_draftPartner a_openBlock a_unitKind a_unitValue a_unitPartner a_unitLength a_listedUnit a_listedAsLibrary a_takenUnit a_definition a_isDuplicate a_isWanted a_codeKind a_codeValue a_codePartner a_functionOf a_placeOf a_memory a_operands a_pendingToken a_pendingDue a_locals a_returnTo (m + 1) (nI (50 * u + t)) := by
    intro m
    induction m with
    | zero =>
      intro t ht hno
      refine ⟨pk_in u 5 hu, br_t (by rw [eb]; exact nI_le (by omega) (by omega)) (h0 ?_)⟩
      rintro ⟨i, a, b, c, d⟩
      exact hno i (by omega) b ⟨c, d⟩
    | succ m ih =>
      intro t ht hno
      obtain ⟨a1, a2, a3⟩ := hT t (by omega)
      have hin : vp_in (nI (50 * u + t)) 250 := pk_in (50 * u + t) 250 (by omega)
      have ec : (nI (50 * u + t)).toNatClampNeg = 50 * u + t := nI_clamp (by omega)
      have hnext : ((C u t = 28 ∨ C u t = 29) → ¬ (lk_W (fun k => C (tk k)) (fun k => W (tk k)) (fun k => M (tk k)) (W u t % 16) n ∧ lk_b (fun k => C (tk k)) (fun k => W (tk k)) (fun k => M (tk k)) (W u t % 16) n = none)) → wX_isOfUse_7 post (nI u) (nI (50 * u)) f_draftCount f_openCount f_operandsDue f_faultPlace f_listCount f_takenCount f_culpritName f_memorySize f_operandCount f_pendingCount f_frameCount f_next f_outcome f_lastResult f_stepCount a_draftKind a_draftValue a_draftPartner a_openBlock a_unitKind a_unitValue a_unitPartner a_unitLength a_listedUnit a_listedAsLibrary a_takenUnit a_definition a_isDuplicate a_isWanted a_codeKind a_codeValue a_codePartner a_functionOf a_placeOf a_memory a_operands a_pendingToken a_pendingDue a_locals a_returnTo (m + 1) (nI (50 * u + t) + 1) := by
        intro h
        rw [nI_1]
        exact ih (t + 1) (by omega) (fun i hi => by
          by_cases z : i = t
          · subst z; exact h
          · exact hno i (by omega))
      refine ⟨pk_in u 5 hu, br_f (by rw [eb]; exact nI_ge (by omega) (by omega)) ⟨hin, ?_⟩⟩
      show vp_in _ 250 ∧ _
      refine ⟨hin, ?_⟩
      rw [ec, a1]
      refine xd_isdef a2.1 (fun hd => br_f (by decide) ?_) (fun hd => br_t rfl (nm_e (hnext (fun z => absurd z hd))))
      obtain ⟨v1, v2, v3⟩ := tw_V a2 hd
      rw [a3] at v1 v2 v3
      obtain ⟨i1, i2, i3⟩ := hI _ v3
      have hag := @lk_agree (fun k => C (tk k)) (fun k => W (tk k)) (fun k => M (tk k)) (W u t % 16) n hLk
      rw [tw_V16 a2 hd, a3]
      have ecn : (nI (W u t % 16)).toNatClampNeg = W u t % 16 := nI_clamp (by omega)
      refine ⟨pk_in _ 12 v3, ?_⟩
      rw [ecn]
      refine br_c (fun z => nm_e (hnext (fun _ q => i3.mp z q.1))) (fun z => ⟨pk_in _ 12 v3, br_c (fun y => h1 ⟨t, by omega, hd, ?_, ?_⟩) (fun y => nm_e (hnext (fun _ q => y ?_)))⟩)
      · exact Classical.byContradiction (fun q => z (i3.mpr q))
      · rw [← hag.1]
        cases e : lk_x (fun k => C (tk k)) (fun k => W (tk k)) (fun k => M (tk k)) (W u t % 16) n with
        | none => rfl
        | some c =>
          have hc := lk_x_in hLk e
          have := htk _ hc.1
          rw [i1, e] at y
          exact absurd y (ba_m1 (by omega))
      · rw [i1, hag.1.mpr q.2]; rfl
  refine nm_r e50 ⟨M u + 1, ?_⟩
  exact key (M u) 0 (by omega) (fun i h => absurd h (by omega))
theorem xt_add {post : SX → Prop} {n u t : Nat} (hu : u < 5) (htn : tk n = u) (hX : ∀ u, u < 5 → yr_R a_unitKind a_unitValue a_unitLength u (C u) (W u) (M u)) (htk : ∀ k, k < n → tk k < 5) (ht : t < M u) (hd : C u t = 28 ∨ C u t = 29) (hTW : ∀ i, i < t → (C u i = 28 ∨ C u i = 29) → W u i % 16 ≠ W u t % 16)
    (hP : xt_P (fun k => C (tk k)) (fun k => W (tk k)) (fun k => M (tk k)) tk n t a_definition a_isDuplicate a_isWanted)
    (hp : ∀ de du, xt_P (fun k => C (tk k)) (fun k => W (tk k)) (fun k => M (tk k)) tk n (t + 1) de du a_isWanted → post (f_draftCount, f_openCount, f_operandsDue, f_faultPlace, f_listCount, f_takenCount, f_culpritName, f_memorySize, f_operandCount, f_pendingCount, f_frameCount, f_next, f_outcome, f_lastResult, f_stepCount, a_draftKind, a_draftValue, a_draftPartner, a_openBlock, a_unitKind, a_unitValue, a_unitPartner, a_unitLength, a_listedUnit, a_listedAsLibrary, a_takenUnit, de, du, a_isWanted, a_codeKind, a_codeValue, a_codePartner, a_functionOf, a_placeOf, a_memory, a_operands, a_pendingToken, a_pendingDue, a_locals, a_returnTo)) : wpX_addDefinition post (f_draftCount, f_openCount, f_operandsDue, f_faultPlace, f_listCount, f_takenCount, f_culpritName, f_memorySize, f_operandCount, f_pendingCount, f_frameCount, f_next, f_outcome, f_lastResult, f_stepCount, a_draftKind, a_draftValue, a_draftPartner, a_openBlock, a_unitKind, a_unitValue, a_unitPartner, a_unitLength, a_listedUnit, a_listedAsLibrary, a_takenUnit, a_definition, a_isDuplicate, a_isWanted, a_codeKind, a_codeValue, a_codePartner, a_functionOf, a_placeOf, a_memory, a_operands, a_pendingToken, a_pendingDue, a_locals, a_returnTo) (nI (50 * u + t)) := by
  obtain ⟨hL, hs, hT⟩ := hX u hu
  obtain ⟨a1, a2, a3⟩ := hT t ht
  have hLk : ∀ k, k < n → M (tk k) ≤ 50 := fun k hk => (hX _ (htk k hk)).1
  have hin : vp_in (nI (50 * u + t)) 250 := pk_in (50 * u + t) 250 (by omega)
  have ec : (nI (50 * u + t)).toNatClampNeg = 50 * u + t := nI_clamp (by omega)
  obtain ⟨v1, v2, v3⟩ := tw_V a2 hd
  rw [a3] at v1 v2 v3
  obtain ⟨i1, i2, i3⟩ := hP _ v3
  have hnone : lk_f (fun k => C (tk k)) (fun k => W (tk k)) n (W u t % 16) t = none := lk_f_none.mpr (fun j hj hD => by
    have h1 : C (tk n) j = 28 ∨ C (tk n) j = 29 := hD.1
    have h2 : W (tk n) j % 16 = W u t % 16 := hD.2
    rw [htn] at h1 h2
    exact hTW j hj h1 h2)
  have hsome : lk_f (fun k => C (tk k)) (fun k => W (tk k)) n (W u t % 16) (t + 1) = some t := lk_f_succ_d (show (C (tk n) t = 28 ∨ C (tk n) t = 29) ∧ W (tk n) t % 16 = W u t % 16 by rw [htn]; exact ⟨hd, rfl⟩) hnone
  have hoth : ∀ nm, nm ≠ W u t % 16 → lk_f (fun k => C (tk k)) (fun k => W (tk k)) n nm (t + 1) = lk_f (fun k => C (tk k)) (fun k => W (tk k)) n nm t := fun nm h => lk_f_succ_n (fun hD => h (by have h2 : W (tk n) t % 16 = nm := hD.2; rw [htn] at h2; exact h2.symm))
  have hq : ∀ nm, (∃ i, i < t + 1 ∧ lk_Q (fun k => C (tk k)) (fun k => W (tk k)) n nm i) ↔ (∃ i, i < t ∧ lk_Q (fun k => C (tk k)) (fun k => W (tk k)) n nm i) := by
    intro nm
    constructor
    · rintro ⟨i, hi, hQ⟩
      by_cases z : i = t
      · subst z
        have h1 : C (tk n) i = 2 ∨ C (tk n) i = 3 ∨ C (tk n) i = 5 := hQ.1
        rw [htn] at h1
        omega
      · exact ⟨i, by omega, hQ⟩
    · rintro ⟨i, hi, hQ⟩; exact ⟨i, by omega, hQ⟩
  rw [hnone] at i1 i2
  have i1' : a_definition (W u t % 16) = xe tk (lk_x (fun k => C (tk k)) (fun k => W (tk k)) (fun k => M (tk k)) (W u t % 16) n) := i1
  have i2' : a_isDuplicate (W u t % 16) = 0 ↔ lk_u (fun k => C (tk k)) (fun k => W (tk k)) (fun k => M (tk k)) (W u t % 16) n = false := i2
  have e1 : (50 * n + t) / 50 = n ∧ (50 * n + t) % 50 = t := by omega
  have exn : xe tk (some (50 * n + t)) = nI (50 * u + t) := by
    show nI (50 * tk ((50 * n + t) / 50) + (50 * n + t) % 50) = _
    rw [e1.1, e1.2, htn]
  have hfin : ∀ de du, de (W u t % 16) = xe tk (lk_X1 (fun k => C (tk k)) (fun k => W (tk k)) n (lk_x (fun k => C (tk k)) (fun k => W (tk k)) (fun k => M (tk k)) (W u t % 16) n) (some t)) → (du (W u t % 16) = 0 ↔ lk_U1 (fun k => C (tk k)) (fun k => W (tk k)) n (lk_u (fun k => C (tk k)) (fun k => W (tk k)) (fun k => M (tk k)) (W u t % 16) n) (lk_x (fun k => C (tk k)) (fun k => W (tk k)) (fun k => M (tk k)) (W u t % 16) n) (some t) = false) → (∀ nm, nm ≠ W u t % 16 → de nm = a_definition nm ∧ du nm = a_isDuplicate nm) → post (f_draftCount, f_openCount, f_operandsDue, f_faultPlace, f_listCount, f_takenCount, f_culpritName, f_memorySize, f_operandCount, f_pendingCount, f_frameCount, f_next, f_outcome, f_lastResult, f_stepCount, a_draftKind, a_draftValue, a_draftPartner, a_openBlock, a_unitKind, a_unitValue, a_unitPartner, a_unitLength, a_listedUnit, a_listedAsLibrary, a_takenUnit, de, du, a_isWanted, a_codeKind, a_codeValue, a_codePartner, a_functionOf, a_placeOf, a_memory, a_operands, a_pendingToken, a_pendingDue, a_locals, a_returnTo) := by
    intro de du h1 h2 h3
    refine hp de du (fun nm hnm => ?_)
    by_cases z : nm = W u t % 16
    · subst z
      rw [hsome, hq]
      exact ⟨h1, h2, i3⟩
    · rw [hoth nm z, hq, (h3 nm z).1, (h3 nm z).2]
      exact hP nm hnm
  have ecn : (nI (W u t % 16)).toNatClampNeg = W u t % 16 := nI_clamp (by omega)
  have hinn : vp_in (nI (W u t % 16)) 12 := pk_in _ 12 v3
  refine ⟨hin, ?_⟩
  show vp_in _ 12 ∧ _
  rw [ec, tw_V16 a2 hd, a3]
  refine ⟨hinn, nm_r (e' := xe tk (lk_x (fun k => C (tk k)) (fun k => W (tk k)) (fun k => M (tk k)) (W u t % 16) n)) (by rw [ecn, i1']) ?_⟩
  cases eo : lk_x (fun k => C (tk k)) (fun k => W (tk k)) (fun k => M (tk k)) (W u t % 16) n with
  | none =>
    rw [eo] at hfin
    refine br_t rfl ⟨hinn, nm_r (e' := upd a_definition (W u t % 16) (nI (50 * u + t))) (by rw [ecn]) ?_⟩
    refine hfin _ a_isDuplicate (by rw [pk_us]; exact exn.symm) i2' (fun nm h => ⟨pk_un h, rfl⟩)
  | some c =>
    rw [eo] at hfin
    have hc := lk_x_in hLk eo
    have h5 := htk _ hc.1
    have h50 := hLk _ hc.1
    obtain ⟨b1, b2, b3⟩ := (hX _ h5).2.2 _ hc.2.1
    have hdc : C (tk (c / 50)) (c % 50) = 28 ∨ C (tk (c / 50)) (c % 50) = 29 := hc.2.2.1
    have hinc : vp_in (nI (50 * tk (c / 50) + c % 50)) 250 := pk_in (50 * tk (c / 50) + c % 50) 250 (by omega)
    have ecc : (nI (50 * tk (c / 50) + c % 50)).toNatClampNeg = 50 * tk (c / 50) + c % 50 := nI_clamp (by omega)
    refine br_f (ba_m1 (by omega)) ⟨hin, hin, ?_⟩
    rw [a1]
    have hw1 : ∀ b, lk_w C W u t = b → lk_w (fun k => C (tk k)) (fun k => W (tk k)) n t = b := fun b h => by
      show (if C (tk n) t = 28 then decide (64 ≤ W (tk n) t) else decide (128 ≤ W (tk n) t)) = b
      rw [htn]; exact h
    refine xt_weak (K := C) (V := W) a2 a3 hd (fun w => br_f (by decide) ?_) (fun w => br_t rfl ⟨hinc, hinc, ?_⟩)
    · refine hfin a_definition a_isDuplicate ?_ ?_ (fun nm h => ⟨rfl, rfl⟩)
      · rw [i1', eo]
        refine congrArg (xe tk) (if_neg ?_).symm
        rw [hw1 _ w]; exact fun z => nomatch z
      · rw [i2']
        refine Eq.to_iff (congrArg (· = false) (if_neg ?_).symm)
        rw [hw1 _ w]; exact fun z => nomatch z.1
    · show wpX_isWeak _ (a_unitKind (nI (50 * tk (c / 50) + c % 50)).toNatClampNeg) (a_unitValue (nI (50 * tk (c / 50) + c % 50)).toNatClampNeg)
      rw [ecc, b1]
      refine xt_weak (K := C) (V := W) b2 b3 hdc (fun w2 => br_f (by decide) ⟨hinn, nm_r (e' := upd a_definition (W u t % 16) (nI (50 * u + t))) (by rw [ecn]) ?_⟩) (fun w2 => br_t rfl ⟨hinn, nm_r (e' := upd a_isDuplicate (W u t % 16) 1) (by rw [ecn, ba_z1]) ⟨hinn, nm_r (e' := upd a_definition (W u t % 16) (nI (50 * u + t))) (by rw [ecn]) ?_⟩⟩)
      · refine hfin _ a_isDuplicate ?_ ?_ (fun nm h => ⟨pk_un h, rfl⟩)
        · rw [pk_us, ← exn]
          exact congrArg (xe tk) (if_pos (hw1 _ w)).symm
        · rw [i2']
          refine Eq.to_iff (congrArg (· = false) (if_neg ?_).symm)
          intro z
          have : lk_w C W (tk (c / 50)) (c % 50) = false := z.2
          rw [w2] at this; exact nomatch this
      · refine hfin _ _ ?_ ?_ (fun nm h => ⟨pk_un h, pk_un h⟩)
        · rw [pk_us, ← exn]
          exact congrArg (xe tk) (if_pos (hw1 _ w)).symm
        · rw [pk_us]
          have : lk_U1 (fun k => C (tk k)) (fun k => W (tk k)) n (lk_u (fun k => C (tk k)) (fun k => W (tk k)) (fun k => M (tk k)) (W u t % 16) n) (some c) (some t) = true := if_pos ⟨hw1 _ w, w2⟩
          rw [this]
          exact ⟨fun z => absurd z (by decide), fun z => nomatch z⟩
end
