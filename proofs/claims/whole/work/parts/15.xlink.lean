/-! link as a whole, on the component's side -/
def lk_q (K V : Nat → Nat → Nat) (L tk : Nat → Nat) (n c nm : Nat) : Int32 := match lk_b K V L nm n with
  | none => -1
  | some d => if K (d / 50) (d % 50) = 28 ∧ d < c then nI (50 * tk (d / 50) + d % 50) else -1
theorem lk_q_no {K V : Nat → Nat → Nat} {L tk : Nat → Nat} {n c nm : Nat} (hL : ∀ k, k < n → L k ≤ 50) (h : ¬ (c % 50 < L (c / 50) ∧ K (c / 50) (c % 50) = 28 ∧ lk_b K V L (V (c / 50) (c % 50) % 16) n = some c)) : lk_q K V L tk n (c + 1) nm = lk_q K V L tk n c nm := by
  unfold lk_q
  cases e : lk_b K V L nm n with
  | none => rfl
  | some d =>
    have hd := lk_b_in hL e
    show (if _ then _ else _) = (if _ then _ else _)
    by_cases z : K (d / 50) (d % 50) = 28 ∧ d < c
    · rw [if_pos z, if_pos ⟨z.1, by omega⟩]
    · rw [if_neg z]
      refine if_neg (fun q => ?_)
      have e2 : d = c := by omega
      subst e2
      refine h ⟨hd.2.1, q.1, ?_⟩
      rw [hd.2.2.2]; exact e
theorem lk_q_yes {K V : Nat → Nat → Nat} {L tk : Nat → Nat} {n c nm : Nat} (hL : ∀ k, k < n → L k ≤ 50) (h1 : K (c / 50) (c % 50) = 28) (h2 : lk_b K V L (V (c / 50) (c % 50) % 16) n = some c) : lk_q K V L tk n (c + 1) nm = if nm = V (c / 50) (c % 50) % 16 then nI (50 * tk (c / 50) + c % 50) else lk_q K V L tk n c nm := by
  by_cases z : nm = V (c / 50) (c % 50) % 16
  · rw [if_pos z]
    unfold lk_q
    rw [z, h2]
    exact if_pos ⟨h1, by omega⟩
  · rw [if_neg z]
    unfold lk_q
    cases e : lk_b K V L nm n with
    | none => rfl
    | some d =>
      have hd := lk_b_in hL e
      show (if _ then _ else _) = (if _ then _ else _)
      have : d ≠ c := fun q => by subst q; exact z hd.2.2.2.symm
      by_cases y : K (d / 50) (d % 50) = 28 ∧ d < c
      · rw [if_pos y, if_pos ⟨y.1, by omega⟩]
      · rw [if_neg y, if_neg (fun q => y ⟨q.1, by omega⟩)]
theorem lk_q_0 {K V : Nat → Nat → Nat} {L tk : Nat → Nat} {n nm : Nat} : lk_q K V L tk n 0 nm = -1 := by
  unfold lk_q
  split
  · rfl
  · exact if_neg (fun q => absurd q.2 (Nat.not_lt_zero _))
def xl_V (K V : Nat → Nat → Nat) (L tk : Nat → Nat) (n : Nat) (val : Nat → Int32) (c : Nat) (ms : Int32) (fo po mem : Nat → Int32) : Prop := ms = nI (lk_o K V L n c) ∧ (∀ nm, nm < 12 → po nm = lk_p K V L n c nm ∧ fo nm = lk_q K V L tk n c nm) ∧ lk_m K V L n val c mem
theorem xl_V_skip {K V : Nat → Nat → Nat} {L tk : Nat → Nat} {n : Nat} {val : Nat → Int32} {c : Nat} {ms : Int32} {fo po mem : Nat → Int32} (hL : ∀ k, k < n → L k ≤ 50) (h : xl_V K V L tk n val c ms fo po mem) (hd : lk_dt K V L n c = false) (hf : ¬ (c % 50 < L (c / 50) ∧ K (c / 50) (c % 50) = 28 ∧ lk_b K V L (V (c / 50) (c % 50) % 16) n = some c)) : xl_V K V L tk n val (c + 1) ms fo po mem := by
  obtain ⟨a, b, d⟩ := h
  refine ⟨by rw [lk_o_no hd]; exact a, fun nm hnm => ?_, lk_m_no hd d⟩
  rw [lk_p_no hL hd, lk_q_no hL hf]
  exact b nm hnm
theorem xl_V_tail {K V : Nat → Nat → Nat} {L tk : Nat → Nat} {n : Nat} {val : Nat → Int32} {k : Nat} {ms : Int32} {fo po mem : Nat → Int32} (hL : ∀ k, k < n → L k ≤ 50) (hk : k < n) (h : xl_V K V L tk n val (50 * k + L k) ms fo po mem) : xl_V K V L tk n val (50 * (k + 1)) ms fo po mem := by
  have key : ∀ m, L k + m ≤ 50 → xl_V K V L tk n val (50 * k + (L k + m)) ms fo po mem := by
    intro m
    induction m with
    | zero => exact fun _ => h
    | succ m ih =>
      intro hm
      have h1 := ih (by omega)
      have e1 : (50 * k + (L k + m)) / 50 = k := by omega
      have e2 : (50 * k + (L k + m)) % 50 = L k + m := by omega
      have hn : ¬ (50 * k + (L k + m)) % 50 < L ((50 * k + (L k + m)) / 50) := by rw [e1, e2]; omega
      exact xl_V_skip hL h1 (decide_eq_false (fun q => hn q.1)) (fun q => hn q.1)
  have := hL k hk
  have h2 := key (50 - L k) (by omega)
  rw [show 50 * k + (L k + (50 - L k)) = 50 * (k + 1) by omega] at h2
  exact h2
section
variable {f_draftCount f_openCount f_operandsDue f_faultPlace f_listCount f_takenCount f_culpritName f_memorySize f_operandCount f_pendingCount f_frameCount f_next f_outcome f_lastResult f_stepCount : Int32} {a_draftKind a_draftValue a_draftPartner a_openBlock a_unitKind a_unitValue a_unitPartner a_unitLength a_listedUnit a_listedAsLibrary a_takenUnit a_definition a_isDuplicate a_isWanted a_codeKind a_codeValue a_codePartner a_functionOf a_placeOf a_memory a_operands a_pendingToken a_pendingDue a_locals a_returnTo : Nat → Int32}
variable {C W : Nat → Nat → Nat} {M tk : Nat → Nat}
theorem xl_copy {post : SX → Prop} (hp : ∀ ck cv cp, (∀ j, j < 250 → ck j = a_unitKind j ∧ cv j = a_unitValue j ∧ cp j = a_unitPartner j) → post (f_draftCount, f_openCount, f_operandsDue, f_faultPlace, f_listCount, f_takenCount, f_culpritName, f_memorySize, f_operandCount, f_pendingCount, f_frameCount, f_next, f_outcome, f_lastResult, f_stepCount, a_draftKind, a_draftValue, a_draftPartner, a_openBlock, a_unitKind, a_unitValue, a_unitPartner, a_unitLength, a_listedUnit, a_listedAsLibrary, a_takenUnit, a_definition, a_isDuplicate, a_isWanted, ck, cv, cp, a_functionOf, a_placeOf, a_memory, a_operands, a_pendingToken, a_pendingDue, a_locals, a_returnTo)) : wpX_copyUnits post (f_draftCount, f_openCount, f_operandsDue, f_faultPlace, f_listCount, f_takenCount, f_culpritName, f_memorySize, f_operandCount, f_pendingCount, f_frameCount, f_next, f_outcome, f_lastResult, f_stepCount, a_draftKind, a_draftValue, a_draftPartner, a_openBlock, a_unitKind, a_unitValue, a_unitPartner, a_unitLength, a_listedUnit, a_listedAsLibrary, a_takenUnit, a_definition, a_isDuplicate, a_isWanted, a_codeKind, a_codeValue, a_codePartner, a_functionOf, a_placeOf, a_memory, a_operands, a_pendingToken, a_pendingDue, a_locals, a_returnTo) := by
  have key : ∀ m t ck cv cp, t + m = 250 → (∀ j, j < t → ck j = a_unitKind j ∧ cv j = a_unitValue j ∧ cp j = a_unitPartner j) → wX_copyUnits_2 post f_draftCount f_openCount f_operandsDue f_faultPlace f_listCount f_takenCount f_culpritName f_memorySize f_operandCount f_pendingCount f_frameCount f_next f_outcome f_lastResult f_stepCount (m + 1) (nI t) a_draftKind a_draftValue a_draftPartner a_openBlock a_unitKind a_unitValue a_unitPartner a_unitLength a_listedUnit a_listedAsLibrary a_takenUnit a_definition a_isDuplicate a_isWanted ck cv cp a_functionOf a_placeOf a_memory a_operands a_pendingToken a_pendingDue a_locals a_returnTo := by
    intro m
    induction m with
    | zero =>
      intro t ck cv cp ht h
      exact br_t (nI_le (a := 250) (by omega) (by omega)) (hp ck cv cp (fun j hj => h j (by omega)))
    | succ m ih =>
      intro t ck cv cp ht h
      have hin : vp_in (nI t) 250 := pk_in t 250 (by omega)
      have ec : (nI t).toNatClampNeg = t := nI_clamp (by omega)
      refine br_f (nI_ge (b := 250) (by omega) (by omega)) ⟨hin, hin, nm_r (e' := upd ck t (a_unitKind t)) (by rw [ec]) ⟨hin, hin, nm_r (e' := upd cv t (a_unitValue t)) (by rw [ec]) ⟨hin, hin, nm_r (e' := upd cp t (a_unitPartner t)) (by rw [ec]) (nm_r (nI_1 t) (ih (t + 1) _ _ _ (by omega) (fun j hj => ?_)))⟩⟩⟩
      by_cases z : j = t
      · rw [z, pk_us, pk_us, pk_us]; exact ⟨rfl, rfl, rfl⟩
      · rw [pk_un z, pk_un z, pk_un z]; exact h j (by omega)
  exact ⟨251, key 250 0 a_codeKind a_codeValue a_codePartner (by omega) (fun j h => absurd h (by omega))⟩
theorem xl_clear {post : SX → Prop} (hp : ∀ fo po, (∀ nm, nm < 12 → fo nm = -1 ∧ po nm = -1) → post (f_draftCount, f_openCount, f_operandsDue, f_faultPlace, f_listCount, f_takenCount, f_culpritName, 0, f_operandCount, f_pendingCount, f_frameCount, f_next, f_outcome, f_lastResult, f_stepCount, a_draftKind, a_draftValue, a_draftPartner, a_openBlock, a_unitKind, a_unitValue, a_unitPartner, a_unitLength, a_listedUnit, a_listedAsLibrary, a_takenUnit, a_definition, a_isDuplicate, a_isWanted, a_codeKind, a_codeValue, a_codePartner, fo, po, a_memory, a_operands, a_pendingToken, a_pendingDue, a_locals, a_returnTo)) : wpX_clearLinkedNames post (f_draftCount, f_openCount, f_operandsDue, f_faultPlace, f_listCount, f_takenCount, f_culpritName, f_memorySize, f_operandCount, f_pendingCount, f_frameCount, f_next, f_outcome, f_lastResult, f_stepCount, a_draftKind, a_draftValue, a_draftPartner, a_openBlock, a_unitKind, a_unitValue, a_unitPartner, a_unitLength, a_listedUnit, a_listedAsLibrary, a_takenUnit, a_definition, a_isDuplicate, a_isWanted, a_codeKind, a_codeValue, a_codePartner, a_functionOf, a_placeOf, a_memory, a_operands, a_pendingToken, a_pendingDue, a_locals, a_returnTo) := by
  have key : ∀ m t fo po, t + m = 12 → (∀ nm, nm < t → fo nm = -1 ∧ po nm = -1) → wX_clearLinkedNames_7 post f_draftCount f_openCount f_operandsDue f_faultPlace f_listCount f_takenCount f_culpritName 0 f_operandCount f_pendingCount f_frameCount f_next f_outcome f_lastResult f_stepCount (m + 1) (nI t) a_draftKind a_draftValue a_draftPartner a_openBlock a_unitKind a_unitValue a_unitPartner a_unitLength a_listedUnit a_listedAsLibrary a_takenUnit a_definition a_isDuplicate a_isWanted a_codeKind a_codeValue a_codePartner fo po a_memory a_operands a_pendingToken a_pendingDue a_locals a_returnTo := by
    intro m
    induction m with
    | zero =>
      intro t fo po ht h
      exact br_t (nI_le (a := 12) (by omega) (by omega)) (hp fo po (fun j hj => h j (by omega)))
    | succ m ih =>
      intro t fo po ht h
      have hin : vp_in (nI t) 12 := pk_in t 12 (by omega)
      have ec : (nI t).toNatClampNeg = t := nI_clamp (by omega)
      refine br_f (nI_ge (b := 12) (by omega) (by omega)) ⟨hin, nm_r (e' := upd fo t (-1)) (by rw [ec]) ⟨hin, nm_r (e' := upd po t (-1)) (by rw [ec]) (nm_r (nI_1 t) (ih (t + 1) _ _ (by omega) (fun j hj => ?_)))⟩⟩
      by_cases z : j = t
      · rw [z, pk_us, pk_us]; exact ⟨rfl, rfl⟩
      · rw [pk_un z, pk_un z]; exact h j (by omega)
  exact ⟨13, key 12 0 a_functionOf a_placeOf (by omega) (fun j h => absurd h (by omega))⟩
theorem xl_place {post : SX → Prop} {a o z nm : Nat} {v : Int32} (ha : a < 249) (ho : o + z ≤ 48) (hnm : nm < 12) (e15 : a_codeValue a &&& 15 = nI nm) (ez : ((a_codeValue a >>> ((4 : Int32) &&& 31)) &&& 7) + 1 = nI z) (hv : a_codeValue (a + 1) = v)
    (hp : ∀ mem, (∀ j, j < o → mem j = a_memory j) → (∀ s, s < z → mem (o + s) = v) → post (f_draftCount, f_openCount, f_operandsDue, f_faultPlace, f_listCount, f_takenCount, f_culpritName, nI (o + z), f_operandCount, f_pendingCount, f_frameCount, f_next, f_outcome, f_lastResult, f_stepCount, a_draftKind, a_draftValue, a_draftPartner, a_openBlock, a_unitKind, a_unitValue, a_unitPartner, a_unitLength, a_listedUnit, a_listedAsLibrary, a_takenUnit, a_definition, a_isDuplicate, a_isWanted, a_codeKind, a_codeValue, a_codePartner, a_functionOf, upd a_placeOf nm (nI o), mem, a_operands, a_pendingToken, a_pendingDue, a_locals, a_returnTo)) : wpX_placeData post (f_draftCount, f_openCount, f_operandsDue, f_faultPlace, f_listCount, f_takenCount, f_culpritName, nI o, f_operandCount, f_pendingCount, f_frameCount, f_next, f_outcome, f_lastResult, f_stepCount, a_draftKind, a_draftValue, a_draftPartner, a_openBlock, a_unitKind, a_unitValue, a_unitPartner, a_unitLength, a_listedUnit, a_listedAsLibrary, a_takenUnit, a_definition, a_isDuplicate, a_isWanted, a_codeKind, a_codeValue, a_codePartner, a_functionOf, a_placeOf, a_memory, a_operands, a_pendingToken, a_pendingDue, a_locals, a_returnTo) (nI a) := by
  have hin : vp_in (nI a) 250 := pk_in a 250 (by omega)
  have ec : (nI a).toNatClampNeg = a := nI_clamp (by omega)
  have e1 : nI a + 1 = nI (a + 1) := nI_1 a
  have key : ∀ m w mem, w + m = z → (∀ j, j < o → mem j = a_memory j) → (∀ s, s < w → mem (o + s) = v) → wX_placeData_30 post (nI a) (nI z) f_draftCount f_openCount f_operandsDue f_faultPlace f_listCount f_takenCount f_culpritName f_operandCount f_pendingCount f_frameCount f_next f_outcome f_lastResult f_stepCount (m + 1) (nI w) (nI (o + w)) a_draftKind a_draftValue a_draftPartner a_openBlock a_unitKind a_unitValue a_unitPartner a_unitLength a_listedUnit a_listedAsLibrary a_takenUnit a_definition a_isDuplicate a_isWanted a_codeKind a_codeValue a_codePartner a_functionOf (upd a_placeOf nm (nI o)) mem a_operands a_pendingToken a_pendingDue a_locals a_returnTo := by
    intro m
    induction m with
    | zero =>
      intro w mem hw h1 h2
      have e : w = z := by omega
      subst e
      exact br_t (nI_le (Nat.le_refl _) (by omega)) (hp mem h1 h2)
    | succ m ih =>
      intro w mem hw h1 h2
      refine br_f (nI_ge (by omega) (by omega)) (br_f (nI_ge (b := 48) (by omega) (by omega)) ⟨pk_in (a + 1) 250 (by omega) e1, pk_in (o + w) 48 (by omega), nm_r (e' := upd mem (o + w) v) (by rw [nI_clamp (by omega), e1, nI_clamp (by omega), hv]) (nm_r (nI_1 _) (nm_r (nI_1 w) (ih (w + 1) _ (by omega) (fun j hj => by rw [pk_un (by omega)]; exact h1 j hj) (fun s hs => ?_))))⟩)
      by_cases q : s = w
      · rw [q, pk_us]
      · rw [pk_un (by omega)]; exact h2 s (by omega)
  refine ⟨hin, ?_⟩
  show vp_in _ 12 ∧ _
  rw [ec, e15]
  refine ⟨pk_in nm 12 hnm, nm_r (e' := upd a_placeOf nm (nI o)) (by rw [nI_clamp (by omega)]) ⟨hin, ?_⟩⟩
  show ∃ n30, _
  rw [ez]
  exact ⟨z + 1, key z 0 a_memory (by omega) (fun j _ => rfl) (fun s h => absurd h (by omega))⟩
theorem xl_row {post : SX → Prop} {J : Int32 → Int32 → Int32 → Int32 → Int32 → Int32 → Int32 → Int32 → Int32 → Int32 → Int32 → Int32 → Int32 → Int32 → Int32 → Int32 → (Nat → Int32) → (Nat → Int32) → (Nat → Int32) → (Nat → Int32) → (Nat → Int32) → (Nat → Int32) → (Nat → Int32) → (Nat → Int32) → (Nat → Int32) → (Nat → Int32) → (Nat → Int32) → (Nat → Int32) → (Nat → Int32) → (Nat → Int32) → (Nat → Int32) → (Nat → Int32) → (Nat → Int32) → (Nat → Int32) → (Nat → Int32) → (Nat → Int32) → (Nat → Int32) → (Nat → Int32) → (Nat → Int32) → (Nat → Int32) → (Nat → Int32) → Prop} {n k : Nat} (hn : n ≤ 5) (hk : k < n) (hX : ∀ u, u < 5 → yr_R a_unitKind a_unitValue a_unitLength u (C u) (W u) (M u)) (hDN : ∀ u, u < 5 → ∀ t, t < M u → C u t = 29 → t + 1 < M u) (htk : ∀ k, k < n → tk k < 5) (hinj : ∀ k k', k < n → k' < n → tk k = tk k' → k = k') (htu : ∀ k, k < n → a_takenUnit k = nI (tk k))
    (hco : ∀ j, j < 250 → a_codeKind j = a_unitKind j ∧ a_codeValue j = a_unitValue j) (hde : ∀ nm, nm < 12 → a_definition nm = xe tk (lk_b (fun k => C (tk k)) (fun k => W (tk k)) (fun k => M (tk k)) nm n)) (hw : lk_o (fun k => C (tk k)) (fun k => W (tk k)) (fun k => M (tk k)) n (50 * n) ≤ 48)
    (hJ : ∀ ms fo po mem, xl_V (fun k => C (tk k)) (fun k => W (tk k)) (fun k => M (tk k)) tk n (fun d => a_unitValue (50 * tk (d / 50) + d % 50 + 1)) (50 * (k + 1)) ms fo po mem → J (nI (k + 1)) f_draftCount f_openCount f_operandsDue f_faultPlace f_listCount f_takenCount f_culpritName ms f_operandCount f_pendingCount f_frameCount f_next f_outcome f_lastResult f_stepCount a_draftKind a_draftValue a_draftPartner a_openBlock a_unitKind a_unitValue a_unitPartner a_unitLength a_listedUnit a_listedAsLibrary a_takenUnit a_definition a_isDuplicate a_isWanted a_codeKind a_codeValue a_codePartner fo po mem a_operands a_pendingToken a_pendingDue a_locals a_returnTo) :
    ∀ m t ms fo po mem, t + m = M (tk k) → xl_V (fun k => C (tk k)) (fun k => W (tk k)) (fun k => M (tk k)) tk n (fun d => a_unitValue (50 * tk (d / 50) + d % 50 + 1)) (50 * k + t) ms fo po mem → wX_linkNames_26 post J (nI k) (nI (50 * tk k)) (m + 1) (nI (50 * tk k + t)) f_draftCount f_openCount f_operandsDue f_faultPlace f_listCount f_takenCount f_culpritName ms f_operandCount f_pendingCount f_frameCount f_next f_outcome f_lastResult f_stepCount a_draftKind a_draftValue a_draftPartner a_openBlock a_unitKind a_unitValue a_unitPartner a_unitLength a_listedUnit a_listedAsLibrary a_takenUnit a_definition a_isDuplicate a_isWanted a_codeKind a_codeValue a_codePartner fo po mem a_operands a_pendingToken a_pendingDue a_locals a_returnTo := by
  have hLk : ∀ k, k < n → (fun k => M (tk k)) k ≤ 50 := fun k hk => (hX _ (htk k hk)).1
  have h5 := htk k hk
  obtain ⟨hL, hs, hT⟩ := hX (tk k) h5
  have eck : (nI k).toNatClampNeg = k := nI_clamp (by omega)
  have ect : (nI (tk k)).toNatClampNeg = tk k := nI_clamp (by omega)
  have eb : nI (50 * tk k) + a_unitLength (a_takenUnit (nI k).toNatClampNeg).toNatClampNeg = nI (50 * tk k + M (tk k)) := by rw [eck, htu k hk, ect, hs, nI_add]
  have hin1 : vp_in (nI k) 5 := pk_in k 5 (by omega)
  have hin2 : vp_in (a_takenUnit (nI k).toNatClampNeg) 5 := pk_in (tk k) 5 h5 (by rw [eck, htu k hk])
  intro m
  induction m with
  | zero =>
    intro t ms fo po mem ht hV
    refine ⟨hin1, hin2, br_t (by rw [eb]; exact nI_le (by omega) (by omega)) (nm_r (nI_1 k) (hJ ms fo po mem (xl_V_tail hLk hk ?_)))⟩
    rw [show t = M (tk k) by omega] at hV
    exact hV
  | succ m ih =>
    intro t ms fo po mem ht hV
    obtain ⟨a1, a2, a3⟩ := hT t (by omega)
    have hin : vp_in (nI (50 * tk k + t)) 250 := pk_in (50 * tk k + t) 250 (by omega)
    have ec : (nI (50 * tk k + t)).toNatClampNeg = 50 * tk k + t := nI_clamp (by omega)
    obtain ⟨c1, c2⟩ := hco (50 * tk k + t) (by omega)
    have e1 : (50 * k + t) / 50 = k := by omega
    have e2 : (50 * k + t) % 50 = t := by omega
    have h9 := a2.1
    have hnext : ∀ ms fo po mem, xl_V (fun k => C (tk k)) (fun k => W (tk k)) (fun k => M (tk k)) tk n (fun d => a_unitValue (50 * tk (d / 50) + d % 50 + 1)) (50 * k + t + 1) ms fo po mem → wX_linkNames_26 post J (nI k) (nI (50 * tk k)) (m + 1) (nI (50 * tk k + t) + 1) f_draftCount f_openCount f_operandsDue f_faultPlace f_listCount f_takenCount f_culpritName ms f_operandCount f_pendingCount f_frameCount f_next f_outcome f_lastResult f_stepCount a_draftKind a_draftValue a_draftPartner a_openBlock a_unitKind a_unitValue a_unitPartner a_unitLength a_listedUnit a_listedAsLibrary a_takenUnit a_definition a_isDuplicate a_isWanted a_codeKind a_codeValue a_codePartner fo po mem a_operands a_pendingToken a_pendingDue a_locals a_returnTo := by
      intro ms fo po mem h
      rw [nI_1]
      exact ih (t + 1) ms fo po mem (by omega) h
    have hskip : ¬ ((C (tk k) t = 28 ∨ C (tk k) t = 29) ∧ lk_b (fun k => C (tk k)) (fun k => W (tk k)) (fun k => M (tk k)) (W (tk k) t % 16) n = some (50 * k + t)) → xl_V (fun k => C (tk k)) (fun k => W (tk k)) (fun k => M (tk k)) tk n (fun d => a_unitValue (50 * tk (d / 50) + d % 50 + 1)) (50 * k + t + 1) ms fo po mem := by
      intro h
      refine xl_V_skip hLk hV (decide_eq_false ?_) ?_
      · show ¬ ((50 * k + t) % 50 < M (tk ((50 * k + t) / 50)) ∧ C (tk ((50 * k + t) / 50)) ((50 * k + t) % 50) = 29 ∧ lk_b _ _ _ (W (tk ((50 * k + t) / 50)) ((50 * k + t) % 50) % 16) n = some (50 * k + t))
        rw [e1, e2]
        exact fun q => h ⟨Or.inr q.2.1, q.2.2⟩
      · show ¬ ((50 * k + t) % 50 < M (tk ((50 * k + t) / 50)) ∧ C (tk ((50 * k + t) / 50)) ((50 * k + t) % 50) = 28 ∧ lk_b _ _ _ (W (tk ((50 * k + t) / 50)) ((50 * k + t) % 50) % 16) n = some (50 * k + t))
        rw [e1, e2]
        exact fun q => h ⟨Or.inl q.2.1, q.2.2⟩
    have hcmp : ∀ nm, nm < 12 → (a_definition nm = nI (50 * tk k + t) ↔ lk_b (fun k => C (tk k)) (fun k => W (tk k)) (fun k => M (tk k)) nm n = some (50 * k + t)) := by
      intro nm hnm
      rw [hde nm hnm]
      cases eo : lk_b (fun k => C (tk k)) (fun k => W (tk k)) (fun k => M (tk k)) nm n with
      | none => exact ⟨fun z => absurd z.symm (ba_m1 (by omega)), fun z => nomatch z⟩
      | some d =>
        have hd := lk_b_in hLk eo
        have hd5 := htk _ hd.1
        have hd50 : d % 50 < 50 := by omega
        constructor
        · intro z
          have z' : 50 * tk (d / 50) + d % 50 = 50 * tk k + t := ba_inj (by omega) (by omega) z
          have e3 : tk (d / 50) = tk k := by omega
          have e4 := hinj _ _ hd.1 hk e3
          exact congrArg some (by omega)
        · intro z
          cases z
          show nI (50 * tk ((50 * k + t) / 50) + (50 * k + t) % 50) = _
          rw [e1, e2]
    refine ⟨hin1, hin2, br_f (by rw [eb]; exact nI_ge (by omega) (by omega)) ⟨hin, ?_⟩⟩
    show vp_in _ 250 ∧ _
    refine ⟨hin, ?_⟩
    rw [ec, c1, a1, c2]
    have h87 : ∀ x4 : Int32, ¬ (C (tk k) t = 28 ∧ lk_b (fun k => C (tk k)) (fun k => W (tk k)) (fun k => M (tk k)) (W (tk k) t % 16) n = some (50 * k + t)) → ((C (tk k) t = 29) → x4 = nI (W (tk k) t % 16)) → wX_linkNames_87 post J (wX_linkNames_26 post J (nI k) (nI (50 * tk k)) (m + 1)) (nI k) (nI (50 * tk k)) (nI (50 * tk k + t)) x4 f_draftCount f_openCount f_operandsDue f_faultPlace f_listCount f_takenCount f_culpritName ms f_operandCount f_pendingCount f_frameCount f_next f_outcome f_lastResult f_stepCount a_draftKind a_draftValue a_draftPartner a_openBlock a_unitKind a_unitValue a_unitPartner a_unitLength a_listedUnit a_listedAsLibrary a_takenUnit a_definition a_isDuplicate a_isWanted a_codeKind a_codeValue a_codePartner fo po mem a_operands a_pendingToken a_pendingDue a_locals a_returnTo := by
      intro x4 hnf hx4
      refine ⟨hin, ?_⟩
      rw [ec, c1, a1]
      refine pk_eq (C (tk k) t) 29 (fun e29 => ?_) (fun e29 => nm_e (hnext _ _ _ _ (hskip ?_)))
      · obtain ⟨v1, v2, v3⟩ := tw_V a2 (Or.inr e29)
        rw [a3] at v1 v2 v3
        rw [hx4 e29]
        refine ⟨pk_in _ 12 v3, ?_⟩
        rw [nI_clamp (show W (tk k) t % 16 < 2 ^ 31 by omega)]
        refine br_c (fun z => ?_) (fun z => nm_e (hnext _ _ _ _ (hskip (fun q => z ((hcmp _ v3).mpr q.2)))))
        have hb := (hcmp _ v3).mp z
        have hdt : lk_dt (fun k => C (tk k)) (fun k => W (tk k)) (fun k => M (tk k)) n (50 * k + t) = true := by
          refine decide_eq_true ?_
          show (50 * k + t) % 50 < M (tk ((50 * k + t) / 50)) ∧ C (tk ((50 * k + t) / 50)) ((50 * k + t) % 50) = 29 ∧ lk_b _ _ _ (W (tk ((50 * k + t) / 50)) ((50 * k + t) % 50) % 16) n = some (50 * k + t)
          rw [e1, e2]
          exact ⟨by omega, e29, hb⟩
        have hz : lk_z (fun k => W (tk k)) (50 * k + t) = W (tk k) t / 16 % 8 + 1 := by
          show W (tk ((50 * k + t) / 50)) ((50 * k + t) % 50) / 16 % 8 + 1 = _
          rw [e1, e2]
        have hat := lk_o_at hdt
        have hmono := @lk_o_mono (fun k => C (tk k)) (fun k => W (tk k)) (fun k => M (tk k)) n (50 * k + t + 1) (50 * n) (by omega)
        have hdn := hDN _ h5 t (by omega) e29
        obtain ⟨V1, V2, V3⟩ := hV
        subst V1
        refine xl_place (o := lk_o (fun k => C (tk k)) (fun k => W (tk k)) (fun k => M (tk k)) n (50 * k + t)) (z := lk_z (fun k => W (tk k)) (50 * k + t)) (nm := W (tk k) t % 16) (v := a_unitValue (50 * tk k + t + 1)) (by omega) (by omega) v3 (by rw [c2, tw_V16 a2 (Or.inr e29), a3]) (by rw [c2, v1, ba_sz (by omega), nI_1, hz]) (hco _ (by omega)).2 (fun mem' m1 m2 => nm_e ?_)
        refine hnext _ _ _ _ ⟨by rw [hat], fun nm hnm => ?_, lk_m_yes V3 m1 (fun s hs => ?_)⟩
        · have hnf' : ¬ ((50 * k + t) % 50 < (fun k => M (tk k)) ((50 * k + t) / 50) ∧ (fun k => C (tk k)) ((50 * k + t) / 50) ((50 * k + t) % 50) = 28 ∧ lk_b (fun k => C (tk k)) (fun k => W (tk k)) (fun k => M (tk k)) ((fun k => W (tk k)) ((50 * k + t) / 50) ((50 * k + t) % 50) % 16) n = some (50 * k + t)) := by
            show ¬ ((50 * k + t) % 50 < M (tk ((50 * k + t) / 50)) ∧ C (tk ((50 * k + t) / 50)) ((50 * k + t) % 50) = 28 ∧ _)
            rw [e1, e2]
            exact fun q => by have := q.2.1; omega
          rw [lk_q_no hLk hnf', lk_p_yes hLk hdt]
          refine ⟨?_, (V2 nm hnm).2⟩
          show upd po (W (tk k) t % 16) _ nm = if nm = W (tk ((50 * k + t) / 50)) ((50 * k + t) % 50) % 16 then _ else _
          rw [e1, e2]
          by_cases y : nm = W (tk k) t % 16
          · rw [if_pos y, y, pk_us]
          · rw [if_neg y, pk_un y]; exact (V2 nm hnm).1
        · show mem' _ = a_unitValue (50 * tk ((50 * k + t) / 50) + (50 * k + t) % 50 + 1)
          rw [e1, e2]; exact m2 s hs
      · rintro ⟨q1, q2⟩
        rcases q1 with q1 | q1
        · exact hnf ⟨q1, q2⟩
        · exact e29 q1
    by_cases hdef : C (tk k) t = 28 ∨ C (tk k) t = 29
    · obtain ⟨v1, v2, v3⟩ := tw_V a2 hdef
      rw [a3] at v1 v2 v3
      rw [tw_V16 a2 hdef, a3]
      refine pk_eq (C (tk k) t) 28 (fun e28 => ⟨pk_in _ 12 v3, ?_⟩) (fun e28 => h87 _ (fun q => e28 q.1) (fun _ => rfl))
      rw [nI_clamp (show W (tk k) t % 16 < 2 ^ 31 by omega)]
      refine br_c (fun z => ⟨pk_in _ 12 v3, nm_e (nm_e ?_)⟩) (fun z => h87 _ (fun q => z ((hcmp _ v3).mpr q.2)) (fun _ => rfl))
      have hb := (hcmp _ v3).mp z
      obtain ⟨V1, V2, V3⟩ := hV
      have hnd : lk_dt (fun k => C (tk k)) (fun k => W (tk k)) (fun k => M (tk k)) n (50 * k + t) = false := by
        refine decide_eq_false ?_
        show ¬ ((50 * k + t) % 50 < M (tk ((50 * k + t) / 50)) ∧ C (tk ((50 * k + t) / 50)) ((50 * k + t) % 50) = 29 ∧ _)
        rw [e1, e2]
        exact fun q => by have := q.2.1; omega
      refine hnext _ _ _ _ ⟨by rw [lk_o_no hnd]; exact V1, fun nm hnm => ?_, lk_m_no hnd V3⟩
      have h28 : (fun k => C (tk k)) ((50 * k + t) / 50) ((50 * k + t) % 50) = 28 := by
        show C (tk ((50 * k + t) / 50)) ((50 * k + t) % 50) = 28
        rw [e1, e2]; exact e28
      have hb' : lk_b (fun k => C (tk k)) (fun k => W (tk k)) (fun k => M (tk k)) ((fun k => W (tk k)) ((50 * k + t) / 50) ((50 * k + t) % 50) % 16) n = some (50 * k + t) := by
        show lk_b _ _ _ (W (tk ((50 * k + t) / 50)) ((50 * k + t) % 50) % 16) n = _
        rw [e1, e2]; exact hb
      rw [lk_p_no hLk hnd, lk_q_yes hLk h28 hb']
      refine ⟨(V2 nm hnm).1, ?_⟩
      show upd fo (W (tk k) t % 16) (nI (50 * tk k + t)) nm = if nm = W (tk ((50 * k + t) / 50)) ((50 * k + t) % 50) % 16 then nI (50 * tk ((50 * k + t) / 50) + (50 * k + t) % 50) else _
      rw [e1, e2]
      by_cases y : nm = W (tk k) t % 16
      · rw [if_pos y, y, pk_us]
      · rw [if_neg y, pk_un y]; exact (V2 nm hnm).2
    · refine br_f (ba_ne (b := 28) (by omega) (by omega) (by omega)) (h87 _ (fun q => by have := q.1; omega) (fun q => by omega))
theorem xl_names {post : SX → Prop} {n : Nat} (hn : n ≤ 5) (hX : ∀ u, u < 5 → yr_R a_unitKind a_unitValue a_unitLength u (C u) (W u) (M u)) (hDN : ∀ u, u < 5 → ∀ t, t < M u → C u t = 29 → t + 1 < M u) (htk : ∀ k, k < n → tk k < 5) (hinj : ∀ k k', k < n → k' < n → tk k = tk k' → k = k') (htu : ∀ k, k < n → a_takenUnit k = nI (tk k))
    (hco : ∀ j, j < 250 → a_codeKind j = a_unitKind j ∧ a_codeValue j = a_unitValue j) (hde : ∀ nm, nm < 12 → a_definition nm = xe tk (lk_b (fun k => C (tk k)) (fun k => W (tk k)) (fun k => M (tk k)) nm n)) (hw : lk_o (fun k => C (tk k)) (fun k => W (tk k)) (fun k => M (tk k)) n (50 * n) ≤ 48)
    (hp : ∀ ms fo po mem, xl_V (fun k => C (tk k)) (fun k => W (tk k)) (fun k => M (tk k)) tk n (fun d => a_unitValue (50 * tk (d / 50) + d % 50 + 1)) (50 * n) ms fo po mem → post (f_draftCount, f_openCount, f_operandsDue, f_faultPlace, f_listCount, nI n, f_culpritName, ms, f_operandCount, f_pendingCount, f_frameCount, f_next, f_outcome, f_lastResult, f_stepCount, a_draftKind, a_draftValue, a_draftPartner, a_openBlock, a_unitKind, a_unitValue, a_unitPartner, a_unitLength, a_listedUnit, a_listedAsLibrary, a_takenUnit, a_definition, a_isDuplicate, a_isWanted, a_codeKind, a_codeValue, a_codePartner, fo, po, mem, a_operands, a_pendingToken, a_pendingDue, a_locals, a_returnTo)) : wpX_linkNames post (f_draftCount, f_openCount, f_operandsDue, f_faultPlace, f_listCount, nI n, f_culpritName, f_memorySize, f_operandCount, f_pendingCount, f_frameCount, f_next, f_outcome, f_lastResult, f_stepCount, a_draftKind, a_draftValue, a_draftPartner, a_openBlock, a_unitKind, a_unitValue, a_unitPartner, a_unitLength, a_listedUnit, a_listedAsLibrary, a_takenUnit, a_definition, a_isDuplicate, a_isWanted, a_codeKind, a_codeValue, a_codePartner, a_functionOf, a_placeOf, a_memory, a_operands, a_pendingToken, a_pendingDue, a_locals, a_returnTo) := by
  have key : ∀ m k ms fo po mem, k + m = n → xl_V (fun k => C (tk k)) (fun k => W (tk k)) (fun k => M (tk k)) tk n (fun d => a_unitValue (50 * tk (d / 50) + d % 50 + 1)) (50 * k) ms fo po mem → wX_linkNames_6 post (m + 1) (nI k) f_draftCount f_openCount f_operandsDue f_faultPlace f_listCount (nI n) f_culpritName ms f_operandCount f_pendingCount f_frameCount f_next f_outcome f_lastResult f_stepCount a_draftKind a_draftValue a_draftPartner a_openBlock a_unitKind a_unitValue a_unitPartner a_unitLength a_listedUnit a_listedAsLibrary a_takenUnit a_definition a_isDuplicate a_isWanted a_codeKind a_codeValue a_codePartner fo po mem a_operands a_pendingToken a_pendingDue a_locals a_returnTo := by
    intro m
    induction m with
    | zero =>
      intro k ms fo po mem hk hV
      refine br_t (nI_le (by omega) (by omega)) (hp ms fo po mem ?_)
      rw [show n = k by omega] at hV ⊢
      exact hV
    | succ m ih =>
      intro k ms fo po mem hk hV
      refine br_f (nI_ge (by omega) (by omega)) ⟨pk_in k 5 (by omega), nm_r (e' := nI (50 * tk k)) (by rw [nI_clamp (by omega), htu k (by omega), show (50 : Int32) = nI 50 from rfl, pk_mul, Nat.mul_comm]) ⟨M (tk k) + 1, ?_⟩⟩
      exact xl_row hn (by omega) hX hDN htk hinj htu hco hde hw (fun ms' fo' po' mem' hV' => ih (k + 1) ms' fo' po' mem' (by omega) hV') (M (tk k)) 0 ms fo po mem (by omega) hV
  unfold wpX_linkNames
  refine xl_clear (fun fo po h => ⟨n + 1, ?_⟩)
  refine key n 0 0 fo po a_memory (by omega) ⟨rfl, fun nm hnm => ?_, fun d h => absurd h (by omega)⟩
  rw [lk_p_0, lk_q_0]
  exact ⟨(h nm hnm).2, (h nm hnm).1⟩
theorem xl_link {post : Int32 → SX → Prop} {lst : Nat → Nat} {lib : Nat → Prop} {nl n : Nat} (hnl : nl ≤ 5) (hl : f_listCount = nI nl) (hlst : ∀ i, i < nl → lst i < 5 ∧ a_listedUnit i = nI (lst i)) (hlib : ∀ i, i < nl → (a_listedAsLibrary i = 0 ↔ ¬ lib i)) (hX : ∀ u, u < 5 → yr_R a_unitKind a_unitValue a_unitLength u (C u) (W u) (M u)) (hTW : ∀ u, u < 5 → ∀ i j, i < j → j < M u → (C u i = 28 ∨ C u i = 29) → (C u j = 28 ∨ C u j = 29) → W u i % 16 ≠ W u j % 16) (hDN : ∀ u, u < 5 → ∀ t, t < M u → C u t = 29 → t + 1 < M u)
    (hT : lk_T C W M lst lib nl = (n, tk)) (hinj : ∀ k k', k < n → k' < n → tk k = tk k' → k = k')
    (hb : ∀ r cul tu de du wa, lk_Z (fun k => C (tk k)) (fun k => W (tk k)) (fun k => M (tk k)) n r cul → r ≠ 0 → post r (f_draftCount, f_openCount, f_operandsDue, f_faultPlace, 0, nI n, cul, f_memorySize, f_operandCount, f_pendingCount, f_frameCount, f_next, f_outcome, f_lastResult, f_stepCount, a_draftKind, a_draftValue, a_draftPartner, a_openBlock, a_unitKind, a_unitValue, a_unitPartner, a_unitLength, a_listedUnit, a_listedAsLibrary, tu, de, du, wa, a_codeKind, a_codeValue, a_codePartner, a_functionOf, a_placeOf, a_memory, a_operands, a_pendingToken, a_pendingDue, a_locals, a_returnTo))
    (hp : ∀ cul tu de du wa ck cv cp fo po mem, lk_Z (fun k => C (tk k)) (fun k => W (tk k)) (fun k => M (tk k)) n 0 cul → (∀ j, j < 250 → ck j = a_unitKind j ∧ cv j = a_unitValue j ∧ cp j = a_unitPartner j) → xl_V (fun k => C (tk k)) (fun k => W (tk k)) (fun k => M (tk k)) tk n (fun d => a_unitValue (50 * tk (d / 50) + d % 50 + 1)) (50 * n) (nI (lk_o (fun k => C (tk k)) (fun k => W (tk k)) (fun k => M (tk k)) n (50 * n))) fo po mem → post 0 (f_draftCount, f_openCount, f_operandsDue, f_faultPlace, 0, nI n, cul, nI (lk_o (fun k => C (tk k)) (fun k => W (tk k)) (fun k => M (tk k)) n (50 * n)), f_operandCount, f_pendingCount, f_frameCount, f_next, f_outcome, f_lastResult, f_stepCount, a_draftKind, a_draftValue, a_draftPartner, a_openBlock, a_unitKind, a_unitValue, a_unitPartner, a_unitLength, a_listedUnit, a_listedAsLibrary, tu, de, du, wa, ck, cv, cp, fo, po, mem, a_operands, a_pendingToken, a_pendingDue, a_locals, a_returnTo)) : wpX_link post (f_draftCount, f_openCount, f_operandsDue, f_faultPlace, f_listCount, f_takenCount, f_culpritName, f_memorySize, f_operandCount, f_pendingCount, f_frameCount, f_next, f_outcome, f_lastResult, f_stepCount, a_draftKind, a_draftValue, a_draftPartner, a_openBlock, a_unitKind, a_unitValue, a_unitPartner, a_unitLength, a_listedUnit, a_listedAsLibrary, a_takenUnit, a_definition, a_isDuplicate, a_isWanted, a_codeKind, a_codeValue, a_codePartner, a_functionOf, a_placeOf, a_memory, a_operands, a_pendingToken, a_pendingDue, a_locals, a_returnTo) := by
  have hi := @lk_T_in C W M lst lib nl (fun i hi => (hlst i hi).1)
  rw [hT] at hi
  have hi1 : n ≤ nl := hi.1
  have htk : ∀ k, k < n → tk k < 5 := hi.2
  have hLk : ∀ k, k < n → M (tk k) ≤ 50 := fun k hk => (hX _ (htk k hk)).1
  unfold wpX_link
  refine xt_units hnl hl hlst hlib hX hTW hT (fun tu de du wa htu hI => ?_)
  refine xl_fault (by omega) hX htk htu hI (fun r cul hZ => br_c (fun z => ?_) (fun z => hb r cul tu de du wa hZ z))
  subst z
  refine xl_copy (fun ck cv cp hc => ?_)
  have hZ' := hZ
  rcases hZ with ⟨_, _, _, _, h, _⟩ | ⟨hs, ⟨_, _, h, _⟩ | ⟨_, hcu, ⟨_, h⟩ | ⟨hw, _⟩⟩⟩
  · exact absurd h (by decide)
  · exact absurd rfl h
  · exact absurd h (by decide)
  · refine xl_names (by omega) hX hDN htk hinj htu (fun j hj => ⟨(hc j hj).1, (hc j hj).2.1⟩) (fun nm hnm => ?_) hw (fun ms fo po mem hV => ?_)
    · have hag := @lk_agree (fun k => C (tk k)) (fun k => W (tk k)) (fun k => M (tk k)) nm n hLk
      rw [(hI nm hnm).1]
      refine congrArg (xe tk) (hag.2.1 ?_)
      have := hs nm hnm
      cases e : lk_u (fun k => C (tk k)) (fun k => W (tk k)) (fun k => M (tk k)) nm n with
      | false => rfl
      | true => exact absurd (hag.2.2.2.2.2.mp e) (by omega)
    · have e := hV.1
      subst e
      exact hp cul tu de du wa ck cv cp fo po mem hZ' hc hV
end
