/-! the component's parse -/
theorem xo_ops {post : Int32 → Prop} {c : Nat} {v : Int32} (h : tk_P c v) (hp : post (nI (if c = 29 then 1 else tk_n c v.toNatClampNeg))) : wpX_operandsOf post (nI c) v := by
  by_cases e : c = 5
  · obtain ⟨m, hm, _, rfl⟩ := h.2.2.2.2.1 e
    subst e
    rw [if_neg (by decide), nI_clamp (by omega), show tk_n 5 m = m / 16 from rfl] at hp
    refine br_t (by decide) (br_f (by decide) (br_f (by decide) (br_f (by decide) (br_t (by decide) ?_))))
    show post _
    rw [ba_cnt (by omega), show m / 16 % 4 = m / 16 by omega]
    exact hp
  · have h19 := h.2.1
    have h9 := h.1
    clear h
    revert hp e h19
    refine tk_30 (P := fun c => post (nI (if c = 29 then 1 else tk_n c v.toNatClampNeg)) → ¬ c = 5 → c ≠ 19 → wpX_operandsOf post (nI c) v) ?_ ?_ ?_ h9
    · refine tk_ten ?_ ?_ ?_ ?_ ?_ ?_ ?_ ?_ ?_ ?_ <;> intro hp e h19 <;> first | exact absurd rfl e | (repeat (first | exact hp | refine br_t (by decide) ?_ | refine br_f (by decide) ?_))
    · refine tk_ten ?_ ?_ ?_ ?_ ?_ ?_ ?_ ?_ ?_ ?_ <;> intro hp e h19 <;> first | exact absurd rfl h19 | (repeat (first | exact hp | refine br_t (by decide) ?_ | refine br_f (by decide) ?_))
    · refine tk_ten ?_ ?_ ?_ ?_ ?_ ?_ ?_ ?_ ?_ ?_ <;> intro hp e h19 <;> (repeat (first | exact hp | refine br_t (by decide) ?_ | refine br_f (by decide) ?_))
/-- a stack in an array -/
def sk_ar (g : Nat → Int32) (a : Nat → Int32) : List Nat → Prop
  | [] => True
  | o :: l => a l.length = g o ∧ sk_ar g a l
theorem sk_ar_ext {g a b : Nat → Int32} : ∀ l : List Nat, sk_ar g a l → (∀ j, j < l.length → b j = a j) → sk_ar g b l := by
  intro l
  induction l with
  | nil => exact fun _ _ => trivial
  | cons o l ih => exact fun h hb => ⟨by rw [hb _ (Nat.lt_succ_self _)]; exact h.1, ih h.2 (fun j hj => hb j (Nat.lt_succ_of_lt hj))⟩
theorem sk_ar_upd {g a : Nat → Int32} {x : Int32} {l : List Nat} (h : sk_ar g a l) : sk_ar g (upd a l.length x) l := sk_ar_ext l h (fun j hj => pk_un (by omega))
theorem sk_fit_close {K N : Nat → Nat} {i : Nat} (h : sk_fit K N i) (hk : K i = 23 ∨ K i = 27) : ∃ o l, sk_st K i = o :: l ∧ (K i = 23 → K o = 22) := by
  unfold sk_fit at h
  split at h
  · omega
  · unfold sk_fit2 at h
    split at h
    · omega
    · cases es : sk_st K i with
      | nil =>
        rw [es] at h
        change K i = 28 ∨ K i = 29 at h
        omega
      | cons o l =>
        rw [es] at h
        change (if K i = 23 then K o = 22 else 20 ≤ K i ∧ K i ≤ 27) at h
        refine ⟨o, l, rfl, fun e => ?_⟩
        rw [if_pos e] at h
        exact h
section
variable {f_draftCount f_openCount f_operandsDue f_faultPlace f_listCount f_takenCount f_culpritName f_memorySize f_operandCount f_pendingCount f_frameCount f_next f_outcome f_lastResult f_stepCount : Int32} {a_draftKind a_draftValue a_draftPartner a_openBlock a_unitKind a_unitValue a_unitPartner a_unitLength a_listedUnit a_listedAsLibrary a_takenUnit a_definition a_isDuplicate a_isWanted a_codeKind a_codeValue a_codePartner a_functionOf a_placeOf a_memory a_operands a_pendingToken a_pendingDue a_locals a_returnTo : Nat → Int32}
variable {K N : Nat → Nat}
theorem xf_34 {post : Int32 → Prop} {i : Nat} (hi : i < 50) (hK : ∀ j, j < 50 → a_draftKind j = nI (K j)) (h9 : ∀ j, j < 50 → K j ≤ 29) (hdb : sk_d K N i < 1000) (har : sk_ar nI a_openBlock (sk_st K i)) (hop : sk_op K i (sk_st K i)) (h1 : sk_fit2 K N i → post 1) (h0 : ¬ sk_fit2 K N i → post 0) : wX_fits_34 post (nI (K i)) f_draftCount (nI (sk_st K i).length) (nI (sk_d K N i)) f_faultPlace f_listCount f_takenCount f_culpritName f_memorySize f_operandCount f_pendingCount f_frameCount f_next f_outcome f_lastResult f_stepCount a_draftKind a_draftValue a_draftPartner a_openBlock a_unitKind a_unitValue a_unitPartner a_unitLength a_listedUnit a_listedAsLibrary a_takenUnit a_definition a_isDuplicate a_isWanted a_codeKind a_codeValue a_codePartner a_functionOf a_placeOf a_memory a_operands a_pendingToken a_pendingDue a_locals a_returnTo := by
  have hb := sk_B_le K i
  have h9i := h9 i hi
  refine pk_le (sk_d K N i) 0 (fun hz => ?_) (fun hz => ?_)
  · have e2 : sk_fit2 K N i = sk_fit3 K (K i) (sk_st K i) := if_neg (by omega)
    rw [e2] at h1 h0
    cases es : sk_st K i with
    | nil =>
      rw [es] at h1 h0
      exact br_t rfl (pk_eq (K i) 28 (fun e => ⟨rfl, h1 (Or.inl e)⟩) (fun e => pk_eq (K i) 29 (fun e2 => ⟨rfl, h1 (Or.inr e2)⟩) (fun e2 => ⟨rfl, h0 (by intro z; rcases z with z | z <;> omega)⟩)))
    | cons o l =>
      rw [es] at h1 h0 har hop hb
      have hl : l.length + 1 ≤ i := hb
      have ho : o < i := hop.1.1
      refine br_f (nI_ne0 (Nat.succ_pos _) (by show l.length + 1 < _; omega)) ?_
      have e1 : nI (o :: l).length - 1 = nI l.length := nI_pred _
      have e3 : (nI (o :: l).length - 1).toNatClampNeg = l.length := by rw [e1, nI_clamp (by omega)]
      have e4 : a_openBlock (nI (o :: l).length - 1).toNatClampNeg = nI o := by rw [e3]; exact har.1
      have e5 : a_draftKind (a_openBlock (nI (o :: l).length - 1).toNatClampNeg).toNatClampNeg = nI (K o) := by
        rw [e4, nI_clamp (by omega)]; exact hK o (by omega)
      have h9o := h9 o (by omega)
      refine pk_eq (K i) 23 (fun e => ⟨pk_in l.length 50 (by omega) e1, pk_in o 50 (by omega) e4, pk_eq (K o) 22 (fun z => h1 ?_) (fun z => h0 ?_) e5⟩) (fun e => pk_lt (K i) 20 (fun z => h0 ?_) (fun z => pk_lt 27 (K i) (fun z2 => h0 ?_) (fun z2 => h1 ?_)))
      · show if _ then _ else _
        rw [if_pos e]; exact z
      · show ¬ if _ then _ else _
        rw [if_pos e]; exact z
      · show ¬ if _ then _ else _
        rw [if_neg e]; omega
      · show ¬ if _ then _ else _
        rw [if_neg e]; omega
      · show if _ then _ else _
        rw [if_neg e]; omega
  · have e2 : sk_fit2 K N i = (K i ≤ 18) := if_pos (by omega)
    rw [e2] at h1 h0
    exact pk_lt 18 (K i) (fun z => h0 (by omega)) (fun z => h1 z)
theorem xf_fits {post : Int32 → Prop} {i : Nat} (hi : i < 50) (hK : ∀ j, j < 50 → a_draftKind j = nI (K j)) (h9 : ∀ j, j < 50 → K j ≤ 29) (hdb : sk_d K N i < 1000) (har : sk_ar nI a_openBlock (sk_st K i)) (hop : sk_op K i (sk_st K i)) (h1 : sk_fit K N i → post 1) (h0 : ¬ sk_fit K N i → post 0) : wpX_fits post (f_draftCount, nI (sk_st K i).length, nI (sk_d K N i), f_faultPlace, f_listCount, f_takenCount, f_culpritName, f_memorySize, f_operandCount, f_pendingCount, f_frameCount, f_next, f_outcome, f_lastResult, f_stepCount, a_draftKind, a_draftValue, a_draftPartner, a_openBlock, a_unitKind, a_unitValue, a_unitPartner, a_unitLength, a_listedUnit, a_listedAsLibrary, a_takenUnit, a_definition, a_isDuplicate, a_isWanted, a_codeKind, a_codeValue, a_codePartner, a_functionOf, a_placeOf, a_memory, a_operands, a_pendingToken, a_pendingDue, a_locals, a_returnTo) (nI i) := by
  have h9i := h9 i hi
  refine ⟨pk_in i 50 hi, nm_r (e' := nI (K i)) (by rw [nI_clamp (by omega), hK i hi]) (pk_le i 0 (fun hz => ?_) (fun hz => ?_))⟩
  · have e2 : sk_fit K N i = sk_fit2 K N i := if_neg (by omega)
    rw [e2] at h1 h0
    exact xf_34 hi hK h9 hdb har hop h1 h0
  · have e1 : nI i - 1 = nI (i - 1) := ba_s1 hz
    have e3 : a_draftKind (nI i - 1).toNatClampNeg = nI (K (i - 1)) := by rw [e1, nI_clamp (by omega)]; exact hK _ (by omega)
    have h9j := h9 (i - 1) (by omega)
    refine ⟨pk_in (i - 1) 50 (by omega) e1, pk_eq (K (i - 1)) 29 (fun e => ?_) (fun e => ?_) e3⟩
    · have e2 : sk_fit K N i = (K i = 0) := if_pos ⟨hz, e⟩
      rw [e2] at h1 h0
      exact pk_eq (K i) 0 h1 h0
    · have e2 : sk_fit K N i = sk_fit2 K N i := if_neg (by omega)
      rw [e2] at h1 h0
      exact xf_34 hi hK h9 hdb har hop h1 h0
theorem xf_accept {post : SX → Prop} {i : Nat} (hi : i < 50) (hK : ∀ j, j < 50 → a_draftKind j = nI (K j)) (hP : ∀ j, j < 50 → tk_P (K j) (a_draftValue j)) (hN : ∀ j, j < 50 → N j = tk_n (K j) (a_draftValue j).toNatClampNeg) (hdb : sk_d K N i < 1000) (har : sk_ar nI a_openBlock (sk_st K i)) (hop : sk_op K i (sk_st K i)) (hcl : sk_cl K a_draftPartner i) (hf : sk_fit K N i)
    (hp : ∀ ob pa, sk_ar nI ob (sk_st K (i + 1)) → sk_op K (i + 1) (sk_st K (i + 1)) → sk_cl K pa (i + 1) → post (f_draftCount, nI (sk_st K (i + 1)).length, nI (sk_d K N (i + 1)), f_faultPlace, f_listCount, f_takenCount, f_culpritName, f_memorySize, f_operandCount, f_pendingCount, f_frameCount, f_next, f_outcome, f_lastResult, f_stepCount, a_draftKind, a_draftValue, pa, ob, a_unitKind, a_unitValue, a_unitPartner, a_unitLength, a_listedUnit, a_listedAsLibrary, a_takenUnit, a_definition, a_isDuplicate, a_isWanted, a_codeKind, a_codeValue, a_codePartner, a_functionOf, a_placeOf, a_memory, a_operands, a_pendingToken, a_pendingDue, a_locals, a_returnTo)) : wpX_accept post (f_draftCount, nI (sk_st K i).length, nI (sk_d K N i), f_faultPlace, f_listCount, f_takenCount, f_culpritName, f_memorySize, f_operandCount, f_pendingCount, f_frameCount, f_next, f_outcome, f_lastResult, f_stepCount, a_draftKind, a_draftValue, a_draftPartner, a_openBlock, a_unitKind, a_unitValue, a_unitPartner, a_unitLength, a_listedUnit, a_listedAsLibrary, a_takenUnit, a_definition, a_isDuplicate, a_isWanted, a_codeKind, a_codeValue, a_codePartner, a_functionOf, a_placeOf, a_memory, a_operands, a_pendingToken, a_pendingDue, a_locals, a_returnTo) (nI i) := by
  have hb := sk_B_le K i
  have h9i := (hP i hi).1
  have hn3 := tk_n3 (hP i hi)
  rw [← hN i hi] at hn3
  have hops : sk_d K N (i + 1) = sk_d K N i - 1 + (if K i = 29 then 1 else N i) := rfl
  have h24 : wX_accept_24 post (nI i) (nI (K i)) f_draftCount (nI (sk_st K i).length) (nI (sk_d K N i - 1)) f_faultPlace f_listCount f_takenCount f_culpritName f_memorySize f_operandCount f_pendingCount f_frameCount f_next f_outcome f_lastResult f_stepCount a_draftKind a_draftValue a_draftPartner a_openBlock a_unitKind a_unitValue a_unitPartner a_unitLength a_listedUnit a_listedAsLibrary a_takenUnit a_definition a_isDuplicate a_isWanted a_codeKind a_codeValue a_codePartner a_functionOf a_placeOf a_memory a_operands a_pendingToken a_pendingDue a_locals a_returnTo := by
    refine ⟨pk_in i 50 hi, ?_⟩
    rw [nI_clamp (show i < 2 ^ 31 by omega)]
    refine xo_ops (hP i hi) ?_
    rw [← hN i hi]
    refine nm_r (e' := nI (sk_d K N (i + 1))) (by rw [hops, nI_add]) ?_
    have h60 : ∀ pa, ¬ (K i = 23 ∨ K i = 27) → sk_cl K pa i → wX_accept_60 post (nI i) (nI (K i)) f_draftCount (nI (sk_st K i).length) (nI (sk_d K N (i + 1))) f_faultPlace f_listCount f_takenCount f_culpritName f_memorySize f_operandCount f_pendingCount f_frameCount f_next f_outcome f_lastResult f_stepCount a_draftKind a_draftValue pa a_openBlock a_unitKind a_unitValue a_unitPartner a_unitLength a_listedUnit a_listedAsLibrary a_takenUnit a_definition a_isDuplicate a_isWanted a_codeKind a_codeValue a_codePartner a_functionOf a_placeOf a_memory a_operands a_pendingToken a_pendingDue a_locals a_returnTo := by
      intro pa hne hcl
      have hpush : (K i = 28 ∨ K i = 22 ∨ K i = 24) → wX_accept_84 post (nI i) f_draftCount (nI (sk_st K i).length) (nI (sk_d K N (i + 1))) f_faultPlace f_listCount f_takenCount f_culpritName f_memorySize f_operandCount f_pendingCount f_frameCount f_next f_outcome f_lastResult f_stepCount a_draftKind a_draftValue pa a_openBlock a_unitKind a_unitValue a_unitPartner a_unitLength a_listedUnit a_listedAsLibrary a_takenUnit a_definition a_isDuplicate a_isWanted a_codeKind a_codeValue a_codePartner a_functionOf a_placeOf a_memory a_operands a_pendingToken a_pendingDue a_locals a_returnTo := by
        intro hk
        have h2 := sk_stepB hop hcl hk
        refine ⟨pk_in (sk_st K i).length 50 (by omega), nm_r (e' := upd a_openBlock (sk_st K i).length (nI i)) (by rw [nI_clamp (by omega)]) (nm_r (e' := nI (sk_st K (i + 1)).length) (by rw [sk_st_push hk, nI_1]; rfl) ?_)⟩
        refine hp _ _ ?_ h2.1 h2.2
        rw [sk_st_push hk]
        exact ⟨pk_us, sk_ar_upd har⟩
      refine pk_eq (K i) 28 (fun z => hpush (by omega)) (fun z1 => pk_eq (K i) 22 (fun z => hpush (by omega)) (fun z2 => pk_eq (K i) 23 (fun z => by omega) (fun z3 => pk_eq (K i) 24 (fun z => hpush (by omega)) (fun z4 => ?_))))
      have h2 := sk_stepA hop hcl z1 z2 z4 z3 (by omega)
      have es := sk_st_same z1 z2 z4 z3 (show K i ≠ 27 by omega)
      have := hp a_openBlock pa (by rw [es]; exact har) h2.1 h2.2
      rw [es] at this
      exact this
    have h55 : (K i = 23 ∨ K i = 27) → wX_accept_55 post (nI i) (nI (K i)) f_draftCount (nI (sk_st K i).length) (nI (sk_d K N (i + 1))) f_faultPlace f_listCount f_takenCount f_culpritName f_memorySize f_operandCount f_pendingCount f_frameCount f_next f_outcome f_lastResult f_stepCount a_draftKind a_draftValue a_draftPartner a_openBlock a_unitKind a_unitValue a_unitPartner a_unitLength a_listedUnit a_listedAsLibrary a_takenUnit a_definition a_isDuplicate a_isWanted a_codeKind a_codeValue a_codePartner a_functionOf a_placeOf a_memory a_operands a_pendingToken a_pendingDue a_locals a_returnTo := by
      intro hk
      obtain ⟨o, l, es, hko⟩ := sk_fit_close hf hk
      have hlt := hop
      rw [es] at hlt
      have ho : o < i := hlt.1.1
      have hbl : l.length + 1 ≤ i := by rw [es] at hb; exact hb
      have har2 := har
      rw [es] at har2
      unfold wX_accept_55
      refine nm_r (e' := nI l.length) (by rw [es]; exact nI_pred _) ⟨pk_in l.length 50 (by omega), nm_r (e' := nI o) (by rw [nI_clamp (by omega)]; exact har2.1) ⟨pk_in o 50 (by omega), nm_r (e' := upd a_draftPartner o (nI i)) (by rw [nI_clamp (by omega)]) ⟨pk_in i 50 hi, nm_r (e' := upd (upd a_draftPartner o (nI i)) i (nI o)) (by rw [nI_clamp (by omega)]) ?_⟩⟩⟩
      rcases hk with hk | hk
      · have h2 := sk_stepD hop hcl es hk (hko hk)
        refine br_f (ba_ne (b := 28) (by omega) (by omega) (by omega)) (br_f (ba_ne (b := 22) (by omega) (by omega) (by omega)) (br_t (by rw [hk]; rfl) ?_))
        have es2 : sk_st K (i + 1) = i :: l := by rw [sk_st_else hk, es]; rfl
        refine ⟨pk_in l.length 50 (by omega), nm_r (e' := upd a_openBlock l.length (nI i)) (by rw [nI_clamp (by omega)]) (nm_r (e' := nI (sk_st K (i + 1)).length) (by rw [es2, nI_1]; rfl) ?_)⟩
        refine hp _ _ ?_ h2.1 h2.2
        rw [es2]
        exact ⟨pk_us, sk_ar_upd har2.2⟩
      · have h2 := sk_stepC hop hcl es hk
        refine br_f (ba_ne (b := 28) (by omega) (by omega) (by omega)) (br_f (ba_ne (b := 22) (by omega) (by omega) (by omega)) (br_f (ba_ne (b := 23) (by omega) (by omega) (by omega)) (br_f (ba_ne (b := 24) (by omega) (by omega) (by omega)) ?_)))
        have es2 : sk_st K (i + 1) = l := by rw [sk_st_end hk, es]; rfl
        have := hp a_openBlock _ (by rw [es2]; exact har2.2) h2.1 h2.2
        rw [es2] at this
        exact this
    exact pk_eq (K i) 23 (fun z => h55 (Or.inl z)) (fun z => pk_eq (K i) 27 (fun z2 => h55 (Or.inr z2)) (fun z2 => h60 _ (by omega) hcl))
  refine ⟨pk_in i 50 hi, nm_r (e' := nI (K i)) (by rw [nI_clamp (by omega), hK i hi]) (pk_le (sk_d K N i) 0 (fun hz => ?_) (fun hz => ?_))⟩
  · rw [show sk_d K N i - 1 = sk_d K N i by omega] at h24
    exact h24
  · exact nm_r (e' := nI (sk_d K N i - 1)) (ba_s1 hz) h24
/-- the answer of the parse -/
def sk_SF (K N : Nat → Nat) (c : Nat) (r : Int32) : Prop := (∃ i, i < c ∧ r = nI i ∧ (∀ j, j < i → sk_fit K N j) ∧ ¬ sk_fit K N i) ∨ ((∀ j, j < c → sk_fit K N j) ∧ ((sk_st K c = [] ∧ sk_d K N c = 0 ∧ r = -1) ∨ (¬ (sk_st K c = [] ∧ sk_d K N c = 0) ∧ r = nI c)))
theorem xf_loop {post : Int32 → SX → Prop} {c : Nat} (hc : c ≤ 50) (hK : ∀ j, j < 50 → a_draftKind j = nI (K j)) (hP : ∀ j, j < 50 → tk_P (K j) (a_draftValue j)) (hN : ∀ j, j < 50 → N j = tk_n (K j) (a_draftValue j).toNatClampNeg)
    (hp : ∀ r oc od ob pa, sk_SF K N c r → (r = -1 → sk_cl K pa c) → post r (nI c, oc, od, f_faultPlace, f_listCount, f_takenCount, f_culpritName, f_memorySize, f_operandCount, f_pendingCount, f_frameCount, f_next, f_outcome, f_lastResult, f_stepCount, a_draftKind, a_draftValue, pa, ob, a_unitKind, a_unitValue, a_unitPartner, a_unitLength, a_listedUnit, a_listedAsLibrary, a_takenUnit, a_definition, a_isDuplicate, a_isWanted, a_codeKind, a_codeValue, a_codePartner, a_functionOf, a_placeOf, a_memory, a_operands, a_pendingToken, a_pendingDue, a_locals, a_returnTo)) :
    ∀ m i ob pa, i + m = c → sk_ar nI ob (sk_st K i) → sk_op K i (sk_st K i) → sk_cl K pa i → (∀ j, j < i → sk_fit K N j) → wX_syntaxFault_12 post (m + 1) (nI i) (nI c) (nI (sk_st K i).length) (nI (sk_d K N i)) f_faultPlace f_listCount f_takenCount f_culpritName f_memorySize f_operandCount f_pendingCount f_frameCount f_next f_outcome f_lastResult f_stepCount a_draftKind a_draftValue pa ob a_unitKind a_unitValue a_unitPartner a_unitLength a_listedUnit a_listedAsLibrary a_takenUnit a_definition a_isDuplicate a_isWanted a_codeKind a_codeValue a_codePartner a_functionOf a_placeOf a_memory a_operands a_pendingToken a_pendingDue a_locals a_returnTo := by
  have hN3 : ∀ j, j < 50 → N j ≤ 3 := fun j hj => by rw [hN j hj]; exact tk_n3 (hP j hj)
  intro m
  induction m with
  | zero =>
    intro i ob pa hi har hop hcl hall
    have hic : i = c := by omega
    subst hic
    have hdb : sk_d K N i ≤ 3 * i := sk_d_le i (fun j hj => hN3 j (by omega))
    have hb := sk_B_le K i
    refine br_t (nI_le (Nat.le_refl _) (by omega)) ?_
    refine pk_eq (sk_d K N i) 0 (fun hz => pk_eq (sk_st K i).length 0 (fun hl => ?_) (fun hl => ?_)) (fun hz => ?_)
    · exact hp _ _ _ _ _ (Or.inr ⟨hall, Or.inl ⟨List.eq_nil_of_length_eq_zero hl, hz, rfl⟩⟩) (fun _ => hcl)
    · exact hp _ _ _ _ _ (Or.inr ⟨hall, Or.inr ⟨fun z => hl (by rw [z.1]; rfl), rfl⟩⟩) (fun z => absurd z (ba_m1 (by omega)))
    · exact hp _ _ _ _ _ (Or.inr ⟨hall, Or.inr ⟨fun z => hz z.2, rfl⟩⟩) (fun z => absurd z (ba_m1 (by omega)))
  | succ m ih =>
    intro i ob pa hi har hop hcl hall
    have hdb : sk_d K N i ≤ 3 * i := sk_d_le i (fun j hj => hN3 j (by omega))
    refine br_f (nI_ge (by omega) (by omega)) ?_
    refine xf_fits (by omega) hK (fun j hj => (hP j hj).1) (by omega) har hop (fun hf => br_f (by decide) ?_) (fun hf => br_t rfl ?_)
    · refine xf_accept (by omega) hK hP hN (by omega) har hop hcl hf (fun ob' pa' har' hop' hcl' => ?_)
      refine nm_r (nI_1 i) ?_
      exact ih (i + 1) ob' pa' (by omega) har' hop' hcl' (fun j hj => by
        by_cases z : j = i
        · rw [z]; exact hf
        · exact hall j (by omega))
    · exact hp _ _ _ _ _ (Or.inl ⟨i, by omega, rfl, hall, hf⟩) (fun z => absurd z (ba_m1 (by omega)))
theorem xf_syntax {post : Int32 → SX → Prop} {c : Nat} (hc : c ≤ 50) (hK : ∀ j, j < 50 → a_draftKind j = nI (K j)) (hP : ∀ j, j < 50 → tk_P (K j) (a_draftValue j)) (hN : ∀ j, j < 50 → N j = tk_n (K j) (a_draftValue j).toNatClampNeg)
    (hp : ∀ r oc od ob pa, sk_SF K N c r → (r = -1 → sk_cl K pa c) → post r (nI c, oc, od, f_faultPlace, f_listCount, f_takenCount, f_culpritName, f_memorySize, f_operandCount, f_pendingCount, f_frameCount, f_next, f_outcome, f_lastResult, f_stepCount, a_draftKind, a_draftValue, pa, ob, a_unitKind, a_unitValue, a_unitPartner, a_unitLength, a_listedUnit, a_listedAsLibrary, a_takenUnit, a_definition, a_isDuplicate, a_isWanted, a_codeKind, a_codeValue, a_codePartner, a_functionOf, a_placeOf, a_memory, a_operands, a_pendingToken, a_pendingDue, a_locals, a_returnTo)) : wpX_syntaxFault post (nI c, f_openCount, f_operandsDue, f_faultPlace, f_listCount, f_takenCount, f_culpritName, f_memorySize, f_operandCount, f_pendingCount, f_frameCount, f_next, f_outcome, f_lastResult, f_stepCount, a_draftKind, a_draftValue, a_draftPartner, a_openBlock, a_unitKind, a_unitValue, a_unitPartner, a_unitLength, a_listedUnit, a_listedAsLibrary, a_takenUnit, a_definition, a_isDuplicate, a_isWanted, a_codeKind, a_codeValue, a_codePartner, a_functionOf, a_placeOf, a_memory, a_operands, a_pendingToken, a_pendingDue, a_locals, a_returnTo) :=
  ⟨c + 1, xf_loop hc hK hP hN hp c 0 a_openBlock a_draftPartner (by omega) trivial trivial ⟨fun o h => absurd h (by omega), fun o h => absurd h (by omega)⟩ (fun j h => absurd h (by omega))⟩
end
