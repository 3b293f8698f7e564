/-! taking the units and the faults of a link, on the component's side -/
def sm (f : Nat → Nat) : Nat → Nat
  | 0 => 0
  | m + 1 => sm f m + f m
theorem sm_eq {f g : Nat → Nat} : ∀ m, (∀ i, i < m → g i = f i) → sm g m = sm f m := by
  intro m
  induction m with
  | zero => exact fun _ => rfl
  | succ m ih =>
    intro h
    show sm g m + g m = sm f m + f m
    rw [ih (fun i hi => h i (by omega)), h m (by omega)]
theorem sm_up {f g : Nat → Nat} {k z : Nat} : ∀ m, k < m → (∀ i, i < m → i ≠ k → g i = f i) → g k = f k + z → sm g m = sm f m + z := by
  intro m
  induction m with
  | zero => exact fun h => absurd h (by omega)
  | succ m ih =>
    intro hk h he
    show sm g m + g m = sm f m + f m + z
    by_cases e : k = m
    · subst e
      rw [sm_eq k (fun i hi => h i (by omega) (by omega)), he]; omega
    · rw [ih (by omega) (fun i hi => h i (by omega)) he, h m (by omega) (by omega)]; omega
/-- words by name, of definitions below code c -/
def lk_n (K V : Nat → Nat → Nat) (L : Nat → Nat) (n c nm : Nat) : Nat := match lk_b K V L nm n with
  | none => 0
  | some d => if K (d / 50) (d % 50) = 29 ∧ d < c then lk_z V d else 0
theorem lk_sum {K V : Nat → Nat → Nat} {L : Nat → Nat} {n : Nat} (hL : ∀ k, k < n → L k ≤ 50) (hV : ∀ k, k < n → ∀ i, i < L k → K k i = 29 → V k i % 16 < 12) : ∀ c, c ≤ 50 * n → sm (lk_n K V L n c) 12 = lk_o K V L n c := by
  intro c
  induction c with
  | zero =>
    intro _
    show _ = 0
    have : ∀ i, i < 12 → lk_n K V L n 0 i = (fun _ => 0) i := by
      intro i _
      unfold lk_n
      split
      · rfl
      · exact if_neg (fun q => absurd q.2 (Nat.not_lt_zero _))
    rw [sm_eq 12 this]; rfl
  | succ c ih =>
    intro hc
    have ih' := ih (by omega)
    cases e : lk_dt K V L n c with
    | false =>
      rw [lk_o_no e, ← ih']
      refine sm_eq 12 (fun nm _ => ?_)
      unfold lk_n
      cases eb : lk_b K V L nm n with
      | none => rfl
      | some d =>
        have hd := lk_b_in hL eb
        show (if _ then _ else _) = (if _ then _ else _)
        by_cases z : K (d / 50) (d % 50) = 29 ∧ d < c
        · rw [if_pos z, if_pos ⟨z.1, by omega⟩]
        · rw [if_neg z]
          refine if_neg (fun q => ?_)
          have e2 : d = c := by omega
          subst e2
          have := of_decide_eq_false e
          refine this ⟨hd.2.1, q.1, ?_⟩
          rw [hd.2.2.2]; exact eb
    | true =>
      have hdt := of_decide_eq_true e
      rw [lk_o_at e, ← ih']
      refine sm_up (k := V (c / 50) (c % 50) % 16) 12 (hV _ (by omega) _ hdt.1 hdt.2.1) (fun nm _ hne => ?_) ?_
      · unfold lk_n
        cases eb : lk_b K V L nm n with
        | none => rfl
        | some d =>
          have hd := lk_b_in hL eb
          have : d ≠ c := fun q => by subst q; exact hne hd.2.2.2.symm
          show (if _ then _ else _) = (if _ then _ else _)
          by_cases y : K (d / 50) (d % 50) = 29 ∧ d < c
          · rw [if_pos y, if_pos ⟨y.1, by omega⟩]
          · rw [if_neg y, if_neg (fun q => y ⟨q.1, by omega⟩)]
      · unfold lk_n
        rw [hdt.2.2]
        show (if _ then _ else _) = (if _ then _ else _) + _
        rw [if_pos ⟨hdt.2.1, by omega⟩, if_neg (fun q => by omega), Nat.zero_add]
section
variable {f_draftCount f_openCount f_operandsDue f_faultPlace f_listCount f_takenCount f_culpritName f_memorySize f_operandCount f_pendingCount f_frameCount f_next f_outcome f_lastResult f_stepCount : Int32} {a_draftKind a_draftValue a_draftPartner a_openBlock a_unitKind a_unitValue a_unitPartner a_unitLength a_listedUnit a_listedAsLibrary a_takenUnit a_definition a_isDuplicate a_isWanted a_codeKind a_codeValue a_codePartner a_functionOf a_placeOf a_memory a_operands a_pendingToken a_pendingDue a_locals a_returnTo : Nat → Int32}
variable {C W : Nat → Nat → Nat} {M tk : Nat → Nat}
theorem xt_take {post : SX → Prop} {n u : Nat} (hn : n < 5) (hu : u < 5) (htn : tk n = u) (hX : ∀ u, u < 5 → yr_R a_unitKind a_unitValue a_unitLength u (C u) (W u) (M u)) (htk : ∀ k, k < n → tk k < 5) (hTW : ∀ u, u < 5 → ∀ i j, i < j → j < M u → (C u i = 28 ∨ C u i = 29) → (C u j = 28 ∨ C u j = 29) → W u i % 16 ≠ W u j % 16)
    (hI : xt_I (fun k => C (tk k)) (fun k => W (tk k)) (fun k => M (tk k)) tk n a_definition a_isDuplicate a_isWanted)
    (hp : ∀ de du wa, xt_I (fun k => C (tk k)) (fun k => W (tk k)) (fun k => M (tk k)) tk (n + 1) de du wa → post (f_draftCount, f_openCount, f_operandsDue, f_faultPlace, f_listCount, nI (n + 1), f_culpritName, f_memorySize, f_operandCount, f_pendingCount, f_frameCount, f_next, f_outcome, f_lastResult, f_stepCount, a_draftKind, a_draftValue, a_draftPartner, a_openBlock, a_unitKind, a_unitValue, a_unitPartner, a_unitLength, a_listedUnit, a_listedAsLibrary, upd a_takenUnit n (nI u), de, du, wa, a_codeKind, a_codeValue, a_codePartner, a_functionOf, a_placeOf, a_memory, a_operands, a_pendingToken, a_pendingDue, a_locals, a_returnTo)) : wpX_takeUnit post (f_draftCount, f_openCount, f_operandsDue, f_faultPlace, f_listCount, nI n, f_culpritName, f_memorySize, f_operandCount, f_pendingCount, f_frameCount, f_next, f_outcome, f_lastResult, f_stepCount, a_draftKind, a_draftValue, a_draftPartner, a_openBlock, a_unitKind, a_unitValue, a_unitPartner, a_unitLength, a_listedUnit, a_listedAsLibrary, a_takenUnit, a_definition, a_isDuplicate, a_isWanted, a_codeKind, a_codeValue, a_codePartner, a_functionOf, a_placeOf, a_memory, a_operands, a_pendingToken, a_pendingDue, a_locals, a_returnTo) (nI u) := by
  obtain ⟨hL, hs, hT⟩ := hX u hu
  have e50 : nI u * 50 = nI (50 * u) := by rw [show (50 : Int32) = nI 50 from rfl, pk_mul, Nat.mul_comm]
  have eb : nI (50 * u) + a_unitLength (nI u).toNatClampNeg = nI (50 * u + M u) := by rw [nI_clamp (by omega), hs, nI_add]
  have key : ∀ m t de du wa, t + m = M u → xt_P (fun k => C (tk k)) (fun k => W (tk k)) (fun k => M (tk k)) tk n t de du wa → wX_takeUnit_27 post (nI u) (nI (50 * u)) (m + 1) (nI (50 * u + t)) f_draftCount f_openCount f_operandsDue f_faultPlace f_listCount (nI (n + 1)) f_culpritName f_memorySize f_operandCount f_pendingCount f_frameCount f_next f_outcome f_lastResult f_stepCount a_draftKind a_draftValue a_draftPartner a_openBlock a_unitKind a_unitValue a_unitPartner a_unitLength a_listedUnit a_listedAsLibrary (upd a_takenUnit n (nI u)) de du wa a_codeKind a_codeValue a_codePartner a_functionOf a_placeOf a_memory a_operands a_pendingToken a_pendingDue a_locals a_returnTo := by
    intro m
    induction m with
    | zero =>
      intro t de du wa ht hP
      refine ⟨pk_in u 5 hu, br_t (by rw [eb]; exact nI_le (by omega) (by omega)) (hp de du wa (xt_end ?_))⟩
      rw [show t = M u by omega] at hP
      show xt_P _ _ _ _ _ (M (tk n)) _ _ _
      rw [htn]; exact hP
    | succ m ih =>
      intro t de du wa ht hP
      obtain ⟨a1, a2, a3⟩ := hT t (by omega)
      have hin : vp_in (nI (50 * u + t)) 250 := pk_in (50 * u + t) 250 (by omega)
      have ec : (nI (50 * u + t)).toNatClampNeg = 50 * u + t := nI_clamp (by omega)
      refine ⟨pk_in u 5 hu, br_f (by rw [eb]; exact nI_ge (by omega) (by omega)) ⟨hin, nm_r (e' := nI (C u t)) (by rw [ec, a1]) ?_⟩⟩
      refine xd_isdef a2.1 (fun hd => br_f (by decide) ?_) (fun hd => br_t rfl ?_)
      · refine xt_add hu htn hX htk (by omega) hd (fun i hi hdi => hTW u hu i t hi (by omega) hdi hd) hP (fun de' du' hP' => ?_)
        exact nm_r (nI_1 _) (ih (t + 1) de' du' wa (by omega) hP')
      · have hfs : ∀ nm, lk_f (fun k => C (tk k)) (fun k => W (tk k)) n nm (t + 1) = lk_f (fun k => C (tk k)) (fun k => W (tk k)) n nm t := fun nm => lk_f_succ_n (fun hD => hd (by have h2 : C (tk n) t = 28 ∨ C (tk n) t = 29 := hD.1; rw [htn] at h2; exact h2))
        refine xt_isuse a2.1 (fun hq => br_f (by decide) ⟨hin, ?_⟩) (fun hq => br_t rfl (nm_r (nI_1 _) (ih (t + 1) de du wa (by omega) (fun nm hnm => ?_))))
        · obtain ⟨v1, v2, v3⟩ := tw_U a2 hq
          rw [a3] at v1 v2 v3
          show vp_in _ 12 ∧ _
          rw [ec, tw_U16 a2 hq, a3]
          refine ⟨pk_in _ 12 v3, nm_r (e' := upd wa (W u t % 16) 1) (by rw [nI_clamp (by omega), ba_z1]) (nm_r (nI_1 _) (ih (t + 1) de du _ (by omega) (fun nm hnm => ?_)))⟩
          obtain ⟨p1, p2, p3⟩ := hP nm hnm
          rw [hfs]
          refine ⟨p1, p2, ?_⟩
          have hQt : lk_Q (fun k => C (tk k)) (fun k => W (tk k)) n (W u t % 16) t := by
            show (C (tk n) t = 2 ∨ C (tk n) t = 3 ∨ C (tk n) t = 5) ∧ W (tk n) t % 16 = W u t % 16
            rw [htn]; exact ⟨hq, rfl⟩
          by_cases z : nm = W u t % 16
          · rw [z, pk_us]
            exact ⟨fun y => absurd y (by decide), fun y => absurd (Or.inr ⟨t, by omega, hQt⟩) y⟩
          · rw [pk_un z, p3]
            refine not_congr (or_congr Iff.rfl ⟨?_, ?_⟩)
            · rintro ⟨i, hi, x⟩; exact ⟨i, by omega, x⟩
            · rintro ⟨i, hi, x⟩
              by_cases y : i = t
              · subst y
                have h2 : W (tk n) i % 16 = nm := x.2
                rw [htn] at h2
                exact absurd h2.symm z
              · exact ⟨i, by omega, x⟩
        · obtain ⟨p1, p2, p3⟩ := hP nm hnm
          rw [hfs]
          refine ⟨p1, p2, ?_⟩
          rw [p3]
          refine not_congr (or_congr Iff.rfl ⟨?_, ?_⟩)
          · rintro ⟨i, hi, x⟩; exact ⟨i, by omega, x⟩
          · rintro ⟨i, hi, x⟩
            by_cases y : i = t
            · subst y
              have h2 : C (tk n) i = 2 ∨ C (tk n) i = 3 ∨ C (tk n) i = 5 := x.1
              rw [htn] at h2
              exact absurd h2 hq
            · exact ⟨i, by omega, x⟩
  refine ⟨pk_in n 5 hn, nm_r (e' := upd a_takenUnit n (nI u)) (by rw [nI_clamp (by omega)]) (nm_r (nI_1 n) (nm_r e50 ⟨M u + 1, ?_⟩))⟩
  exact key (M u) 0 a_definition a_isDuplicate a_isWanted (by omega) (xt_begin hI)
theorem xt_units {post : SX → Prop} {lst : Nat → Nat} {lib : Nat → Prop} {nl n : Nat} (hnl : nl ≤ 5) (hl : f_listCount = nI nl) (hlst : ∀ i, i < nl → lst i < 5 ∧ a_listedUnit i = nI (lst i)) (hlib : ∀ i, i < nl → (a_listedAsLibrary i = 0 ↔ ¬ lib i)) (hX : ∀ u, u < 5 → yr_R a_unitKind a_unitValue a_unitLength u (C u) (W u) (M u)) (hTW : ∀ u, u < 5 → ∀ i j, i < j → j < M u → (C u i = 28 ∨ C u i = 29) → (C u j = 28 ∨ C u j = 29) → W u i % 16 ≠ W u j % 16)
    (hT : lk_T C W M lst lib nl = (n, tk))
    (hp : ∀ tu de du wa, (∀ k, k < n → tu k = nI (tk k)) → xt_I (fun k => C (tk k)) (fun k => W (tk k)) (fun k => M (tk k)) tk n de du wa → post (f_draftCount, f_openCount, f_operandsDue, f_faultPlace, f_listCount, nI n, f_culpritName, f_memorySize, f_operandCount, f_pendingCount, f_frameCount, f_next, f_outcome, f_lastResult, f_stepCount, a_draftKind, a_draftValue, a_draftPartner, a_openBlock, a_unitKind, a_unitValue, a_unitPartner, a_unitLength, a_listedUnit, a_listedAsLibrary, tu, de, du, wa, a_codeKind, a_codeValue, a_codePartner, a_functionOf, a_placeOf, a_memory, a_operands, a_pendingToken, a_pendingDue, a_locals, a_returnTo)) : wpX_takeUnits post (f_draftCount, f_openCount, f_operandsDue, f_faultPlace, f_listCount, f_takenCount, f_culpritName, f_memorySize, f_operandCount, f_pendingCount, f_frameCount, f_next, f_outcome, f_lastResult, f_stepCount, a_draftKind, a_draftValue, a_draftPartner, a_openBlock, a_unitKind, a_unitValue, a_unitPartner, a_unitLength, a_listedUnit, a_listedAsLibrary, a_takenUnit, a_definition, a_isDuplicate, a_isWanted, a_codeKind, a_codeValue, a_codePartner, a_functionOf, a_placeOf, a_memory, a_operands, a_pendingToken, a_pendingDue, a_locals, a_returnTo) := by
  have hin := fun l => @lk_T_in C W M lst lib l
  have key : ∀ m l tu de du wa, l + m = nl → (∀ k, k < (lk_T C W M lst lib l).1 → tu k = nI ((lk_T C W M lst lib l).2 k)) → xt_I (fun k => C ((lk_T C W M lst lib l).2 k)) (fun k => W ((lk_T C W M lst lib l).2 k)) (fun k => M ((lk_T C W M lst lib l).2 k)) (lk_T C W M lst lib l).2 (lk_T C W M lst lib l).1 de du wa → wX_takeUnits_42 post (m + 1) (nI l) f_draftCount f_openCount f_operandsDue f_faultPlace f_listCount (nI (lk_T C W M lst lib l).1) f_culpritName f_memorySize f_operandCount f_pendingCount f_frameCount f_next f_outcome f_lastResult f_stepCount a_draftKind a_draftValue a_draftPartner a_openBlock a_unitKind a_unitValue a_unitPartner a_unitLength a_listedUnit a_listedAsLibrary tu de du wa a_codeKind a_codeValue a_codePartner a_functionOf a_placeOf a_memory a_operands a_pendingToken a_pendingDue a_locals a_returnTo := by
    intro m
    induction m with
    | zero =>
      intro l tu de du wa hlm htu hI
      have e : l = nl := by omega
      subst e
      rw [hT] at htu hI
      rw [hT]
      exact br_t (by rw [hl]; exact nI_le (by omega) (by omega)) (hp tu de du wa htu hI)
    | succ m ih =>
      intro l tu de du wa hlm htu hI
      have hi := hin l (fun i hi => (hlst i (by omega)).1)
      obtain ⟨hl5, hle⟩ := hlst l (by omega)
      have ec : (nI l).toNatClampNeg = l := nI_clamp (by omega)
      have hinl : vp_in (nI l) 5 := pk_in l 5 (by omega)
      have hi1 : (lk_T C W M lst lib l).1 ≤ l := hi.1
      refine br_f (by rw [hl]; exact nI_ge (by omega) (by omega)) ⟨hinl, nm_r (e' := nI (lst l)) (by rw [ec, hle]) ⟨hinl, ?_⟩⟩
      have htake : (¬ lib l ∨ lk_O C W M (lst l) (fun k => C ((lk_T C W M lst lib l).2 k)) (fun k => W ((lk_T C W M lst lib l).2 k)) (fun k => M ((lk_T C W M lst lib l).2 k)) (lk_T C W M lst lib l).1) → wX_takeUnits_74 post (wX_takeUnits_42 post (m + 1)) (nI l) (nI (lst l)) f_draftCount f_openCount f_operandsDue f_faultPlace f_listCount (nI (lk_T C W M lst lib l).1) f_culpritName f_memorySize f_operandCount f_pendingCount f_frameCount f_next f_outcome f_lastResult f_stepCount a_draftKind a_draftValue a_draftPartner a_openBlock a_unitKind a_unitValue a_unitPartner a_unitLength a_listedUnit a_listedAsLibrary tu de du wa a_codeKind a_codeValue a_codePartner a_functionOf a_placeOf a_memory a_operands a_pendingToken a_pendingDue a_locals a_returnTo := by
        intro hc
        have eT := lk_T_yes hc
        have ihl := ih (l + 1)
        rw [eT] at ihl
        generalize (lk_T C W M lst lib l).1 = n0 at *
        generalize (lk_T C W M lst lib l).2 = tk0 at *
        have et : ∀ k, k < n0 → tk0 k = (fun k => if k = n0 then lst l else tk0 k) k := fun k hk => (if_neg (by omega)).symm
        have hI' : xt_I (fun k => C ((fun k => if k = n0 then lst l else tk0 k) k)) (fun k => W ((fun k => if k = n0 then lst l else tk0 k) k)) (fun k => M ((fun k => if k = n0 then lst l else tk0 k) k)) (fun k => if k = n0 then lst l else tk0 k) n0 de du wa := by
          refine xt_cong (fun k hk => (hX _ (hi.2 k hk)).1) (fun k hk => ?_) et hI
          have e := et k hk
          refine ⟨congrArg M e, fun i _ => ⟨congrArg (fun x => C x i) e, congrArg (fun x => W x i) e⟩⟩
        unfold wX_takeUnits_74
        refine xt_take (tk := fun k => if k = n0 then lst l else tk0 k) (by omega) hl5 (if_pos rfl) hX (fun k hk => by show (if k = n0 then lst l else tk0 k) < 5; rw [if_neg (show k ≠ n0 by omega)]; exact hi.2 k hk) hTW hI' (fun de' du' wa' hI2 => ?_)
        refine nm_r (nI_1 l) (ihl _ de' du' wa' (by omega) (fun k hk => ?_) hI2)
        have hk' : k < n0 + 1 := hk
        show upd tu n0 (nI (lst l)) k = nI (if k = n0 then lst l else tk0 k)
        by_cases z : k = n0
        · rw [z, pk_us, if_pos rfl]
        · rw [pk_un z, if_neg z]; exact htu k (by omega)
      have hskip : lib l → ¬ lk_O C W M (lst l) (fun k => C ((lk_T C W M lst lib l).2 k)) (fun k => W ((lk_T C W M lst lib l).2 k)) (fun k => M ((lk_T C W M lst lib l).2 k)) (lk_T C W M lst lib l).1 → wX_takeUnits_42 post (m + 1) (nI (l + 1)) f_draftCount f_openCount f_operandsDue f_faultPlace f_listCount (nI (lk_T C W M lst lib l).1) f_culpritName f_memorySize f_operandCount f_pendingCount f_frameCount f_next f_outcome f_lastResult f_stepCount a_draftKind a_draftValue a_draftPartner a_openBlock a_unitKind a_unitValue a_unitPartner a_unitLength a_listedUnit a_listedAsLibrary tu de du wa a_codeKind a_codeValue a_codePartner a_functionOf a_placeOf a_memory a_operands a_pendingToken a_pendingDue a_locals a_returnTo := by
        intro h1 h2
        have eT : lk_T C W M lst lib (l + 1) = lk_T C W M lst lib l := lk_T_no (fun q => q.elim (fun q => q h1) h2)
        have := ih (l + 1) tu de du wa (by omega)
        rw [eT] at this
        exact this htu hI
      rw [ec]
      refine br_c (fun z => htake (Or.inl ((hlib l (by omega)).mp z))) (fun z => ?_)
      have hlb : lib l := Classical.byContradiction (fun q => z ((hlib l (by omega)).mpr q))
      exact xt_use hl5 hX hi.2 hI (fun ho => br_f (by decide) (htake (Or.inr ho))) (fun ho => br_t rfl (nm_r (nI_1 l) (hskip hlb ho)))
  have h7 : ∀ m k de du wa, k + m = 12 → (∀ nm, nm < k → de nm = -1 ∧ du nm = 0 ∧ wa nm = 0) → wX_takeUnits_7 post f_draftCount f_openCount f_operandsDue f_faultPlace f_listCount 0 f_culpritName f_memorySize f_operandCount f_pendingCount f_frameCount f_next f_outcome f_lastResult f_stepCount (m + 1) (nI k) a_draftKind a_draftValue a_draftPartner a_openBlock a_unitKind a_unitValue a_unitPartner a_unitLength a_listedUnit a_listedAsLibrary a_takenUnit de du wa a_codeKind a_codeValue a_codePartner a_functionOf a_placeOf a_memory a_operands a_pendingToken a_pendingDue a_locals a_returnTo := by
    intro m
    induction m with
    | zero =>
      intro k de du wa hk h
      refine br_t (nI_le (a := 12) (by omega) (by omega)) ⟨nl + 1, ?_⟩
      refine key nl 0 a_takenUnit de du wa (by omega) (fun k h => absurd h (Nat.not_lt_zero _)) (fun nm hnm => ?_)
      obtain ⟨a, b, c⟩ := h nm (by omega)
      refine ⟨a, ⟨fun _ => rfl, fun _ => b⟩, ⟨fun _ q => ?_, fun _ => c⟩⟩
      obtain ⟨k, hk, _⟩ := q
      exact absurd hk (Nat.not_lt_zero _)
    | succ m ih =>
      intro k de du wa hk h
      have hin : vp_in (nI k) 12 := pk_in k 12 (by omega)
      have ec : (nI k).toNatClampNeg = k := nI_clamp (by omega)
      refine br_f (nI_ge (b := 12) (by omega) (by omega)) ⟨hin, nm_r (e' := upd de k (-1)) (by rw [ec]) ⟨hin, nm_r (e' := upd du k 0) (by rw [ec, ba_z0]) ⟨hin, nm_r (e' := upd wa k 0) (by rw [ec, ba_z0]) (nm_r (nI_1 k) (ih (k + 1) _ _ _ (by omega) (fun nm hnm => ?_)))⟩⟩⟩
      by_cases z : nm = k
      · rw [z, pk_us, pk_us, pk_us]; exact ⟨rfl, rfl, rfl⟩
      · rw [pk_un z, pk_un z, pk_un z]; exact h nm (by omega)
  exact ⟨13, h7 12 0 a_definition a_isDuplicate a_isWanted (by omega) (fun nm h => absurd h (by omega))⟩
end
