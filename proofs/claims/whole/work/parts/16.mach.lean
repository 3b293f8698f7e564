/-! the machines: states by their changing fields -/
def mX (E : SX) (oc pc fc nx ou lr sc : Int32) (me op pt pd lo rt : Nat → Int32) : SX := (E.1, E.2.1, E.2.2.1, E.2.2.2.1, E.2.2.2.2.1, E.2.2.2.2.2.1, E.2.2.2.2.2.2.1, E.2.2.2.2.2.2.2.1, oc, pc, fc, nx, ou, lr, sc, E.2.2.2.2.2.2.2.2.2.2.2.2.2.2.2.1, E.2.2.2.2.2.2.2.2.2.2.2.2.2.2.2.2.1, E.2.2.2.2.2.2.2.2.2.2.2.2.2.2.2.2.2.1, E.2.2.2.2.2.2.2.2.2.2.2.2.2.2.2.2.2.2.1, E.2.2.2.2.2.2.2.2.2.2.2.2.2.2.2.2.2.2.2.1, E.2.2.2.2.2.2.2.2.2.2.2.2.2.2.2.2.2.2.2.2.1, E.2.2.2.2.2.2.2.2.2.2.2.2.2.2.2.2.2.2.2.2.2.1, E.2.2.2.2.2.2.2.2.2.2.2.2.2.2.2.2.2.2.2.2.2.2.1, E.2.2.2.2.2.2.2.2.2.2.2.2.2.2.2.2.2.2.2.2.2.2.2.1, E.2.2.2.2.2.2.2.2.2.2.2.2.2.2.2.2.2.2.2.2.2.2.2.2.1, E.2.2.2.2.2.2.2.2.2.2.2.2.2.2.2.2.2.2.2.2.2.2.2.2.2.1, E.2.2.2.2.2.2.2.2.2.2.2.2.2.2.2.2.2.2.2.2.2.2.2.2.2.2.1, E.2.2.2.2.2.2.2.2.2.2.2.2.2.2.2.2.2.2.2.2.2.2.2.2.2.2.2.1, E.2.2.2.2.2.2.2.2.2.2.2.2.2.2.2.2.2.2.2.2.2.2.2.2.2.2.2.2.1, E.2.2.2.2.2.2.2.2.2.2.2.2.2.2.2.2.2.2.2.2.2.2.2.2.2.2.2.2.2.1, E.2.2.2.2.2.2.2.2.2.2.2.2.2.2.2.2.2.2.2.2.2.2.2.2.2.2.2.2.2.2.1, E.2.2.2.2.2.2.2.2.2.2.2.2.2.2.2.2.2.2.2.2.2.2.2.2.2.2.2.2.2.2.2.1, E.2.2.2.2.2.2.2.2.2.2.2.2.2.2.2.2.2.2.2.2.2.2.2.2.2.2.2.2.2.2.2.2.1, E.2.2.2.2.2.2.2.2.2.2.2.2.2.2.2.2.2.2.2.2.2.2.2.2.2.2.2.2.2.2.2.2.2.1, me, op, pt, pd, lo, rt)
def mY (Z : SY) (de wa he fa sc re gv gf ha : Int32) (me pc ba lo wt gt vl : Nat → Int32) : SY := (Z.1, Z.2.1, Z.2.2.1, Z.2.2.2.1, Z.2.2.2.2.1, Z.2.2.2.2.2.1, de, wa, he, fa, sc, re, gv, gf, ha, Z.2.2.2.2.2.2.2.2.2.2.2.2.2.2.2.1, Z.2.2.2.2.2.2.2.2.2.2.2.2.2.2.2.2.1, Z.2.2.2.2.2.2.2.2.2.2.2.2.2.2.2.2.2.1, Z.2.2.2.2.2.2.2.2.2.2.2.2.2.2.2.2.2.2.1, Z.2.2.2.2.2.2.2.2.2.2.2.2.2.2.2.2.2.2.2.1, Z.2.2.2.2.2.2.2.2.2.2.2.2.2.2.2.2.2.2.2.2.1, me, Z.2.2.2.2.2.2.2.2.2.2.2.2.2.2.2.2.2.2.2.2.2.2.1, pc, ba, lo, wt, gt, vl)
def wkX (post : SX → Prop) (n : Nat) (t : Int32) (x : SX) : Prop := match x with
  | (f_draftCount, f_openCount, f_operandsDue, f_faultPlace, f_listCount, f_takenCount, f_culpritName, f_memorySize, f_operandCount, f_pendingCount, f_frameCount, f_next, f_outcome, f_lastResult, f_stepCount, a_draftKind, a_draftValue, a_draftPartner, a_openBlock, a_unitKind, a_unitValue, a_unitPartner, a_unitLength, a_listedUnit, a_listedAsLibrary, a_takenUnit, a_definition, a_isDuplicate, a_isWanted, a_codeKind, a_codeValue, a_codePartner, a_functionOf, a_placeOf, a_memory, a_operands, a_pendingToken, a_pendingDue, a_locals, a_returnTo) => wX_work_2 post n t f_draftCount f_openCount f_operandsDue f_faultPlace f_listCount f_takenCount f_culpritName f_memorySize f_operandCount f_pendingCount f_frameCount f_next f_outcome f_lastResult f_stepCount a_draftKind a_draftValue a_draftPartner a_openBlock a_unitKind a_unitValue a_unitPartner a_unitLength a_listedUnit a_listedAsLibrary a_takenUnit a_definition a_isDuplicate a_isWanted a_codeKind a_codeValue a_codePartner a_functionOf a_placeOf a_memory a_operands a_pendingToken a_pendingDue a_locals a_returnTo
def wkY (post : Int32 → SY → Prop) (n : Nat) (y : SY) : Prop := match y with
  | (g_place, g_culprit, g_listed, g_units, g_taken, g_used, g_depth, g_waiting, g_held, g_fault, g_steps, g_result, g_given, g_gift, g_has, b_kind, b_value, b_size, b_list, b_library, b_places, b_memory, b_wanted, b_pc, b_base, b_locals, b_waits, b_got, b_values) => wY_run_79 post n g_place g_culprit g_listed g_units g_taken g_used g_depth g_waiting g_held g_fault g_steps g_result g_given g_gift g_has b_kind b_value b_size b_list b_library b_places b_memory b_wanted b_pc b_base b_locals b_waits b_got b_values
def xMS (E : SX) : Int32 := E.2.2.2.2.2.2.2.1
def xCK (E : SX) : Nat → Int32 := E.2.2.2.2.2.2.2.2.2.2.2.2.2.2.2.2.2.2.2.2.2.2.2.2.2.2.2.2.2.1
def xCV (E : SX) : Nat → Int32 := E.2.2.2.2.2.2.2.2.2.2.2.2.2.2.2.2.2.2.2.2.2.2.2.2.2.2.2.2.2.2.1
def xCP (E : SX) : Nat → Int32 := E.2.2.2.2.2.2.2.2.2.2.2.2.2.2.2.2.2.2.2.2.2.2.2.2.2.2.2.2.2.2.2.1
def xFO (E : SX) : Nat → Int32 := E.2.2.2.2.2.2.2.2.2.2.2.2.2.2.2.2.2.2.2.2.2.2.2.2.2.2.2.2.2.2.2.2.1
def xPO (E : SX) : Nat → Int32 := E.2.2.2.2.2.2.2.2.2.2.2.2.2.2.2.2.2.2.2.2.2.2.2.2.2.2.2.2.2.2.2.2.2.1
def yUN (Z : SY) : Int32 := Z.2.2.2.1
def yUS (Z : SY) : Int32 := Z.2.2.2.2.2.1
def yK (Z : SY) : Nat → Int32 := Z.2.2.2.2.2.2.2.2.2.2.2.2.2.2.2.1
def yV (Z : SY) : Nat → Int32 := Z.2.2.2.2.2.2.2.2.2.2.2.2.2.2.2.2.1
def yS (Z : SY) : Nat → Int32 := Z.2.2.2.2.2.2.2.2.2.2.2.2.2.2.2.2.2.1
def yPL (Z : SY) : Nat → Int32 := Z.2.2.2.2.2.2.2.2.2.2.2.2.2.2.2.2.2.2.2.2.1
section
variable {E : SX} {Z : SY}
variable {oc pc fc nx ou lr sc : Int32} {me op pt pd lo rt : Nat → Int32}
theorem x_give {post : SX → Prop} {h w : Nat} {v : Int32} (hh : h < 500) (hw : w < 500) (hp : post (mX E (nI (h + 1)) (nI (w + 1)) fc nx ou lr sc me (upd op h v) pt (upd pd w (pd w - 1)) lo rt)) : wpX_give post (mX E (nI h) (nI (w + 1)) fc nx ou lr sc me op pt pd lo rt) v := by
  have e1 : nI (w + 1) - 1 = nI w := nI_pred w
  have ec : (nI (w + 1) - 1).toNatClampNeg = w := by rw [e1, nI_clamp (by omega)]
  have hin : vp_in (nI (w + 1) - 1) 500 := pk_in w 500 hw e1
  refine br_f (nI_ge (b := 500) hh (by omega)) (br_f (nI_nle (Nat.succ_pos w) (by omega)) ⟨pk_in h 500 hh, nm_r (e' := upd op h v) (by rw [nI_clamp (by omega)]) (nm_r (nI_1 h) ⟨hin, hin, nm_r (e' := upd pd w (pd w - 1)) (by rw [ec]) hp⟩)⟩)
theorem x_pop {post : Int32 → SX → Prop} {h : Nat} (hh : h < 500) (hp : post (op h) (mX E (nI h) pc fc nx ou lr sc me op pt pd lo rt)) : wpX_takeOperand post (mX E (nI (h + 1)) pc fc nx ou lr sc me op pt pd lo rt) := by
  refine br_f (nI_ne0 (Nat.succ_pos h) (by omega)) (nm_r (nI_pred h) ⟨pk_in h 500 hh, ?_⟩)
  rw [nI_clamp (by omega)]
  exact hp
theorem x_end {post : SX → Prop} {d : Nat} {v : Int32} (hd : d < 10) (h0 : d = 0 → post (mX E oc pc (nI d) (rt d) 0 v sc me op pt pd lo rt)) (h1 : d ≠ 0 → wpX_give post (mX E oc pc (nI d) (rt d) ou lr sc me op pt pd lo rt) v) : wpX_endFunction post (mX E oc pc (nI (d + 1)) nx ou lr sc me op pt pd lo rt) v := by
  refine nm_r (nI_pred d) ⟨pk_in d 10 hd, nm_r (e' := rt d) (by rw [nI_clamp (by omega)]) (pk_eq d 0 h0 h1)⟩
theorem x_pend {post : SX → Prop} {w t c : Nat} (hw : w < 500) (ht : t < 250) (hk : xCK E t = nI c) (hP : tk_P c (xCV E t)) (hc : c ≠ 29) (hp : post (mX E oc (nI (w + 1)) fc nx ou lr sc me op (upd pt w (nI t)) (upd pd w (nI (tk_n c (xCV E t).toNatClampNeg))) lo rt)) : wpX_pend post (mX E oc (nI w) fc nx ou lr sc me op pt pd lo rt) (nI t) := by
  have hin : vp_in (nI t) 250 := pk_in t 250 ht
  have hinw : vp_in (nI w) 500 := pk_in w 500 hw
  have ec : (nI t).toNatClampNeg = t := nI_clamp (by omega)
  have ecw : (nI w).toNatClampNeg = w := nI_clamp (by omega)
  refine br_f (nI_ge (b := 500) hw (by omega)) ⟨hinw, nm_r (e' := upd pt w (nI t)) (by rw [ecw]) ⟨hin, hin, ?_⟩⟩
  show wpX_operandsOf _ (xCK E (nI t).toNatClampNeg) (xCV E (nI t).toNatClampNeg)
  rw [ec, hk]
  refine xo_ops hP ?_
  rw [if_neg hc]
  exact ⟨hinw, nm_r (e' := upd pd w (nI (tk_n c (xCV E t).toNatClampNeg))) (by rw [ecw]) (nm_r (nI_1 w) hp)⟩
theorem x_step {post : Int32 → SX → Prop} {s : Nat} (hs : s ≤ 200) (h0 : s = 200 → post 0 (mX E oc pc fc nx 8 lr (nI s) me op pt pd lo rt)) (h1 : s < 200 → post 1 (mX E oc pc fc nx ou lr (nI (s + 1)) me op pt pd lo rt)) : wpX_takeStep post (mX E oc pc fc nx ou lr (nI s) me op pt pd lo rt) :=
  pk_eq s 200 (fun e => h0 e) (fun e => nm_r (nI_1 s) (h1 (by omega)))
theorem x_cnt {post : Int32 → Prop} {v : Int32} {a : Nat} (e : (v >>> ((4 : Int32) &&& 31)) &&& 3 = nI a) (h : post (nI a)) : wpX_countIn post v := by
  unfold wpX_countIn
  rw [e]; exact h
def wbX (post : SX → Prop) (x1 x2 x3 : Int32) (n : Nat) (x4 : Int32) (x : SX) : Prop := match x with
  | (f_draftCount, f_openCount, f_operandsDue, f_faultPlace, f_listCount, f_takenCount, f_culpritName, f_memorySize, f_operandCount, f_pendingCount, f_frameCount, f_next, f_outcome, f_lastResult, f_stepCount, a_draftKind, a_draftValue, a_draftPartner, a_openBlock, a_unitKind, a_unitValue, a_unitPartner, a_unitLength, a_listedUnit, a_listedAsLibrary, a_takenUnit, a_definition, a_isDuplicate, a_isWanted, a_codeKind, a_codeValue, a_codePartner, a_functionOf, a_placeOf, a_memory, a_operands, a_pendingToken, a_pendingDue, a_locals, a_returnTo) => wX_beginFunction_50 post x1 x2 x3 n x4 f_draftCount f_openCount f_operandsDue f_faultPlace f_listCount f_takenCount f_culpritName f_memorySize f_operandCount f_pendingCount f_frameCount f_next f_outcome f_lastResult f_stepCount a_draftKind a_draftValue a_draftPartner a_openBlock a_unitKind a_unitValue a_unitPartner a_unitLength a_listedUnit a_listedAsLibrary a_takenUnit a_definition a_isDuplicate a_isWanted a_codeKind a_codeValue a_codePartner a_functionOf a_placeOf a_memory a_operands a_pendingToken a_pendingDue a_locals a_returnTo
/-- the locals of a new function -/
def mlo (lo op : Nat → Int32) (d h a : Nat) : Nat → Int32 := fun j => if 6 * d ≤ j ∧ j < 6 * d + 6 then (if j - 6 * d < a then op (h + (j - 6 * d)) else 0) else lo j
theorem x_begin {post : SX → Prop} {h a d s nm fa : Nat} (hs : s ≤ 200) (hd : d ≤ 10) (hnm : nm < 12) (ha : a ≤ 3) (hh : h + a ≤ 500) (hfa : fa < 250) (hfo : xFO E nm = nI fa) (hcn : (xCV E fa >>> ((4 : Int32) &&& 31)) &&& 3 = nI a)
    (h8 : s = 200 → post (mX E (nI (h + a)) pc (nI d) nx 8 lr (nI s) me op pt pd lo rt)) (h9 : s < 200 → d = 10 → post (mX E (nI (h + a)) pc (nI d) nx 9 lr (nI (s + 1)) me op pt pd lo rt))
    (hp : s < 200 → d < 10 → post (mX E (nI h) pc (nI (d + 1)) (nI (fa + 1)) ou lr (nI (s + 1)) me op pt pd (mlo lo op d h a) (upd rt d nx))) : wpX_beginFunction post (mX E (nI (h + a)) pc (nI d) nx ou lr (nI s) me op pt pd lo rt) (nI nm) := by
  unfold wpX_beginFunction
  refine x_step hs (fun e => br_t rfl (h8 e)) (fun hs' => br_f (by decide) (pk_eq d 10 (fun e => h9 hs' e) (fun e => ?_)))
  have hd' : d < 10 := by omega
  have ecn : (nI nm).toNatClampNeg = nm := nI_clamp (by omega)
  have hin : vp_in (nI nm) 12 := pk_in nm 12 hnm
  refine ⟨hin, pk_in fa 250 hfa (by show xFO E (nI nm).toNatClampNeg = nI fa; rw [ecn, hfo]), x_cnt (a := a) (by show (xCV E (xFO E (nI nm).toNatClampNeg).toNatClampNeg >>> ((4 : Int32) &&& 31)) &&& 3 = nI a; rw [ecn, hfo, nI_clamp (by omega), hcn]) (nm_r (e' := nI (6 * d)) (by rw [show (6 : Int32) = nI 6 from rfl, pk_mul, Nat.mul_comm]) ⟨7, ?_⟩)⟩
  have key : ∀ m l, m ≤ 6 → (∀ j, 6 * d + m ≤ j → j < 6 * d + 6 → l j = mlo lo op d h a j) → (∀ j, ¬ (6 * d + m ≤ j ∧ j < 6 * d + 6) → l j = lo j) → wbX post (nI nm) (nI a) (nI (6 * d)) (m + 1) (nI m + (-1)) (mX E (nI (h + (if m < a then m else a))) pc (nI d) nx ou lr (nI (s + 1)) me op pt pd l rt) := by
    intro m
    induction m with
    | zero =>
      intro l _ h1 h2
      have el : l = mlo lo op d h a := by
        funext j
        by_cases z : 6 * d + 0 ≤ j ∧ j < 6 * d + 6
        · exact h1 j z.1 z.2
        · rw [h2 j z]
          exact (if_neg (by omega)).symm
      subst el
      have e0 : h + (if 0 < a then 0 else a) = h := by split <;> omega
      rw [e0]
      have hpp := hp hs' hd'
      refine br_t (by decide) ⟨pk_in d 10 hd', nm_r (e' := upd rt d nx) (by rw [nI_clamp (by omega)]) (nm_r (nI_1 d) ⟨hin, nm_r (e' := nI (fa + 1)) (by show xFO E (nI nm).toNatClampNeg + 1 = _; rw [ecn, hfo, nI_1]) hpp⟩)⟩
    | succ m ih =>
      intro l hm h1 h2
      have e1 : nI (6 * d) + nI m = nI (6 * d + m) := nI_add _ _
      have hinm : vp_in (nI (6 * d) + nI m) 60 := pk_in (6 * d + m) 60 (by omega) e1
      have ecm : (nI (6 * d) + nI m).toNatClampNeg = 6 * d + m := by rw [e1, nI_clamp (by omega)]
      rw [pk_m1]
      have step : ∀ v, v = mlo lo op d h a (6 * d + m) → wbX post (nI nm) (nI a) (nI (6 * d)) (m + 1) (nI m + (-1)) (mX E (nI (h + (if m < a then m else a))) pc (nI d) nx ou lr (nI (s + 1)) me op pt pd (upd l (6 * d + m) v) rt) := by
        intro v hv
        refine ih _ (by omega) (fun j a1 a2 => ?_) (fun j a1 => ?_)
        · by_cases z : j = 6 * d + m
          · rw [z, pk_us, hv]
          · rw [pk_un z]; exact h1 j (by omega) a2
        · rw [pk_un (by omega)]; exact h2 j (by omega)
      have em : mlo lo op d h a (6 * d + m) = if m < a then op (h + m) else 0 := by
        unfold mlo
        rw [if_pos (by omega), Nat.add_sub_cancel_left]
      refine br_f (nI_pos (by omega)) (pk_le a m (fun ham => ?_) (fun ham => ?_))
      · refine ⟨hinm, nm_r (e' := upd l (6 * d + m) 0) (by rw [ecm]) (nm_e ?_)⟩
        have := step 0 (by rw [em, if_neg (by omega)])
        rw [if_neg (by omega)] at this
        rw [if_neg (by omega)]
        exact this
      · have e3 : h + (if m + 1 < a then m + 1 else a) = h + m + 1 := by split <;> omega
        rw [e3]
        refine x_pop (by omega) ⟨hinm, nm_r (e' := upd l (6 * d + m) (op (h + m))) (by rw [ecm]) (nm_e ?_)⟩
        have := step (op (h + m)) (by rw [em, if_pos ham])
        rw [if_pos ham] at this
        exact this
  have := key 6 lo (by omega) (fun j a1 a2 => by omega) (fun j _ => rfl)
  rw [if_neg (by omega)] at this
  exact this
end
