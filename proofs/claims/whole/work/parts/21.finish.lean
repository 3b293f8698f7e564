/-! a token is finished, on each side -/
def tv (c : Nat) (x y : Int32) : Int32 := if c = 6 then x + y else if c = 7 then x - y else if c = 8 then x * y else if c = 9 then (if y = 0 then -1 else x / y) else if c = 10 then (if y = 0 then x else x - x / y * y) else if c = 11 then x &&& y else if c = 12 then x ||| y else if c = 13 then x ^^^ y else if c = 14 then x <<< ((y &&& 31) &&& 31) else if c = 15 then x >>> ((y &&& 31) &&& 31) else if c = 16 then (if y ≤ x then 0 else 1) else (if x = y then 1 else 0)
theorem tv_12 {P : Nat → Prop} (h6 : P 6) (h7 : P 7) (h8 : P 8) (h9 : P 9) (h10 : P 10) (h11 : P 11) (h12 : P 12) (h13 : P 13) (h14 : P 14) (h15 : P 15) (h16 : P 16) (h17 : P 17) {c : Nat} (h1 : 6 ≤ c) (h2 : c ≤ 17) : P c := by
  rcases (by omega : c = 6 ∨ c = 7 ∨ c = 8 ∨ c = 9 ∨ c = 10 ∨ c = 11 ∨ c = 12 ∨ c = 13 ∨ c = 14 ∨ c = 15 ∨ c = 16 ∨ c = 17) with e | e | e | e | e | e | e | e | e | e | e | e <;> subst e <;> assumption
theorem tv_y {post : Int32 → Prop} {c : Nat} {x y : Int32} (h1 : 6 ≤ c) (h2 : c ≤ 17) : post (tv c x y) → wpY_two post (nI c) x y := by
  refine tv_12 (P := fun c => post (tv c x y) → wpY_two post (nI c) x y) ?_ ?_ ?_ ?_ ?_ ?_ ?_ ?_ ?_ ?_ ?_ ?_ h1 h2
  · intro hp; exact br_f (by decide) (br_f (by decide) (br_t (by decide) hp))
  · intro hp; exact br_f (by decide) (br_f (by decide) (br_f (by decide) (br_t (by decide) hp)))
  · intro hp; exact br_f (by decide) (br_f (by decide) (br_f (by decide) (br_f (by decide) (br_t (by decide) hp))))
  · intro hp
    have hp' : post (if y = 0 then -1 else x / y) := hp
    refine br_f (by decide) (br_f (by decide) (br_f (by decide) (br_f (by decide) (br_f (by decide) (br_t (by decide) (br_c (fun z => ?_) (fun z => ⟨z, ?_⟩)))))))
    · rw [if_pos z] at hp'; exact hp'
    · rw [if_neg z] at hp'; exact hp'
  · intro hp
    have hp' : post (if y = 0 then x else x - x / y * y) := hp
    refine br_f (by decide) (br_f (by decide) (br_f (by decide) (br_f (by decide) (br_f (by decide) (br_f (by decide) (br_t (by decide) (br_c (fun z => ?_) (fun z => ⟨z, ?_⟩))))))))
    · rw [if_pos z] at hp'; exact hp'
    · rw [if_neg z] at hp'; exact hp'
  · intro hp; exact br_f (by decide) (br_f (by decide) (br_f (by decide) (br_f (by decide) (br_f (by decide) (br_f (by decide) (br_f (by decide) (br_t (by decide) hp)))))))
  · intro hp; exact br_f (by decide) (br_f (by decide) (br_f (by decide) (br_f (by decide) (br_f (by decide) (br_f (by decide) (br_f (by decide) (br_f (by decide) (br_t (by decide) hp))))))))
  · intro hp; exact br_f (by decide) (br_f (by decide) (br_f (by decide) (br_f (by decide) (br_f (by decide) (br_f (by decide) (br_f (by decide) (br_f (by decide) (br_f (by decide) (br_t (by decide) hp)))))))))
  · intro hp; exact br_f (by decide) (br_f (by decide) (br_f (by decide) (br_f (by decide) (br_f (by decide) (br_f (by decide) (br_f (by decide) (br_f (by decide) (br_f (by decide) (br_f (by decide) (br_t (by decide) hp))))))))))
  · intro hp; exact br_f (by decide) (br_f (by decide) (br_f (by decide) (br_f (by decide) (br_f (by decide) (br_f (by decide) (br_f (by decide) (br_f (by decide) (br_f (by decide) (br_f (by decide) (br_f (by decide) (br_t (by decide) hp)))))))))))
  · intro hp
    have hp' : post (if y ≤ x then 0 else 1) := hp
    refine br_f (by decide) (br_f (by decide) (br_f (by decide) (br_f (by decide) (br_f (by decide) (br_f (by decide) (br_f (by decide) (br_f (by decide) (br_f (by decide) (br_f (by decide) (br_f (by decide) (br_f (by decide) (br_t (by decide) (br_c (fun z => ?_) (fun z => ?_))))))))))))))
    · rw [if_pos z] at hp'; exact hp'
    · rw [if_neg z] at hp'; exact hp'
  · intro hp
    have hp' : post (if x = y then 1 else 0) := hp
    refine br_f (by decide) (br_t (by decide) (br_c (fun z => ?_) (fun z => ?_)))
    · rw [if_pos z] at hp'; exact hp'
    · rw [if_neg z] at hp'; exact hp'
theorem tv_x {post : Int32 → Prop} {c : Nat} {x y : Int32} (h1 : 6 ≤ c) (h2 : c ≤ 17) : post (tv c x y) → (10 < nI c → wpX_combine post (nI c) x y) ∧ (¬ 10 < nI c → wpX_calculate post (nI c) x y) := by
  refine tv_12 (P := fun c => post (tv c x y) → (10 < nI c → wpX_combine post (nI c) x y) ∧ (¬ 10 < nI c → wpX_calculate post (nI c) x y)) ?_ ?_ ?_ ?_ ?_ ?_ ?_ ?_ ?_ ?_ ?_ ?_ h1 h2
  · intro hp; exact br_f (by decide) (br_f (by decide) (br_f (by decide) (br_t (by decide) hp)))
  · intro hp; exact br_f (by decide) (br_f (by decide) (br_f (by decide) (br_f (by decide) (br_t (by decide) hp))))
  · intro hp; exact br_f (by decide) (br_f (by decide) (br_f (by decide) (br_f (by decide) (br_f (by decide) (br_t (by decide) hp)))))
  · intro hp
    have hp' : post (if y = 0 then -1 else x / y) := hp
    refine br_f (by decide) (br_f (by decide) (br_f (by decide) (br_f (by decide) (br_f (by decide) (br_f (by decide) (br_t (by decide) (br_c (fun z => ?_) (fun z => ⟨z, ?_⟩))))))))
    · rw [if_pos z] at hp'; exact hp'
    · rw [if_neg z] at hp'; exact hp'
  · intro hp
    have hp' : post (if y = 0 then x else x - x / y * y) := hp
    refine br_f (by decide) (br_f (by decide) (br_t (by decide) (br_c (fun z => ?_) (fun z => ⟨z, ?_⟩))))
    · rw [if_pos z] at hp'; exact hp'
    · rw [if_neg z] at hp'; exact hp'
  · intro hp; exact br_t (by decide) (br_f (by decide) (br_f (by decide) (br_t (by decide) hp)))
  · intro hp; exact br_t (by decide) (br_f (by decide) (br_f (by decide) (br_f (by decide) (br_t (by decide) hp))))
  · intro hp; exact br_t (by decide) (br_f (by decide) (br_f (by decide) (br_f (by decide) (br_f (by decide) (br_t (by decide) hp)))))
  · intro hp; exact br_t (by decide) (br_f (by decide) (br_f (by decide) (br_f (by decide) (br_f (by decide) (br_f (by decide) (br_t (by decide) hp))))))
  · intro hp; exact br_t (by decide) (br_f (by decide) (br_f (by decide) (br_f (by decide) (br_f (by decide) (br_f (by decide) (br_f (by decide) (br_t (by decide) hp)))))))
  · intro hp
    have hp' : post (if y ≤ x then 0 else 1) := hp
    refine br_t (by decide) (br_f (by decide) (br_f (by decide) (br_f (by decide) (br_f (by decide) (br_f (by decide) (br_f (by decide) (br_f (by decide) (br_t (by decide) (br_c (fun z => ?_) (fun z => ?_))))))))))
    · rw [if_pos z] at hp'; exact hp'
    · rw [if_neg z] at hp'; exact hp'
  · intro hp
    have hp' : post (if x = y then 1 else 0) := hp
    refine br_t (by decide) (br_f (by decide) (br_t (by decide) (br_c (fun z => ?_) (fun z => ?_))))
    · rw [if_pos z] at hp'; exact hp'
    · rw [if_neg z] at hp'; exact hp'
section
variable {E : SX} {Z : SY} {n m : Nat} {tk ln : Nat → Nat} {D B pr : Nat → Nat → Nat}
variable {oc pc fc nx ou lr sc : Int32} {me op pt pd lo rt : Nat → Int32}
def wX_fE66 (post : SX → Prop) (z0 : Int32) (x : SX) : Prop := match x with
  | (f_draftCount, f_openCount, f_operandsDue, f_faultPlace, f_listCount, f_takenCount, f_culpritName, f_memorySize, f_operandCount, f_pendingCount, f_frameCount, f_next, f_outcome, f_lastResult, f_stepCount, a_draftKind, a_draftValue, a_draftPartner, a_openBlock, a_unitKind, a_unitValue, a_unitPartner, a_unitLength, a_listedUnit, a_listedAsLibrary, a_takenUnit, a_definition, a_isDuplicate, a_isWanted, a_codeKind, a_codeValue, a_codePartner, a_functionOf, a_placeOf, a_memory, a_operands, a_pendingToken, a_pendingDue, a_locals, a_returnTo) => wX_finishExpression_66 post z0 f_draftCount f_openCount f_operandsDue f_faultPlace f_listCount f_takenCount f_culpritName f_memorySize f_operandCount f_pendingCount f_frameCount f_next f_outcome f_lastResult f_stepCount a_draftKind a_draftValue a_draftPartner a_openBlock a_unitKind a_unitValue a_unitPartner a_unitLength a_listedUnit a_listedAsLibrary a_takenUnit a_definition a_isDuplicate a_isWanted a_codeKind a_codeValue a_codePartner a_functionOf a_placeOf a_memory a_operands a_pendingToken a_pendingDue a_locals a_returnTo
/-- the front of finishing, by kind -/
theorem xf_5 {post : SX → Prop} {a w nm : Nat} (ha : a < 250) (hw : w < 500) (hpt : pt w = nI a) (hk : xCK E a = 5) (hv : xCV E a &&& 15 = nI nm) (H : wpX_beginFunction post (mX E oc (nI w) fc nx ou lr sc me op pt pd lo rt) (nI nm)) : wpX_finishPending post (mX E oc (nI (w + 1)) fc nx ou lr sc me op pt pd lo rt) := by
  have hin : vp_in (nI a) 250 := pk_in a 250 ha
  have ec : (nI a).toNatClampNeg = a := nI_clamp (by omega)
  refine nm_r (nI_pred w) ⟨pk_in w 500 hw, nm_r (e' := nI a) (by rw [nI_clamp (by omega), hpt]) ⟨hin, nm_r (e' := 5) (by rw [ec]; exact hk) (br_t rfl ⟨hin, ?_⟩)⟩⟩
  have key : ∀ v, v = nI nm → wpX_beginFunction post (mX E oc (nI w) fc nx ou lr sc me op pt pd lo rt) v := fun v e => by rw [e]; exact H
  exact key _ (by rw [ec]; exact hv)
theorem xf_E {post : SX → Prop} {a w c : Nat} (ha : a < 250) (hw : w < 500) (hpt : pt w = nI a) (hk : xCK E a = nI c) (hc : c ≤ 18) (h5 : c ≠ 5) (H : wpX_finishExpression post (mX E oc (nI w) fc nx ou lr sc me op pt pd lo rt) (nI c)) : wpX_finishPending post (mX E oc (nI (w + 1)) fc nx ou lr sc me op pt pd lo rt) := by
  have hin : vp_in (nI a) 250 := pk_in a 250 ha
  have ec : (nI a).toNatClampNeg = a := nI_clamp (by omega)
  exact nm_r (nI_pred w) ⟨pk_in w 500 hw, nm_r (e' := nI a) (by rw [nI_clamp (by omega), hpt]) ⟨hin, nm_r (e' := nI c) (by rw [ec]; exact hk) (br_f (ba_ne (b := 5) (by omega) (by omega) h5) (br_f (nI_nlt (b := c) (a := 18) hc (by omega)) H))⟩⟩
theorem xf_S {post : SX → Prop} {a w c : Nat} (ha : a < 250) (hw : w < 500) (hpt : pt w = nI a) (hk : xCK E a = nI c) (hc : 18 < c) (hc9 : c ≤ 29) (H : wpX_finishStatement post (mX E oc (nI w) fc nx ou lr sc me op pt pd lo rt) (nI a)) : wpX_finishPending post (mX E oc (nI (w + 1)) fc nx ou lr sc me op pt pd lo rt) := by
  have hin : vp_in (nI a) 250 := pk_in a 250 ha
  have ec : (nI a).toNatClampNeg = a := nI_clamp (by omega)
  exact nm_r (nI_pred w) ⟨pk_in w 500 hw, nm_r (e' := nI a) (by rw [nI_clamp (by omega), hpt]) ⟨hin, nm_r (e' := nI c) (by rw [ec]; exact hk) (br_f (ba_ne (b := 5) (by omega) (by omega) (by omega)) (br_t (nI_lt (a := 18) hc (by omega)) H))⟩⟩
theorem xe_not {post : SX → Prop} {g w : Nat} (hg : g < 500) (hw : w < 500) (hp : post (mX E (nI (g + 1)) (nI (w + 1)) fc nx ou lr sc me (upd op g (if op g = 0 then 1 else 0)) pt (upd pd w (pd w - 1)) lo rt)) : wpX_finishExpression post (mX E (nI (g + 1)) (nI (w + 1)) fc nx ou lr sc me op pt pd lo rt) 18 := by
  unfold wpX_finishExpression
  refine x_pop hg (br_t rfl (br_c (fun z => x_give hg hw ?_) (fun z => x_give hg hw ?_)))
  · rw [if_pos z] at hp; exact hp
  · rw [if_neg z] at hp; exact hp
theorem xe_get {post : SX → Prop} {g w M : Nat} (hg : g < 500) (hw : w < 500) (hM : xMS E = nI M) (hM4 : M ≤ 48) (h1 : ∀ r, r < M → op g = nI r → post (mX E (nI (g + 1)) (nI (w + 1)) fc nx ou lr sc me (upd op g (me r)) pt (upd pd w (pd w - 1)) lo rt)) (h0 : (op g < 0 ∨ nI M ≤ op g) → post (mX E (nI g) (nI (w + 1)) fc nx 7 lr sc me op pt pd lo rt)) : wpX_finishExpression post (mX E (nI (g + 1)) (nI (w + 1)) fc nx ou lr sc me op pt pd lo rt) 4 := by
  unfold wpX_finishExpression
  exact x_pop hg (br_f (by decide) (br_t rfl (x_get hg hw hM hM4 h1 h0)))
theorem xe_two {post : SX → Prop} {g w c : Nat} (hg : g + 1 < 500) (hw : w < 500) (h6 : 6 ≤ c) (h17 : c ≤ 17) (hp : post (mX E (nI (g + 1)) (nI (w + 1)) fc nx ou lr sc me (upd op g (tv c (op g) (op (g + 1)))) pt (upd pd w (pd w - 1)) lo rt)) : wpX_finishExpression post (mX E (nI (g + 1 + 1)) (nI (w + 1)) fc nx ou lr sc me op pt pd lo rt) (nI c) := by
  unfold wpX_finishExpression
  refine x_pop hg (br_f (ba_ne (b := 18) (by omega) (by omega) (by omega)) (br_f (ba_ne (b := 4) (by omega) (by omega) (by omega)) (x_pop (by omega) ?_)))
  exact tv_x (post := fun r => wX_fE66 post r (mX E (nI g) (nI (w + 1)) fc nx ou lr sc me op pt pd lo rt)) h6 h17 (x_give (by omega) hw hp)
theorem xs_20 {post : SX → Prop} {a h d q : Nat} (ha : a < 250) (hh : h < 500) (hk : xCK E a = 20) (hv : xCV E a = nI q) (hq : q < 6) (hd : d < 10) (hp : post (mX E (nI h) pc (nI (d + 1)) nx ou lr sc me op pt pd (upd lo (6 * d + q) (op h)) rt)) : wpX_finishStatement post (mX E (nI (h + 1)) pc (nI (d + 1)) nx ou lr sc me op pt pd lo rt) (nI a) := by
  have hin : vp_in (nI a) 250 := pk_in a 250 ha
  have ec : (nI a).toNatClampNeg = a := nI_clamp (by omega)
  unfold wpX_finishStatement
  refine x_pop hh ⟨hin, nm_r (e' := 20) (by rw [ec]; exact hk) (br_f (by decide) (br_f (by decide) (br_t rfl ⟨hin, ?_⟩)))⟩
  have e1 : (nI (d + 1) - 1) * 6 + xCV E (nI a).toNatClampNeg = nI (6 * d + q) := by rw [ec, hv, nI_pred, show (6 : Int32) = nI 6 from rfl, pk_mul, nI_add, Nat.mul_comm]
  exact ⟨pk_in (6 * d + q) 60 (by omega) e1, nm_r (e' := upd lo (6 * d + q) (op h)) (congrArg (fun z => upd lo z (op h)) (by show ((nI (d + 1) - 1) * 6 + xCV E (nI a).toNatClampNeg).toNatClampNeg = _; rw [e1, nI_clamp (by omega)])) hp⟩
theorem xs_21 {post : SX → Prop} {a g M : Nat} (ha : a < 250) (hg : g + 1 < 500) (hk : xCK E a = 21) (hM : xMS E = nI M) (hM4 : M ≤ 48) (h1 : ∀ r, r < M → op g = nI r → post (mX E (nI g) pc fc nx ou lr sc (upd me r (op (g + 1))) op pt pd lo rt)) (h0 : (op g < 0 ∨ nI M ≤ op g) → post (mX E (nI g) pc fc nx 7 lr sc me op pt pd lo rt)) : wpX_finishStatement post (mX E (nI (g + 1 + 1)) pc fc nx ou lr sc me op pt pd lo rt) (nI a) := by
  have hin : vp_in (nI a) 250 := pk_in a 250 ha
  have ec : (nI a).toNatClampNeg = a := nI_clamp (by omega)
  unfold wpX_finishStatement
  refine x_pop hg ⟨hin, nm_r (e' := 21) (by rw [ec]; exact hk) (br_f (by decide) (br_f (by decide) (br_f (by decide) (br_t rfl ?_))))⟩
  unfold wpX_putWord
  refine x_pop (by omega) (x_inuse hM hM4 (fun r hr e => br_f (by decide) ⟨pk_in r 48 (by omega) e, nm_r (e' := upd me r (op (g + 1))) (by rw [e, nI_clamp (by omega)]) (h1 r hr e)⟩) (fun z => br_t rfl (h0 z)))
theorem xs_22 {post : SX → Prop} {a h c e : Nat} (ha : a < 250) (hh : h < 500) (hk : xCK E a = nI c) (hc : c = 22 ∨ c = 24) (hcp : xCP E a = nI e) (h0 : op h = 0 → post (mX E (nI h) pc fc (nI (e + 1)) ou lr sc me op pt pd lo rt)) (h1 : ¬ op h = 0 → post (mX E (nI h) pc fc nx ou lr sc me op pt pd lo rt)) : wpX_finishStatement post (mX E (nI (h + 1)) pc fc nx ou lr sc me op pt pd lo rt) (nI a) := by
  have hin : vp_in (nI a) 250 := pk_in a 250 ha
  have ec : (nI a).toNatClampNeg = a := nI_clamp (by omega)
  have e2 : xCP E (nI a).toNatClampNeg + 1 = nI (e + 1) := by rw [ec, hcp, nI_1]
  unfold wpX_finishStatement
  refine x_pop hh ⟨hin, nm_r (e' := nI c) (by rw [ec]; exact hk) ?_⟩
  rcases hc with z | z <;> subst z
  · exact br_f (by decide) (br_f (by decide) (br_f (by decide) (br_f (by decide) (br_t (by decide) (br_c (fun z => ⟨hin, nm_r (e' := nI (e + 1)) e2 (h0 z)⟩) (fun z => h1 z))))))
  · exact br_f (by decide) (br_f (by decide) (br_f (by decide) (br_f (by decide) (br_f (by decide) (br_f (by decide) (br_t (by decide) (br_c (fun z => ⟨hin, nm_r (e' := nI (e + 1)) e2 (h0 z)⟩) (fun z => h1 z))))))))
theorem xs_25 {post : SX → Prop} {a h : Nat} (ha : a < 250) (hh : h < 500) (hk : xCK E a = 25) (H : wpX_endFunction post (mX E (nI h) pc fc nx ou lr sc me op pt pd lo rt) (op h)) : wpX_finishStatement post (mX E (nI (h + 1)) pc fc nx ou lr sc me op pt pd lo rt) (nI a) := by
  have hin : vp_in (nI a) 250 := pk_in a 250 ha
  have ec : (nI a).toNatClampNeg = a := nI_clamp (by omega)
  unfold wpX_finishStatement
  exact x_pop hh ⟨hin, nm_r (e' := 25) (by rw [ec]; exact hk) (br_f (by decide) (br_f (by decide) (br_f (by decide) (br_f (by decide) (br_f (by decide) (br_f (by decide) (br_f (by decide) (br_t rfl H))))))))⟩
theorem xs_26 {post : SX → Prop} {a h : Nat} (ha : a < 250) (hh : h < 500) (hk : xCK E a = 26) (H : post (mX E (nI h) pc fc nx ou lr sc me op pt pd lo rt)) : wpX_finishStatement post (mX E (nI (h + 1)) pc fc nx ou lr sc me op pt pd lo rt) (nI a) := by
  have hin : vp_in (nI a) 250 := pk_in a 250 ha
  have ec : (nI a).toNatClampNeg = a := nI_clamp (by omega)
  unfold wpX_finishStatement
  exact x_pop hh ⟨hin, nm_r (e' := 26) (by rw [ec]; exact hk) (br_f (by decide) (br_t (by decide) H))⟩
end
section
variable {E : SX} {Z : SY} {n m : Nat} {tk ln : Nat → Nat} {D B pr : Nat → Nat → Nat}
variable {wa he fa sc re gv gf ha : Int32} {me pc ba lo wt gt vl : Nat → Int32}
def w99Y (post : SY → Prop) (x1 x2 x4 x5 z0 : Int32) (y : SY) : Prop := match y with
  | (g_place, g_culprit, g_listed, g_units, g_taken, g_used, g_depth, g_waiting, g_held, g_fault, g_steps, g_result, g_given, g_gift, g_has, b_kind, b_value, b_size, b_list, b_library, b_places, b_memory, b_wanted, b_pc, b_base, b_locals, b_waits, b_got, b_values) => wY_complete_99 post x1 x2 x4 x5 z0 g_place g_culprit g_listed g_units g_taken g_used g_depth g_waiting g_held g_fault g_steps g_result g_given g_gift g_has b_kind b_value b_size b_list b_library b_places b_memory b_wanted b_pc b_base b_locals b_waits b_got b_values
def w342Y (post : SY → Prop) (x2 x5 x6 : Int32) (y : SY) : Prop := match y with
  | (g_place, g_culprit, g_listed, g_units, g_taken, g_used, g_depth, g_waiting, g_held, g_fault, g_steps, g_result, g_given, g_gift, g_has, b_kind, b_value, b_size, b_list, b_library, b_places, b_memory, b_wanted, b_pc, b_base, b_locals, b_waits, b_got, b_values) => wY_complete_342 post x2 x5 x6 g_place g_culprit g_listed g_units g_taken g_used g_depth g_waiting g_held g_fault g_steps g_result g_given g_gift g_has b_kind b_value b_size b_list b_library b_places b_memory b_wanted b_pc b_base b_locals b_waits b_got b_values
theorem yc_pre {post : SY → Prop} {d k t w g c : Nat} (hR : pR E Z n m tk ln D B pr) (hk : k < n) (ht : t < ln k) (hw : w < 600) (hg : g + pO Z k t < 1200) (hO1 : 1 ≤ pO Z k t) (hwt : wt w = nI (550 + 50 * k + t)) (hc : pK Z k t = c) (h5 : c ≠ 5)
    (H1 : pO Z k t = 1 → w99Y post (nI (550 + 50 * k + t)) (nI c) (nI d) (vl g) 0 (mY Z (nI (d + 1)) (nI w) (nI g) fa sc re gv gf ha me pc ba lo wt gt vl)) (H2 : 2 ≤ pO Z k t → w99Y post (nI (550 + 50 * k + t)) (nI c) (nI d) (vl g) (vl (g + 1)) (mY Z (nI (d + 1)) (nI w) (nI g) fa sc re gv gf ha me pc ba lo wt gt vl)) : wpY_complete post (mY Z (nI (d + 1)) (nI (w + 1)) (nI (g + pO Z k t)) fa sc re gv gf ha me pc ba lo wt gt vl) := by
  have hn5 := hR.1
  have hO3 := pO3 hR hk ht
  obtain ⟨_, h50, _, hT, _⟩ := hR.2.2.2.2.2.1 k hk
  obtain ⟨_, c2, _, c4⟩ := hT t ht
  rw [hc] at c2 c4
  have h9 := c4.1
  have e1 : nI (w + 1) - 1 = nI w := nI_pred w
  have hin : vp_in (nI (550 + 50 * k + t)) 800 := pk_in (550 + 50 * k + t) 800 (by omega)
  have ec : (nI (550 + 50 * k + t)).toNatClampNeg = 550 + 50 * k + t := nI_clamp (by omega)
  refine nm_r e1 ⟨pk_in w 600 hw e1, nm_r (e' := nI (550 + 50 * k + t)) (by rw [e1, nI_clamp (by omega), hwt]) ⟨hin, nm_r (e' := nI c) (by rw [ec]; exact c2) (y_ops hR hk ht (nm_r (nI_pred d) (br_f (ba_ne (b := 5) (by omega) (by omega) h5) (nm_r (e' := nI g) (by rw [pk_sub (by omega)]; exact congrArg nI (by omega)) ⟨pk_in g 1200 (by omega), nm_r (e' := vl g) (by rw [nI_clamp (by omega)]) (pk_le (pO Z k t) 1 (fun z => H1 (by omega)) (fun z => ?_))⟩))))⟩⟩
  have e2 : nI g + 1 = nI (g + 1) := nI_1 g
  refine ⟨pk_in (g + 1) 1200 (by omega) e2, ?_⟩
  rw [e2, nI_clamp (show g + 1 < 2 ^ 31 by omega)]
  exact H2 (by omega)
theorem yc_5 {post : SY → Prop} {d k t w g nm : Nat} (hR : pR E Z n m tk ln D B pr) (hk : k < n) (ht : t < ln k) (hw : w < 600) (hwt : wt w = nI (550 + 50 * k + t)) (hc : pK Z k t = 5) (hv : yV Z (550 + 50 * k + t) &&& 15 = nI nm)
    (H : wpY_begin post (mY Z (nI (d + 1)) (nI w) (nI g) fa sc re gv gf ha me pc ba lo wt gt vl) (nI nm) (nI (pO Z k t))) : wpY_complete post (mY Z (nI (d + 1)) (nI (w + 1)) (nI g) fa sc re gv gf ha me pc ba lo wt gt vl) := by
  have hn5 := hR.1
  obtain ⟨_, h50, _, hT, _⟩ := hR.2.2.2.2.2.1 k hk
  obtain ⟨_, c2, _, c4⟩ := hT t ht
  rw [hc] at c2
  have e1 : nI (w + 1) - 1 = nI w := nI_pred w
  have hin : vp_in (nI (550 + 50 * k + t)) 800 := pk_in (550 + 50 * k + t) 800 (by omega)
  have ec : (nI (550 + 50 * k + t)).toNatClampNeg = 550 + 50 * k + t := nI_clamp (by omega)
  have key : ∀ v, v = nI nm → wpY_begin post (mY Z (nI (d + 1)) (nI w) (nI g) fa sc re gv gf ha me pc ba lo wt gt vl) v (nI (pO Z k t)) := fun v e => by rw [e]; exact H
  exact nm_r e1 ⟨pk_in w 600 hw e1, nm_r (e' := nI (550 + 50 * k + t)) (by rw [e1, nI_clamp (by omega), hwt]) ⟨hin, nm_r (e' := nI 5) (by rw [ec]; exact c2) (y_ops hR hk ht (nm_e (br_t (by decide) ⟨hin, key _ (by show yV Z (nI (550 + 50 * k + t)).toNatClampNeg &&& 15 = _; rw [ec]; exact hv)⟩)))⟩⟩
theorem y9_two {post : SY → Prop} {de x1 x4 x5 z0 : Int32} {c : Nat} (h6 : 6 ≤ c) (h17 : c ≤ 17) (H : post (mY Z de wa he fa sc re gv (tv c x5 z0) 1 me pc ba lo wt gt vl)) : w99Y post x1 (nI c) x4 x5 z0 (mY Z de wa he fa sc re gv gf ha me pc ba lo wt gt vl) := by
  have h : w342Y post (nI c) x5 z0 (mY Z de wa he fa sc re gv gf ha me pc ba lo wt gt vl) := tv_y h6 h17 H
  exact br_f (nI_nlt (a := c) (b := 4) (by omega) (by omega)) (br_f (nI_nlt (a := 26) (by omega) (by omega)) (br_f (ba_ne (b := 4) (by omega) (by omega) (by omega)) (br_f (ba_ne (b := 5) (by omega) (by omega) (by omega)) (pk_eq c 6 (fun _ => h) (fun z6 => pk_eq c 7 (fun _ => h) (fun z7 => pk_eq c 8 (fun _ => h) (fun z8 => pk_eq c 9 (fun _ => h) (fun z9 => pk_eq c 10 (fun _ => h) (fun z10 => pk_eq c 11 (fun _ => h) (fun z11 => pk_eq c 12 (fun _ => h) (fun z12 => pk_eq c 13 (fun _ => h) (fun z13 => pk_eq c 14 (fun _ => h) (fun z14 => pk_eq c 15 (fun _ => h) (fun z15 => pk_eq c 16 (fun _ => h) (fun z16 => pk_eq c 17 (fun _ => h) (fun z17 => False.elim (by omega)))))))))))))))))
theorem y9_4 {post : SY → Prop} {de x1 x4 x5 z0 : Int32} {M : Nat} (hM : yUS Z = nI M) (hM4 : M ≤ 48) (h1 : ∀ r, r < M → x5 = nI r → post (mY Z de wa he fa sc re gv (me r) 1 me pc ba lo wt gt vl)) (h0 : (x5 < 0 ∨ nI M ≤ x5) → post (mY Z de wa he 7 sc re gv gf ha me pc ba lo wt gt vl)) : w99Y post x1 4 x4 x5 z0 (mY Z de wa he fa sc re gv gf ha me pc ba lo wt gt vl) := by
  refine br_f (by decide) (br_f (by decide) (br_t rfl ?_))
  show wpY_out _ x5 (yUS Z)
  rw [hM]
  rcases pk_ix x5 (n := M) (by omega) with z | z | ⟨r, hr, e⟩
  · exact yu_out1 (Or.inl z) (br_f (by decide) (h0 (Or.inl z)))
  · exact yu_out1 (Or.inr z) (br_f (by decide) (h0 (Or.inr z)))
  · subst e
    refine yu_out hr (by omega) (br_t rfl ⟨pk_in r 48 (by omega), ?_⟩)
    have := h1 r hr rfl
    rw [nI_clamp (show r < 2 ^ 31 by omega)]
    exact this
theorem y9_18 {post : SY → Prop} {de x1 x4 x5 z0 : Int32} (H : post (mY Z de wa he fa sc re gv (if x5 = 0 then 1 else 0) 1 me pc ba lo wt gt vl)) : w99Y post x1 18 x4 x5 z0 (mY Z de wa he fa sc re gv gf ha me pc ba lo wt gt vl) := by
  refine br_f (by decide) (br_f (by decide) (br_f (by decide) (br_f (by decide) (br_f (by decide) (br_f (by decide) (br_f (by decide) (br_f (by decide) (br_f (by decide) (br_f (by decide) (br_f (by decide) (br_f (by decide) (br_f (by decide) (br_f (by decide) (br_f (by decide) (br_f (by decide) (br_t (by decide) (br_c (fun z => ?_) (fun z => ?_))))))))))))))))))
  · rw [if_pos z] at H; exact H
  · rw [if_neg z] at H; exact H
theorem y9_20 {post : SY → Prop} {de x5 z0 : Int32} {a d q : Nat} (ha' : a < 800) (hv : yV Z a = nI q) (hq : q < 6) (hd : d < 10) (H : post (mY Z de wa he fa sc re gv gf ha me pc ba (upd lo (6 * d + q) x5) wt gt vl)) : w99Y post (nI a) 20 (nI d) x5 z0 (mY Z de wa he fa sc re gv gf ha me pc ba lo wt gt vl) := by
  have e1 : (6 : Int32) * nI d + yV Z (nI a).toNatClampNeg = nI (6 * d + q) := by rw [nI_clamp (by omega), hv, show (6 : Int32) = nI 6 from rfl, pk_mul, nI_add]
  exact br_f (by decide) (br_f (by decide) (br_f (by decide) (br_f (by decide) (br_f (by decide) (br_f (by decide) (br_f (by decide) (br_f (by decide) (br_f (by decide) (br_f (by decide) (br_f (by decide) (br_f (by decide) (br_f (by decide) (br_f (by decide) (br_f (by decide) (br_f (by decide) (br_f (by decide) (br_f (by decide) (br_t (by decide) ⟨pk_in a 800 ha', pk_in (6 * d + q) 60 (by omega) e1, nm_r (e' := upd lo (6 * d + q) x5) (congrArg (fun z => upd lo z x5) (by show ((6 : Int32) * nI d + yV Z (nI a).toNatClampNeg).toNatClampNeg = _; rw [e1, nI_clamp (by omega)])) H⟩))))))))))))))))))
theorem y9_21 {post : SY → Prop} {de x1 x4 x5 z0 : Int32} {M : Nat} (hM : yUS Z = nI M) (hM4 : M ≤ 48) (h1 : ∀ r, r < M → x5 = nI r → post (mY Z de wa he fa sc re gv gf ha (upd me r z0) pc ba lo wt gt vl)) (h0 : (x5 < 0 ∨ nI M ≤ x5) → post (mY Z de wa he 7 sc re gv gf ha me pc ba lo wt gt vl)) : w99Y post x1 21 x4 x5 z0 (mY Z de wa he fa sc re gv gf ha me pc ba lo wt gt vl) := by
  refine br_f (by decide) (br_f (by decide) (br_f (by decide) (br_f (by decide) (br_f (by decide) (br_f (by decide) (br_f (by decide) (br_f (by decide) (br_f (by decide) (br_f (by decide) (br_f (by decide) (br_f (by decide) (br_f (by decide) (br_f (by decide) (br_f (by decide) (br_f (by decide) (br_f (by decide) (br_f (by decide) (br_f (by decide) (br_t (by decide) ?_)))))))))))))))))))
  unfold wpY_poke
  show wpY_out _ x5 (yUS Z)
  rw [hM]
  rcases pk_ix x5 (n := M) (by omega) with z | z | ⟨r, hr, e⟩
  · exact yu_out1 (Or.inl z) (br_f (by decide) (br_t rfl (h0 (Or.inl z))))
  · exact yu_out1 (Or.inr z) (br_f (by decide) (br_t rfl (h0 (Or.inr z))))
  · subst e
    exact yu_out hr (by omega) (br_t rfl ⟨pk_in r 48 (by omega), nm_r (e' := upd me r z0) (by rw [nI_clamp (by omega)]) (br_f (by decide) (h1 r hr rfl))⟩)
theorem y9_22 {post : SY → Prop} {de x1 x4 x5 z0 : Int32} (h0 : x5 = 0 → wpY_jump post (mY Z de wa he fa sc re gv gf ha me pc ba lo wt gt vl) x1 0) (h1 : ¬ x5 = 0 → post (mY Z de wa he fa sc re gv gf ha me pc ba lo wt gt vl)) : w99Y post x1 22 x4 x5 z0 (mY Z de wa he fa sc re gv gf ha me pc ba lo wt gt vl) := by
  exact br_f (by decide) (br_f (by decide) (br_f (by decide) (br_f (by decide) (br_f (by decide) (br_f (by decide) (br_f (by decide) (br_f (by decide) (br_f (by decide) (br_f (by decide) (br_f (by decide) (br_f (by decide) (br_f (by decide) (br_f (by decide) (br_f (by decide) (br_f (by decide) (br_f (by decide) (br_f (by decide) (br_f (by decide) (br_f (by decide) (br_t (by decide) (br_c h0 h1)))))))))))))))))))))
theorem y9_24 {post : SY → Prop} {de x1 x4 x5 z0 : Int32} (h0 : x5 = 0 → wpY_jump post (mY Z de wa he fa sc re gv gf ha me pc ba lo wt gt vl) x1 1) (h1 : ¬ x5 = 0 → post (mY Z de wa he fa sc re gv gf ha me pc ba lo wt gt vl)) : w99Y post x1 24 x4 x5 z0 (mY Z de wa he fa sc re gv gf ha me pc ba lo wt gt vl) := by
  exact br_f (by decide) (br_f (by decide) (br_f (by decide) (br_f (by decide) (br_f (by decide) (br_f (by decide) (br_f (by decide) (br_f (by decide) (br_f (by decide) (br_f (by decide) (br_f (by decide) (br_f (by decide) (br_f (by decide) (br_f (by decide) (br_f (by decide) (br_f (by decide) (br_f (by decide) (br_f (by decide) (br_f (by decide) (br_f (by decide) (br_f (by decide) (br_f (by decide) (br_t (by decide) (br_c h0 h1)))))))))))))))))))))))
theorem y9_25 {post : SY → Prop} {de x1 x4 x5 z0 : Int32} (H : wpY_leave post (mY Z de wa he fa sc re gv gf ha me pc ba lo wt gt vl) x5) : w99Y post x1 25 x4 x5 z0 (mY Z de wa he fa sc re gv gf ha me pc ba lo wt gt vl) := by
  exact br_f (by decide) (br_f (by decide) (br_f (by decide) (br_f (by decide) (br_f (by decide) (br_f (by decide) (br_f (by decide) (br_f (by decide) (br_f (by decide) (br_f (by decide) (br_f (by decide) (br_f (by decide) (br_f (by decide) (br_f (by decide) (br_f (by decide) (br_f (by decide) (br_f (by decide) (br_f (by decide) (br_f (by decide) (br_f (by decide) (br_f (by decide) (br_f (by decide) (br_f (by decide) (br_t (by decide) H)))))))))))))))))))))))
theorem y9_26 {post : SY → Prop} {de x1 x4 x5 z0 : Int32} (H : post (mY Z de wa he fa sc re gv gf ha me pc ba lo wt gt vl)) : w99Y post x1 26 x4 x5 z0 (mY Z de wa he fa sc re gv gf ha me pc ba lo wt gt vl) := by
  exact br_f (by decide) (br_f (by decide) (br_f (by decide) (br_f (by decide) (br_f (by decide) (br_f (by decide) (br_f (by decide) (br_f (by decide) (br_f (by decide) (br_f (by decide) (br_f (by decide) (br_f (by decide) (br_f (by decide) (br_f (by decide) (br_f (by decide) (br_f (by decide) (br_f (by decide) (br_f (by decide) (br_f (by decide) (br_f (by decide) (br_f (by decide) (br_f (by decide) (br_f (by decide) (br_f (by decide) (br_t (by decide) H))))))))))))))))))))))))
end
