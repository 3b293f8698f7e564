/-! a token is finished, on each side -/
def tv (c : Nat) (x y : Int32) : Int32 := if c = 6 then x + y else if c = 7 then x - y else if c = 8 then x * y else if c = 9 then (if y = 0 then -1 else x / y) else if c = 10 then (if y = 0 then x else x - x / y * y) else if c = 11 then x &&& y else if c = 12 then x ||| y else if c = 13 then x ^^^ y else if c = 14 then x <<< ((y &&& 31) &&& 31) else if c = 15 then x >>> ((y &&& 31) &&& 31) else if c = 16 then (if y ≤ x then 0 else 1) else (if x = y then 1 else 0)
theorem tv_if {c A B : Prop} [Decidable c] {P : Int32 → Prop} {a b : Int32} (h : P (if c then a else b)) : (c → P a) ∧ (¬ c → P b) := by
  constructor
  · intro z; rw [if_pos z] at h; exact h
  · intro z; rw [if_neg z] at h; exact h
theorem tv_12 {P : Nat → Prop} (h6 : P 6) (h7 : P 7) (h8 : P 8) (h9 : P 9) (h10 : P 10) (h11 : P 11) (h12 : P 12) (h13 : P 13) (h14 : P 14) (h15 : P 15) (h16 : P 16) (h17 : P 17) {c : Nat} (h1 : 6 ≤ c) (h2 : c ≤ 17) : P c := by
  rcases (by omega : c = 6 ∨ c = 7 ∨ c = 8 ∨ c = 9 ∨ c = 10 ∨ c = 11 ∨ c = 12 ∨ c = 13 ∨ c = 14 ∨ c = 15 ∨ c = 16 ∨ c = 17) with e | e | e | e | e | e | e | e | e | e | e | e <;> subst e <;> assumption
theorem tv_y {post : Int32 → Prop} {c : Nat} {x y : Int32} (h1 : 6 ≤ c) (h2 : c ≤ 17) : post (tv c x y) → wpY_two post (nI c) x y := by
  refine tv_12 (P := fun c => post (tv c x y) → wpY_two post (nI c) x y) ?_ ?_ ?_ ?_ ?_ ?_ ?_ ?_ ?_ ?_ ?_ ?_ h1 h2
  · intro hp; exact br_f (by decide) (br_f (by decide) (br_t (by decide) hp))
  · intro hp; exact br_f (by decide) (br_f (by decide) (br_f (by decide) (br_t (by decide) hp)))
  · intro hp; exact br_f (by decide) (br_f (by decide) (br_f (by decide) (br_f (by decide) (br_t (by decide) hp))))
  · intro hp
    have hp' : post (if y = 0 then -1 else x / y) := hp
    refine br_f (by decide) (br_f (by decide) (br_f (by decide) (br_f (by decide) (br_f (by decide) (br_t (by decide) (br_c (fun z => ?_) (fun z => ⟨z, ?_⟩)))))))
    · rw [if_pos z] at hp'; exact hp'
    · rw [if_neg z] at hp'; exact hp'
  · intro hp
    have hp' : post (if y = 0 then x else x - x / y * y) := hp
    refine br_f (by decide) (br_f (by decide) (br_f (by decide) (br_f (by decide) (br_f (by decide) (br_f (by decide) (br_t (by decide) (br_c (fun z => ?_) (fun z => ⟨z, ?_⟩))))))))
    · rw [if_pos z] at hp'; exact hp'
    · rw [if_neg z] at hp'; exact hp'
  · intro hp; exact br_f (by decide) (br_f (by decide) (br_f (by decide) (br_f (by decide) (br_f (by decide) (br_f (by decide) (br_f (by decide) (br_t (by decide) hp)))))))
  · intro hp; exact br_f (by decide) (br_f (by decide) (br_f (by decide) (br_f (by decide) (br_f (by decide) (br_f (by decide) (br_f (by decide) (br_f (by decide) (br_t (by decide) hp))))))))
  · intro hp; exact br_f (by decide) (br_f (by decide) (br_f (by decide) (br_f (by decide) (br_f (by decide) (br_f (by decide) (br_f (by decide) (br_f (by decide) (br_f (by decide) (br_t (by decide) hp)))))))))
  · intro hp; exact br_f (by decide) (br_f (by decide) (br_f (by decide) (br_f (by decide) (br_f (by decide) (br_f (by decide) (br_f (by decide) (br_f (by decide) (br_f (by decide) (br_f (by decide) (br_t (by decide) hp))))))))))
  · intro hp; exact br_f (by decide) (br_f (by decide) (br_f (by decide) (br_f (by decide) (br_f (by decide) (br_f (by decide) (br_f (by decide) (br_f (by decide) (br_f (by decide) (br_f (by decide) (br_f (by decide) (br_t (by decide) hp)))))))))))
  · intro hp
    have hp' : post (if y ≤ x then 0 else 1) := hp
    refine br_f (by decide) (br_f (by decide) (br_f (by decide) (br_f (by decide) (br_f (by decide) (br_f (by decide) (br_f (by decide) (br_f (by decide) (br_f (by decide) (br_f (by decide) (br_f (by decide) (br_f (by decide) (br_t (by decide) (br_c (fun z => ?_) (fun z => ?_))))))))))))))
    · rw [if_pos z] at hp'; exact hp'
    · rw [if_neg z] at hp'; exact hp'
  · intro hp
    have hp' : post (if x = y then 1 else 0) := hp
    refine br_f (by decide) (br_t (by decide) (br_c (fun z => ?_) (fun z => ?_)))
    · rw [if_pos z] at hp'; exact hp'
    · rw [if_neg z] at hp'; exact hp'
theorem tv_x {post : Int32 → Prop} {c : Nat} {x y : Int32} (h1 : 6 ≤ c) (h2 : c ≤ 17) : post (tv c x y) → (10 < nI c → wpX_combine post (nI c) x y) ∧ (¬ 10 < nI c → wpX_calculate post (nI c) x y) := by
  refine tv_12 (P := fun c => post (tv c x y) → (10 < nI c → wpX_combine post (nI c) x y) ∧ (¬ 10 < nI c → wpX_calculate post (nI c) x y)) ?_ ?_ ?_ ?_ ?_ ?_ ?_ ?_ ?_ ?_ ?_ ?_ h1 h2
  · intro hp; exact br_f (by decide) (br_f (by decide) (br_f (by decide) (br_t (by decide) hp)))
  · intro hp; exact br_f (by decide) (br_f (by decide) (br_f (by decide) (br_f (by decide) (br_t (by decide) hp))))
  · intro hp; exact br_f (by decide) (br_f (by decide) (br_f (by decide) (br_f (by decide) (br_f (by decide) (br_t (by decide) hp)))))
  · intro hp
    have hp' : post (if y = 0 then -1 else x / y) := hp
    refine br_f (by decide) (br_f (by decide) (br_f (by decide) (br_f (by decide) (br_f (by decide) (br_f (by decide) (br_t (by decide) (br_c (fun z => ?_) (fun z => ⟨z, ?_⟩))))))))
    · rw [if_pos z] at hp'; exact hp'
    · rw [if_neg z] at hp'; exact hp'
  · intro hp
    have hp' : post (if y = 0 then x else x - x / y * y) := hp
    refine br_f (by decide) (br_f (by decide) (br_t (by decide) (br_c (fun z => ?_) (fun z => ⟨z, ?_⟩))))
    · rw [if_pos z] at hp'; exact hp'
    · rw [if_neg z] at hp'; exact hp'
  · intro hp; exact br_t (by decide) (br_f (by decide) (br_f (by decide) (br_t (by decide) hp)))
  · intro hp; exact br_t (by decide) (br_f (by decide) (br_f (by decide) (br_f (by decide) (br_t (by decide) hp))))
  · intro hp; exact br_t (by decide) (br_f (by decide) (br_f (by decide) (br_f (by decide) (br_f (by decide) (br_t (by decide) hp)))))
  · intro hp; exact br_t (by decide) (br_f (by decide) (br_f (by decide) (br_f (by decide) (br_f (by decide) (br_f (by decide) (br_t (by decide) hp))))))
  · intro hp; exact br_t (by decide) (br_f (by decide) (br_f (by decide) (br_f (by decide) (br_f (by decide) (br_f (by decide) (br_f (by decide) (br_t (by decide) hp)))))))
  · intro hp
    have hp' : post (if y ≤ x then 0 else 1) := hp
    refine br_t (by decide) (br_f (by decide) (br_f (by decide) (br_f (by decide) (br_f (by decide) (br_f (by decide) (br_f (by decide) (br_f (by decide) (br_t (by decide) (br_c (fun z => ?_) (fun z => ?_))))))))))
    · rw [if_pos z] at hp'; exact hp'
    · rw [if_neg z] at hp'; exact hp'
  · intro hp
    have hp' : post (if x = y then 1 else 0) := hp
    refine br_t (by decide) (br_f (by decide) (br_t (by decide) (br_c (fun z => ?_) (fun z => ?_))))
    · rw [if_pos z] at hp'; exact hp'
    · rw [if_neg z] at hp'; exact hp'
section
variable {E : SX} {Z : SY} {n m : Nat} {tk ln : Nat → Nat} {D B pr : Nat → Nat → Nat}
variable {oc pc fc nx ou lr sc : Int32} {me op pt pd lo rt : Nat → Int32}
def wX_fE66 (post : SX → Prop) (z0 : Int32) (x : SX) : Prop := match x with
  | (f_draftCount, f_openCount, f_operandsDue, f_faultPlace, f_listCount, f_takenCount, f_culpritName, f_memorySize, f_operandCount, f_pendingCount, f_frameCount, f_next, f_outcome, f_lastResult, f_stepCount, a_draftKind, a_draftValue, a_draftPartner, a_openBlock, a_unitKind, a_unitValue, a_unitPartner, a_unitLength, a_listedUnit, a_listedAsLibrary, a_takenUnit, a_definition, a_isDuplicate, a_isWanted, a_codeKind, a_codeValue, a_codePartner, a_functionOf, a_placeOf, a_memory, a_operands, a_pendingToken, a_pendingDue, a_locals, a_returnTo) => wX_finishExpression_66 post z0 f_draftCount f_openCount f_operandsDue f_faultPlace f_listCount f_takenCount f_culpritName f_memorySize f_operandCount f_pendingCount f_frameCount f_next f_outcome f_lastResult f_stepCount a_draftKind a_draftValue a_draftPartner a_openBlock a_unitKind a_unitValue a_unitPartner a_unitLength a_listedUnit a_listedAsLibrary a_takenUnit a_definition a_isDuplicate a_isWanted a_codeKind a_codeValue a_codePartner a_functionOf a_placeOf a_memory a_operands a_pendingToken a_pendingDue a_locals a_returnTo
/-- the front of finishing, by kind -/
theorem xf_5 {post : SX → Prop} {a w nm : Nat} (ha : a < 250) (hw : w < 500) (hpt : pt w = nI a) (hk : xCK E a = 5) (hv : xCV E a &&& 15 = nI nm) (H : wpX_beginFunction post (mX E oc (nI w) fc nx ou lr sc me op pt pd lo rt) (nI nm)) : wpX_finishPending post (mX E oc (nI (w + 1)) fc nx ou lr sc me op pt pd lo rt) := by
  have hin : vp_in (nI a) 250 := pk_in a 250 ha
  have ec : (nI a).toNatClampNeg = a := nI_clamp (by omega)
  refine nm_r (nI_pred w) ⟨pk_in w 500 hw, nm_r (e' := nI a) (by rw [nI_clamp (by omega), hpt]) ⟨hin, nm_r (e' := 5) (by rw [ec]; exact hk) (br_t rfl ⟨hin, ?_⟩)⟩⟩
  have key : ∀ v, v = nI nm → wpX_beginFunction post (mX E oc (nI w) fc nx ou lr sc me op pt pd lo rt) v := fun v e => by rw [e]; exact H
  exact key _ (by rw [ec]; exact hv)
theorem xf_E {post : SX → Prop} {a w c : Nat} (ha : a < 250) (hw : w < 500) (hpt : pt w = nI a) (hk : xCK E a = nI c) (hc : c ≤ 18) (h5 : c ≠ 5) (H : wpX_finishExpression post (mX E oc (nI w) fc nx ou lr sc me op pt pd lo rt) (nI c)) : wpX_finishPending post (mX E oc (nI (w + 1)) fc nx ou lr sc me op pt pd lo rt) := by
  have hin : vp_in (nI a) 250 := pk_in a 250 ha
  have ec : (nI a).toNatClampNeg = a := nI_clamp (by omega)
  exact nm_r (nI_pred w) ⟨pk_in w 500 hw, nm_r (e' := nI a) (by rw [nI_clamp (by omega), hpt]) ⟨hin, nm_r (e' := nI c) (by rw [ec]; exact hk) (br_f (ba_ne (b := 5) (by omega) (by omega) h5) (br_f (nI_nlt (b := c) (a := 18) hc (by omega)) H))⟩⟩
theorem xf_S {post : SX → Prop} {a w c : Nat} (ha : a < 250) (hw : w < 500) (hpt : pt w = nI a) (hk : xCK E a = nI c) (hc : 18 < c) (hc9 : c ≤ 29) (H : wpX_finishStatement post (mX E oc (nI w) fc nx ou lr sc me op pt pd lo rt) (nI a)) : wpX_finishPending post (mX E oc (nI (w + 1)) fc nx ou lr sc me op pt pd lo rt) := by
  have hin : vp_in (nI a) 250 := pk_in a 250 ha
  have ec : (nI a).toNatClampNeg = a := nI_clamp (by omega)
  exact nm_r (nI_pred w) ⟨pk_in w 500 hw, nm_r (e' := nI a) (by rw [nI_clamp (by omega), hpt]) ⟨hin, nm_r (e' := nI c) (by rw [ec]; exact hk) (br_f (ba_ne (b := 5) (by omega) (by omega) (by omega)) (br_t (nI_lt (a := 18) hc (by omega)) H))⟩⟩
theorem xe_not {post : SX → Prop} {g w : Nat} (hg : g < 500) (hw : w < 500) (hp : post (mX E (nI (g + 1)) (nI (w + 1)) fc nx ou lr sc me (upd op g (if op g = 0 then 1 else 0)) pt (upd pd w (pd w - 1)) lo rt)) : wpX_finishExpression post (mX E (nI (g + 1)) (nI (w + 1)) fc nx ou lr sc me op pt pd lo rt) 18 := by
  unfold wpX_finishExpression
  refine x_pop hg (br_t rfl (br_c (fun z => x_give hg hw ?_) (fun z => x_give hg hw ?_)))
  · rw [if_pos z] at hp; exact hp
  · rw [if_neg z] at hp; exact hp
theorem xe_get {post : SX → Prop} {g w M : Nat} (hg : g < 500) (hw : w < 500) (hM : xMS E = nI M) (hM4 : M ≤ 48) (h1 : ∀ r, r < M → op g = nI r → post (mX E (nI (g + 1)) (nI (w + 1)) fc nx ou lr sc me (upd op g (me r)) pt (upd pd w (pd w - 1)) lo rt)) (h0 : (op g < 0 ∨ nI M ≤ op g) → post (mX E (nI g) (nI (w + 1)) fc nx 7 lr sc me op pt pd lo rt)) : wpX_finishExpression post (mX E (nI (g + 1)) (nI (w + 1)) fc nx ou lr sc me op pt pd lo rt) 4 := by
  unfold wpX_finishExpression
  exact x_pop hg (br_f (by decide) (br_t rfl (x_get hg hw hM hM4 h1 h0)))
theorem xe_two {post : SX → Prop} {g w c : Nat} (hg : g + 1 < 500) (hw : w < 500) (h6 : 6 ≤ c) (h17 : c ≤ 17) (hp : post (mX E (nI (g + 1)) (nI (w + 1)) fc nx ou lr sc me (upd op g (tv c (op g) (op (g + 1)))) pt (upd pd w (pd w - 1)) lo rt)) : wpX_finishExpression post (mX E (nI (g + 1 + 1)) (nI (w + 1)) fc nx ou lr sc me op pt pd lo rt) (nI c) := by
  unfold wpX_finishExpression
  refine x_pop hg (br_f (ba_ne (b := 18) (by omega) (by omega) (by omega)) (br_f (ba_ne (b := 4) (by omega) (by omega) (by omega)) (x_pop (by omega) ?_)))
  exact tv_x (post := fun r => wX_fE66 post r (mX E (nI g) (nI (w + 1)) fc nx ou lr sc me op pt pd lo rt)) h6 h17 (x_give (by omega) hw hp)
theorem xs_20 {post : SX → Prop} {a h d q : Nat} (ha : a < 250) (hh : h < 500) (hk : xCK E a = 20) (hv : xCV E a = nI q) (hq : q < 6) (hd : d < 10) (hp : post (mX E (nI h) pc (nI (d + 1)) nx ou lr sc me op pt pd (upd lo (6 * d + q) (op h)) rt)) : wpX_finishStatement post (mX E (nI (h + 1)) pc (nI (d + 1)) nx ou lr sc me op pt pd lo rt) (nI a) := by
  have hin : vp_in (nI a) 250 := pk_in a 250 ha
  have ec : (nI a).toNatClampNeg = a := nI_clamp (by omega)
  unfold wpX_finishStatement
  refine x_pop hh ⟨hin, nm_r (e' := 20) (by rw [ec]; exact hk) (br_f (by decide) (br_f (by decide) (br_t rfl ⟨hin, ?_⟩)))⟩
  have e1 : (nI (d + 1) - 1) * 6 + xCV E (nI a).toNatClampNeg = nI (6 * d + q) := by rw [ec, hv, nI_pred, show (6 : Int32) = nI 6 from rfl, pk_mul, nI_add, Nat.mul_comm]
  exact ⟨pk_in (6 * d + q) 60 (by omega) e1, nm_r (e' := upd lo (6 * d + q) (op h)) (congrArg (fun z => upd lo z (op h)) (by show ((nI (d + 1) - 1) * 6 + xCV E (nI a).toNatClampNeg).toNatClampNeg = _; rw [e1, nI_clamp (by omega)])) hp⟩
theorem xs_21 {post : SX → Prop} {a g M : Nat} (ha : a < 250) (hg : g + 1 < 500) (hk : xCK E a = 21) (hM : xMS E = nI M) (hM4 : M ≤ 48) (h1 : ∀ r, r < M → op g = nI r → post (mX E (nI g) pc fc nx ou lr sc (upd me r (op (g + 1))) op pt pd lo rt)) (h0 : (op g < 0 ∨ nI M ≤ op g) → post (mX E (nI g) pc fc nx 7 lr sc me op pt pd lo rt)) : wpX_finishStatement post (mX E (nI (g + 1 + 1)) pc fc nx ou lr sc me op pt pd lo rt) (nI a) := by
  have hin : vp_in (nI a) 250 := pk_in a 250 ha
  have ec : (nI a).toNatClampNeg = a := nI_clamp (by omega)
  unfold wpX_finishStatement
  refine x_pop hg ⟨hin, nm_r (e' := 21) (by rw [ec]; exact hk) (br_f (by decide) (br_f (by decide) (br_f (by decide) (br_t rfl ?_))))⟩
  unfold wpX_putWord
  refine x_pop (by omega) (x_inuse hM hM4 (fun r hr e => br_f (by decide) ⟨pk_in r 48 (by omega) e, nm_r (e' := upd me r (op (g + 1))) (by rw [e, nI_clamp (by omega)]) (h1 r hr e)⟩) (fun z => br_t rfl (h0 z)))
theorem xs_22 {post : SX → Prop} {a h c e : Nat} (ha : a < 250) (hh : h < 500) (hk : xCK E a = nI c) (hc : c = 22 ∨ c = 24) (hcp : xCP E a = nI e) (h0 : op h = 0 → post (mX E (nI h) pc fc (nI (e + 1)) ou lr sc me op pt pd lo rt)) (h1 : ¬ op h = 0 → post (mX E (nI h) pc fc nx ou lr sc me op pt pd lo rt)) : wpX_finishStatement post (mX E (nI (h + 1)) pc fc nx ou lr sc me op pt pd lo rt) (nI a) := by
  have hin : vp_in (nI a) 250 := pk_in a 250 ha
  have ec : (nI a).toNatClampNeg = a := nI_clamp (by omega)
  have e2 : xCP E (nI a).toNatClampNeg + 1 = nI (e + 1) := by rw [ec, hcp, nI_1]
  unfold wpX_finishStatement
  refine x_pop hh ⟨hin, nm_r (e' := nI c) (by rw [ec]; exact hk) ?_⟩
  rcases hc with z | z <;> subst z
  · exact br_f (by decide) (br_f (by decide) (br_f (by decide) (br_f (by decide) (br_t (by decide) (br_c (fun z => ⟨hin, nm_r (e' := nI (e + 1)) e2 (h0 z)⟩) (fun z => h1 z))))))
  · exact br_f (by decide) (br_f (by decide) (br_f (by decide) (br_f (by decide) (br_f (by decide) (br_f (by decide) (br_t (by decide) (br_c (fun z => ⟨hin, nm_r (e' := nI (e + 1)) e2 (h0 z)⟩) (fun z => h1 z))))))))
theorem xs_25 {post : SX → Prop} {a h : Nat} (ha : a < 250) (hh : h < 500) (hk : xCK E a = 25) (H : wpX_endFunction post (mX E (nI h) pc fc nx ou lr sc me op pt pd lo rt) (op h)) : wpX_finishStatement post (mX E (nI (h + 1)) pc fc nx ou lr sc me op pt pd lo rt) (nI a) := by
  have hin : vp_in (nI a) 250 := pk_in a 250 ha
  have ec : (nI a).toNatClampNeg = a := nI_clamp (by omega)
  unfold wpX_finishStatement
  exact x_pop hh ⟨hin, nm_r (e' := 25) (by rw [ec]; exact hk) (br_f (by decide) (br_f (by decide) (br_f (by decide) (br_f (by decide) (br_f (by decide) (br_f (by decide) (br_f (by decide) (br_t rfl H))))))))⟩
theorem xs_26 {post : SX → Prop} {a h : Nat} (ha : a < 250) (hh : h < 500) (hk : xCK E a = 26) (H : post (mX E (nI h) pc fc nx ou lr sc me op pt pd lo rt)) : wpX_finishStatement post (mX E (nI (h + 1)) pc fc nx ou lr sc me op pt pd lo rt) (nI a) := by
  have hin : vp_in (nI a) 250 := pk_in a 250 ha
  have ec : (nI a).toNatClampNeg = a := nI_clamp (by omega)
  unfold wpX_finishStatement
  exact x_pop hh ⟨hin, nm_r (e' := 26) (by rw [ec]; exact hk) (br_f (by decide) (br_t (by decide) H))⟩
end
