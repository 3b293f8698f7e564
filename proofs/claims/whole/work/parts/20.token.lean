/-! one token, on each side -/
def kX (post : SX → Prop) (f t : Nat) (u : SX) : Prop := match u with
  | (f_draftCount, f_openCount, f_operandsDue, f_faultPlace, f_listCount, f_takenCount, f_culpritName, f_memorySize, f_operandCount, f_pendingCount, f_frameCount, f_next, f_outcome, f_lastResult, f_stepCount, a_draftKind, a_draftValue, a_draftPartner, a_openBlock, a_unitKind, a_unitValue, a_unitPartner, a_unitLength, a_listedUnit, a_listedAsLibrary, a_takenUnit, a_definition, a_isDuplicate, a_isWanted, a_codeKind, a_codeValue, a_codePartner, a_functionOf, a_placeOf, a_memory, a_operands, a_pendingToken, a_pendingDue, a_locals, a_returnTo) => ∀ x : Int32, x = nI t + 1 → wX_work_2 post f x f_draftCount f_openCount f_operandsDue f_faultPlace f_listCount f_takenCount f_culpritName f_memorySize f_operandCount f_pendingCount f_frameCount f_next f_outcome f_lastResult f_stepCount a_draftKind a_draftValue a_draftPartner a_openBlock a_unitKind a_unitValue a_unitPartner a_unitLength a_listedUnit a_listedAsLibrary a_takenUnit a_definition a_isDuplicate a_isWanted a_codeKind a_codeValue a_codePartner a_functionOf a_placeOf a_memory a_operands a_pendingToken a_pendingDue a_locals a_returnTo
theorem kX_of {post : SX → Prop} {f t : Nat} {u : SX} (h : wkX post f (nI (t + 1)) u) : kX post f t u := by
  obtain ⟨f_draftCount, f_openCount, f_operandsDue, f_faultPlace, f_listCount, f_takenCount, f_culpritName, f_memorySize, f_operandCount, f_pendingCount, f_frameCount, f_next, f_outcome, f_lastResult, f_stepCount, a_draftKind, a_draftValue, a_draftPartner, a_openBlock, a_unitKind, a_unitValue, a_unitPartner, a_unitLength, a_listedUnit, a_listedAsLibrary, a_takenUnit, a_definition, a_isDuplicate, a_isWanted, a_codeKind, a_codeValue, a_codePartner, a_functionOf, a_placeOf, a_memory, a_operands, a_pendingToken, a_pendingDue, a_locals, a_returnTo⟩ := u
  intro x hx
  rw [hx, nI_1]
  exact h
section
variable {E : SX} {Z : SY} {n m : Nat} {tk ln : Nat → Nat} {D B pr : Nat → Nat → Nat}
variable {oc pc fc nx ou lr sc : Int32} {me op pt pd lo rt : Nat → Int32}
theorem x_take {post : SX → Prop} {f t w a : Nat} (ht : t < 1000000) (ha : a < 250) (hw : w = 0 ∨ ∃ w', w = w' + 1 ∧ w' < 500 ∧ ∃ q, pd w' = nI (q + 1) ∧ q < 100) (h : wpX_takeToken (kX post f t) (mX E oc (nI w) fc (nI a) (-2) lr sc me op pt pd lo rt)) : wkX post (f + 1) (nI t) (mX E oc (nI w) fc (nI a) (-2) lr sc me op pt pd lo rt) := by
  refine br_f (nI_ge (b := 1000000) ht (by omega)) (br_t rfl (br_f (nI_ge (b := 250) ha (by omega)) ?_))
  rcases hw with e | ⟨w', e, h5, q, hq, hq1⟩
  · subst e
    exact br_t (by decide) h
  · subst e
    have e1 : nI (w' + 1) - 1 = nI w' := nI_pred w'
    have e2 : pd (nI (w' + 1) - 1).toNatClampNeg = nI (q + 1) := by rw [e1, nI_clamp (by omega), hq]
    exact br_f (nI_nle (Nat.succ_pos _) (by omega)) ⟨pk_in w' 500 h5 e1, br_f (by rw [e2]; exact nI_ne0 (Nat.succ_pos _) (by omega)) h⟩
theorem x_fin {post : SX → Prop} {f t w a : Nat} (ht : t < 1000000) (ha : a < 250) (hw : w < 500) (hd : pd w = nI 0) (h : wpX_finishPending (kX post f t) (mX E oc (nI (w + 1)) fc (nI a) (-2) lr sc me op pt pd lo rt)) : wkX post (f + 1) (nI t) (mX E oc (nI (w + 1)) fc (nI a) (-2) lr sc me op pt pd lo rt) := by
  have e1 : nI (w + 1) - 1 = nI w := nI_pred w
  have e2 : pd (nI (w + 1) - 1).toNatClampNeg = 0 := by rw [e1, nI_clamp (by omega), hd]; rfl
  exact br_f (nI_ge (b := 1000000) ht (by omega)) (br_t rfl (br_f (nI_ge (b := 250) ha (by omega)) (br_f (nI_nle (Nat.succ_pos _) (by omega)) ⟨pk_in w 500 hw e1, br_t e2 h⟩)))
theorem x_over {post : SX → Prop} {t : Nat} {u : SX} (hou : ¬ ou = -2) (h : post (mX E oc pc fc nx ou lr sc me op pt pd lo rt)) : wkX post 1 (nI t) (mX E oc pc fc nx ou lr sc me op pt pd lo rt) := br_c (fun _ => h) (fun _ => br_f hou h)
theorem xt0 {post : SX → Prop} {a h w : Nat} (ha : a < 250) (hh : h < 500) (hw : w < 500) (hk : xCK E a = 0) (hp : post (mX E (nI (h + 1)) (nI (w + 1)) fc (nI (a + 1)) ou lr sc me (upd op h (xCV E a)) pt (upd pd w (pd w - 1)) lo rt)) : wpX_takeToken post (mX E (nI h) (nI (w + 1)) fc (nI a) ou lr sc me op pt pd lo rt) := by
  have hin : vp_in (nI a) 250 := pk_in a 250 ha
  have ec : (nI a).toNatClampNeg = a := nI_clamp (by omega)
  refine ⟨hin, nm_r (e' := xCV E a) (by rw [ec]; rfl) (nm_r (nI_1 a) ⟨hin, nm_r (e' := 0) (by rw [ec]; exact hk) (br_t rfl (x_give hh hw hp))⟩)⟩
theorem xt1 {post : SX → Prop} {a h w d q : Nat} (ha : a < 250) (hh : h < 500) (hw : w < 500) (hk : xCK E a = 1) (hv : xCV E a = nI q) (hq : q < 6) (hd : d < 10) (hp : post (mX E (nI (h + 1)) (nI (w + 1)) (nI (d + 1)) (nI (a + 1)) ou lr sc me (upd op h (lo (6 * d + q))) pt (upd pd w (pd w - 1)) lo rt)) : wpX_takeToken post (mX E (nI h) (nI (w + 1)) (nI (d + 1)) (nI a) ou lr sc me op pt pd lo rt) := by
  have hin : vp_in (nI a) 250 := pk_in a 250 ha
  have ec : (nI a).toNatClampNeg = a := nI_clamp (by omega)
  have e1 : (nI (d + 1) - 1) * 6 + nI q = nI (6 * d + q) := by rw [nI_pred, show (6 : Int32) = nI 6 from rfl, pk_mul, nI_add, Nat.mul_comm]
  refine ⟨hin, nm_r (e' := nI q) (by rw [ec]; exact hv) (nm_r (nI_1 a) ⟨hin, nm_r (e' := 1) (by rw [ec]; exact hk) (br_f (by decide) (br_t rfl ⟨pk_in (6 * d + q) 60 (by omega) e1, ?_⟩))⟩)⟩
  rw [e1, nI_clamp (show 6 * d + q < 2 ^ 31 by omega)]
  exact x_give hh hw hp
theorem x_inuse {post : Int32 → Prop} {M : Nat} {v : Int32} (hM : xMS E = nI M) (hM4 : M ≤ 48) (h1 : ∀ r, r < M → v = nI r → post 1) (h0 : (v < 0 ∨ nI M ≤ v) → post 0) : wpX_isInUse post (mX E oc pc fc nx ou lr sc me op pt pd lo rt) v := by
  refine br_c (fun z => h0 (Or.inl z)) (fun z => ?_)
  show (xMS E ≤ v → _) ∧ (¬ xMS E ≤ v → _)
  rw [hM]
  refine br_c (fun y => h0 (Or.inr y)) (fun y => ?_)
  obtain ⟨r, hr, rfl⟩ := nI_of z
  rw [nI_leI (by omega) hr] at y
  exact h1 r (by omega) rfl
theorem x_get {post : SX → Prop} {h w M : Nat} {v : Int32} (hh : h < 500) (hw : w < 500) (hM : xMS E = nI M) (hM4 : M ≤ 48) (h1 : ∀ r, r < M → v = nI r → post (mX E (nI (h + 1)) (nI (w + 1)) fc nx ou lr sc me (upd op h (me r)) pt (upd pd w (pd w - 1)) lo rt)) (h0 : (v < 0 ∨ nI M ≤ v) → post (mX E (nI h) (nI (w + 1)) fc nx 7 lr sc me op pt pd lo rt)) : wpX_getWord post (mX E (nI h) (nI (w + 1)) fc nx ou lr sc me op pt pd lo rt) v := by
  unfold wpX_getWord
  refine x_inuse hM hM4 (fun r hr e => br_f (by decide) ⟨pk_in r 48 (by omega) e, ?_⟩) (fun z => br_t rfl (h0 z))
  rw [e, nI_clamp (show r < 2 ^ 31 by omega)]
  exact x_give hh hw (h1 r hr e)
theorem xt2 {post : SX → Prop} {a h w q r M : Nat} (ha : a < 250) (hh : h < 500) (hw : w < 500) (hk : xCK E a = 2) (hv : xCV E a = nI q) (hq : q < 12) (hpo : xPO E q = nI r) (hr : r < M) (hM : xMS E = nI M) (hM4 : M ≤ 48) (hp : post (mX E (nI (h + 1)) (nI (w + 1)) fc (nI (a + 1)) ou lr sc me (upd op h (me r)) pt (upd pd w (pd w - 1)) lo rt)) : wpX_takeToken post (mX E (nI h) (nI (w + 1)) fc (nI a) ou lr sc me op pt pd lo rt) := by
  have hin : vp_in (nI a) 250 := pk_in a 250 ha
  have ec : (nI a).toNatClampNeg = a := nI_clamp (by omega)
  refine ⟨hin, nm_r (e' := nI q) (by rw [ec]; exact hv) (nm_r (nI_1 a) ⟨hin, nm_r (e' := 2) (by rw [ec]; exact hk) (br_f (by decide) (br_f (by decide) (br_t rfl ⟨pk_in q 12 hq, ?_⟩)))⟩)⟩
  have e : xPO E (nI q).toNatClampNeg = nI r := by rw [nI_clamp (by omega), hpo]
  have key : ∀ v, v = nI r → wpX_getWord post (mX E (nI h) (nI (w + 1)) fc (nI (a + 1)) ou lr sc me op pt pd lo rt) v := by
    intro v hv
    refine x_get hh hw hM hM4 (fun r' hr' e' => ?_) (fun z => ?_)
    · have := ba_inj (by omega) (by omega) (hv.symm.trans e')
      subst this
      exact hp
    · exfalso
      rw [hv] at z
      rcases z with z | z
      · exact nI_pos (by omega) z
      · exact nI_ge hr (by omega) z
  exact key _ e
theorem xt3 {post : SX → Prop} {a h w q : Nat} (ha : a < 250) (hh : h < 500) (hw : w < 500) (hk : xCK E a = 3) (hv : xCV E a = nI q) (hq : q < 12) (hp : post (mX E (nI (h + 1)) (nI (w + 1)) fc (nI (a + 1)) ou lr sc me (upd op h (xPO E q)) pt (upd pd w (pd w - 1)) lo rt)) : wpX_takeToken post (mX E (nI h) (nI (w + 1)) fc (nI a) ou lr sc me op pt pd lo rt) := by
  have hin : vp_in (nI a) 250 := pk_in a 250 ha
  have ec : (nI a).toNatClampNeg = a := nI_clamp (by omega)
  refine ⟨hin, nm_r (e' := nI q) (by rw [ec]; exact hv) (nm_r (nI_1 a) ⟨hin, nm_r (e' := 3) (by rw [ec]; exact hk) (br_f (by decide) (br_f (by decide) (br_f (by decide) (br_t rfl ⟨pk_in q 12 hq, ?_⟩))))⟩)⟩
  rw [nI_clamp (show q < 2 ^ 31 by omega)]
  exact x_give hh hw hp
theorem xt23 {post : SX → Prop} {a e : Nat} (ha : a < 250) (hk : xCK E a = 23) (hcp : xCP E a = nI e) (hp : post (mX E oc pc fc (nI (e + 1)) ou lr sc me op pt pd lo rt)) : wpX_takeToken post (mX E oc pc fc (nI a) ou lr sc me op pt pd lo rt) := by
  have hin : vp_in (nI a) 250 := pk_in a 250 ha
  have ec : (nI a).toNatClampNeg = a := nI_clamp (by omega)
  exact ⟨hin, nm_e (nm_r (nI_1 a) ⟨hin, nm_r (e' := 23) (by rw [ec]; exact hk) (br_f (by decide) (br_f (by decide) (br_f (by decide) (br_f (by decide) (br_t rfl ⟨hin, nm_r (e' := nI (e + 1)) (by rw [ec]; show xCP E a + 1 = _; rw [hcp, nI_1]) hp⟩)))))⟩)⟩
theorem xt24 {post : SX → Prop} {a w s : Nat} (ha : a < 250) (hw : w < 500) (hs : s ≤ 200) (hk : xCK E a = 24) (hP : tk_P 24 (xCV E a)) (h8 : s = 200 → post (mX E oc (nI w) fc (nI (a + 1)) 8 lr (nI s) me op pt pd lo rt)) (hp : s < 200 → post (mX E oc (nI (w + 1)) fc (nI (a + 1)) ou lr (nI (s + 1)) me op (upd pt w (nI a)) (upd pd w (nI 1)) lo rt)) : wpX_takeToken post (mX E oc (nI w) fc (nI a) ou lr (nI s) me op pt pd lo rt) := by
  have hin : vp_in (nI a) 250 := pk_in a 250 ha
  have ec : (nI a).toNatClampNeg = a := nI_clamp (by omega)
  exact ⟨hin, nm_e (nm_r (nI_1 a) ⟨hin, nm_r (e' := 24) (by rw [ec]; exact hk) (br_f (by decide) (br_f (by decide) (br_f (by decide) (br_f (by decide) (br_f (by decide) (br_t rfl (x_step hs (fun e => br_t rfl (h8 e)) (fun e => br_f (by decide) (x_pend (c := 24) hw ha hk hP (by decide) (hp e)))))))))) ⟩)⟩
theorem xt27 {post : SX → Prop} {a o c : Nat} (ha : a < 250) (ho : o < 250) (hk : xCK E a = 27) (hcp : xCP E a = nI o) (hko : xCK E o = nI c) (hc : c ≤ 29) (h24 : c = 24 → post (mX E oc pc fc (nI o) ou lr sc me op pt pd lo rt)) (h28 : c = 28 → wpX_endFunction post (mX E oc pc fc (nI (a + 1)) ou lr sc me op pt pd lo rt) 0) (h22 : c ≠ 24 → c ≠ 28 → post (mX E oc pc fc (nI (a + 1)) ou lr sc me op pt pd lo rt)) : wpX_takeToken post (mX E oc pc fc (nI a) ou lr sc me op pt pd lo rt) := by
  have hin : vp_in (nI a) 250 := pk_in a 250 ha
  have ec : (nI a).toNatClampNeg = a := nI_clamp (by omega)
  have key : ∀ v, v = nI o → wpX_reachEnd post (mX E oc pc fc (nI (a + 1)) ou lr sc me op pt pd lo rt) v := by
    intro v hv
    subst hv
    have hino : vp_in (nI o) 250 := pk_in o 250 ho
    have e3 : xCK E (nI o).toNatClampNeg = nI c := by rw [nI_clamp (by omega), hko]
    refine ⟨hino, ?_⟩
    show (xCK E (nI o).toNatClampNeg = 24 → _) ∧ (¬ xCK E (nI o).toNatClampNeg = 24 → _ ∧ (xCK E (nI o).toNatClampNeg = 28 → _) ∧ (¬ xCK E (nI o).toNatClampNeg = 28 → _))
    rw [e3]
    exact pk_eq c 24 (fun z => h24 z) (fun z => ⟨hino, pk_eq c 28 (fun z2 => h28 z2) (fun z2 => h22 z z2)⟩)
  exact ⟨hin, nm_e (nm_r (nI_1 a) ⟨hin, nm_r (e' := 27) (by rw [ec]; exact hk) (br_f (by decide) (br_f (by decide) (br_f (by decide) (br_f (by decide) (br_f (by decide) (br_f (by decide) (br_t rfl ⟨hin, key _ (by rw [ec]; exact hcp)⟩)))))))⟩)⟩
theorem xtd {post : SX → Prop} {a w c : Nat} (ha : a < 250) (hw : w < 500) (hk : xCK E a = nI c) (hP : tk_P c (xCV E a)) (hc : 4 ≤ c ∧ c ≠ 23 ∧ c ≠ 24 ∧ c ≠ 27 ∧ c ≠ 29) (hp : post (mX E oc (nI (w + 1)) fc (nI (a + 1)) ou lr sc me op (upd pt w (nI a)) (upd pd w (nI (tk_n c (xCV E a).toNatClampNeg))) lo rt)) : wpX_takeToken post (mX E oc (nI w) fc (nI a) ou lr sc me op pt pd lo rt) := by
  have hin : vp_in (nI a) 250 := pk_in a 250 ha
  have ec : (nI a).toNatClampNeg = a := nI_clamp (by omega)
  have h9 := hP.1
  have ne : ∀ b : Nat, b < 30 → c ≠ b → ¬ nI c = nI b := fun b hb h => ba_ne (by omega) (by omega) h
  exact ⟨hin, nm_e (nm_r (nI_1 a) ⟨hin, nm_r (e' := nI c) (by rw [ec]; exact hk) (br_f (ne 0 (by omega) (by omega)) (br_f (ne 1 (by omega) (by omega)) (br_f (ne 2 (by omega) (by omega)) (br_f (ne 3 (by omega) (by omega)) (br_f (ne 23 (by omega) (by omega)) (br_f (ne 24 (by omega) (by omega)) (br_f (ne 27 (by omega) (by omega)) (x_pend (c := c) hw ha hk hP (by omega) hp))))))))⟩)⟩
end
section
variable {E : SX} {Z : SY} {n m : Nat} {tk ln : Nat → Nat} {D B pr : Nat → Nat → Nat}
variable {wa he sc re gv gf : Int32} {me pc ba lo wt gt vl : Nat → Int32}
theorem yt0 {post : Int32 → SY → Prop} {f d k p : Nat} (hR : pR E Z n m tk ln D B pr) (hk : k < n) (hp : p < ln k) (hd : d < 10) (hpc : pc d = nI (550 + 50 * k + p)) (hc : pK Z k p = 0) (H : wkY post f (mY Z (nI (d + 1)) wa he 0 sc re gv (yV Z (550 + 50 * k + p)) 1 me (upd pc d (nI (550 + 50 * k + (p + 1)))) ba lo wt gt vl)) : wkY post (f + 1) (mY Z (nI (d + 1)) wa he 0 sc re gv gf 0 me pc ba lo wt gt vl) := by
  have hn5 := hR.1
  obtain ⟨_, h50, _, hT, _⟩ := hR.2.2.2.2.2.1 k hk
  obtain ⟨_, c2, _, c4⟩ := hT p hp
  have ed : nI (d + 1) - 1 = nI d := nI_pred d
  have hin1 : vp_in (nI d) 10 := pk_in d 10 hd
  have hin : vp_in (nI (550 + 50 * k + p)) 800 := pk_in (550 + 50 * k + p) 800 (by omega)
  have ec : (nI (550 + 50 * k + p)).toNatClampNeg = 550 + 50 * k + p := nI_clamp (by omega)
  have ecd : (nI d).toNatClampNeg = d := nI_clamp (by omega)
  rw [hc] at c2
  refine br_f (nI_nle (Nat.succ_pos _) (by omega)) (br_t rfl (br_t rfl (nm_r ed ⟨hin1, hin1, nm_r (e' := upd pc d (nI (550 + 50 * k + (p + 1)))) (by rw [ecd, hpc, nI_1, ba_nss (by omega)]; rfl) (nm_r (e' := nI (550 + 50 * k + p)) (by rw [ecd, hpc]) ⟨hin, nm_r (e' := 0) (by rw [ec]; exact c2) (br_t rfl ⟨hin, ?_⟩)⟩)⟩)))
  show wkY post f (mY Z (nI (d + 1)) wa he 0 sc re gv (yV Z (nI (550 + 50 * k + p)).toNatClampNeg) 1 me _ ba lo wt gt vl)
  rw [ec]; exact H
theorem yt1 {post : Int32 → SY → Prop} {f d k p q : Nat} (hR : pR E Z n m tk ln D B pr) (hk : k < n) (hp : p < ln k) (hd : d < 10) (hpc : pc d = nI (550 + 50 * k + p)) (hc : pK Z k p = 1) (hv : yV Z (550 + 50 * k + p) = nI q) (hq : q < 6) (H : wkY post f (mY Z (nI (d + 1)) wa he 0 sc re gv (lo (6 * d + q)) 1 me (upd pc d (nI (550 + 50 * k + (p + 1)))) ba lo wt gt vl)) : wkY post (f + 1) (mY Z (nI (d + 1)) wa he 0 sc re gv gf 0 me pc ba lo wt gt vl) := by
  have hn5 := hR.1
  obtain ⟨_, h50, _, hT, _⟩ := hR.2.2.2.2.2.1 k hk
  obtain ⟨_, c2, _, c4⟩ := hT p hp
  have ed : nI (d + 1) - 1 = nI d := nI_pred d
  have hin1 : vp_in (nI d) 10 := pk_in d 10 hd
  have hin : vp_in (nI (550 + 50 * k + p)) 800 := pk_in (550 + 50 * k + p) 800 (by omega)
  have ec : (nI (550 + 50 * k + p)).toNatClampNeg = 550 + 50 * k + p := nI_clamp (by omega)
  have ecd : (nI d).toNatClampNeg = d := nI_clamp (by omega)
  rw [hc] at c2
  refine br_f (nI_nle (Nat.succ_pos _) (by omega)) (br_t rfl (br_t rfl (nm_r ed ⟨hin1, hin1, nm_r (e' := upd pc d (nI (550 + 50 * k + (p + 1)))) (by rw [ecd, hpc, nI_1, ba_nss (by omega)]; rfl) (nm_r (e' := nI (550 + 50 * k + p)) (by rw [ecd, hpc]) ⟨hin, nm_r (e' := 1) (by rw [ec]; exact c2) (br_f (by decide) (br_t rfl ⟨hin, ?_⟩))⟩)⟩)))
  have e1 : (6 : Int32) * nI d + yV Z (nI (550 + 50 * k + p)).toNatClampNeg = nI (6 * d + q) := by rw [ec, hv, show (6 : Int32) = nI 6 from rfl, pk_mul, nI_add]
  refine ⟨pk_in (6 * d + q) 60 (by omega) e1, ?_⟩
  show wkY post f (mY Z (nI (d + 1)) wa he 0 sc re gv (lo ((6 : Int32) * nI d + yV Z (nI (550 + 50 * k + p)).toNatClampNeg).toNatClampNeg) 1 me _ ba lo wt gt vl)
  rw [e1, nI_clamp (by omega)]; exact H
theorem yt2 {post : Int32 → SY → Prop} {f d k p q r : Nat} (hR : pR E Z n m tk ln D B pr) (hk : k < n) (hp : p < ln k) (hd : d < 10) (hpc : pc d = nI (550 + 50 * k + p)) (hc : pK Z k p = 2) (hv : yV Z (550 + 50 * k + p) = nI q) (hq : q < 12) (hr : r < 48) (hpl : yPL Z q = nI r) (H : wkY post f (mY Z (nI (d + 1)) wa he 0 sc re gv (me r) 1 me (upd pc d (nI (550 + 50 * k + (p + 1)))) ba lo wt gt vl)) : wkY post (f + 1) (mY Z (nI (d + 1)) wa he 0 sc re gv gf 0 me pc ba lo wt gt vl) := by
  have hn5 := hR.1
  obtain ⟨_, h50, _, hT, _⟩ := hR.2.2.2.2.2.1 k hk
  obtain ⟨_, c2, _, c4⟩ := hT p hp
  have ed : nI (d + 1) - 1 = nI d := nI_pred d
  have hin1 : vp_in (nI d) 10 := pk_in d 10 hd
  have hin : vp_in (nI (550 + 50 * k + p)) 800 := pk_in (550 + 50 * k + p) 800 (by omega)
  have ec : (nI (550 + 50 * k + p)).toNatClampNeg = 550 + 50 * k + p := nI_clamp (by omega)
  have ecd : (nI d).toNatClampNeg = d := nI_clamp (by omega)
  rw [hc] at c2
  refine br_f (nI_nle (Nat.succ_pos _) (by omega)) (br_t rfl (br_t rfl (nm_r ed ⟨hin1, hin1, nm_r (e' := upd pc d (nI (550 + 50 * k + (p + 1)))) (by rw [ecd, hpc, nI_1, ba_nss (by omega)]; rfl) (nm_r (e' := nI (550 + 50 * k + p)) (by rw [ecd, hpc]) ⟨hin, nm_r (e' := 2) (by rw [ec]; exact c2) (br_f (by decide) (br_f (by decide) (br_t rfl ⟨hin, ?_⟩)))⟩)⟩)))
  have e1 : yV Z (nI (550 + 50 * k + p)).toNatClampNeg = nI q := by rw [ec, hv]
  have e2 : yPL Z (yV Z (nI (550 + 50 * k + p)).toNatClampNeg).toNatClampNeg = nI r := by rw [e1, nI_clamp (by omega), hpl]
  refine ⟨pk_in q 12 hq e1, pk_in r 48 hr e2, ?_⟩
  show wkY post f (mY Z (nI (d + 1)) wa he 0 sc re gv (me (yPL Z (yV Z (nI (550 + 50 * k + p)).toNatClampNeg).toNatClampNeg).toNatClampNeg) 1 me _ ba lo wt gt vl)
  rw [e2, nI_clamp (by omega)]; exact H
theorem yt3 {post : Int32 → SY → Prop} {f d k p q : Nat} (hR : pR E Z n m tk ln D B pr) (hk : k < n) (hp : p < ln k) (hd : d < 10) (hpc : pc d = nI (550 + 50 * k + p)) (hc : pK Z k p = 3) (hv : yV Z (550 + 50 * k + p) = nI q) (hq : q < 12) (H : wkY post f (mY Z (nI (d + 1)) wa he 0 sc re gv (yPL Z q) 1 me (upd pc d (nI (550 + 50 * k + (p + 1)))) ba lo wt gt vl)) : wkY post (f + 1) (mY Z (nI (d + 1)) wa he 0 sc re gv gf 0 me pc ba lo wt gt vl) := by
  have hn5 := hR.1
  obtain ⟨_, h50, _, hT, _⟩ := hR.2.2.2.2.2.1 k hk
  obtain ⟨_, c2, _, c4⟩ := hT p hp
  have ed : nI (d + 1) - 1 = nI d := nI_pred d
  have hin1 : vp_in (nI d) 10 := pk_in d 10 hd
  have hin : vp_in (nI (550 + 50 * k + p)) 800 := pk_in (550 + 50 * k + p) 800 (by omega)
  have ec : (nI (550 + 50 * k + p)).toNatClampNeg = 550 + 50 * k + p := nI_clamp (by omega)
  have ecd : (nI d).toNatClampNeg = d := nI_clamp (by omega)
  rw [hc] at c2
  refine br_f (nI_nle (Nat.succ_pos _) (by omega)) (br_t rfl (br_t rfl (nm_r ed ⟨hin1, hin1, nm_r (e' := upd pc d (nI (550 + 50 * k + (p + 1)))) (by rw [ecd, hpc, nI_1, ba_nss (by omega)]; rfl) (nm_r (e' := nI (550 + 50 * k + p)) (by rw [ecd, hpc]) ⟨hin, nm_r (e' := 3) (by rw [ec]; exact c2) (br_f (by decide) (br_f (by decide) (br_f (by decide) (br_t rfl ⟨hin, ?_⟩))))⟩)⟩)))
  have e1 : yV Z (nI (550 + 50 * k + p)).toNatClampNeg = nI q := by rw [ec, hv]
  refine ⟨pk_in q 12 hq e1, ?_⟩
  show wkY post f (mY Z (nI (d + 1)) wa he 0 sc re gv (yPL Z (yV Z (nI (550 + 50 * k + p)).toNatClampNeg).toNatClampNeg) 1 me _ ba lo wt gt vl)
  rw [e1, nI_clamp (by omega)]; exact H
theorem yt23 {post : Int32 → SY → Prop} {f d k p e : Nat} (hR : pR E Z n m tk ln D B pr) (hk : k < n) (hp : p < ln k) (hd : d < 10) (hpc : pc d = nI (550 + 50 * k + p)) (hc : pK Z k p = 23) (hoe : p < e) (he' : e < ln k) (h27 : pK Z k e = 27) (hb1 : 1 ≤ B k e) (hbe : B k (p + 1) = B k e) (hq : ∀ q, p < q → q ≤ e → B k e ≤ B k q) (H : wkY post f (mY Z (nI (d + 1)) wa he 0 sc re gv gf 0 me (upd (upd pc d (nI (550 + 50 * k + (p + 1)))) d (nI (550 + 50 * k + e + 1))) ba lo wt gt vl)) : wkY post (f + 1) (mY Z (nI (d + 1)) wa he 0 sc re gv gf 0 me pc ba lo wt gt vl) := by
  have hn5 := hR.1
  obtain ⟨_, h50, _, hT, _⟩ := hR.2.2.2.2.2.1 k hk
  obtain ⟨_, c2, _, c4⟩ := hT p hp
  have ed : nI (d + 1) - 1 = nI d := nI_pred d
  have hin1 : vp_in (nI d) 10 := pk_in d 10 hd
  have hin : vp_in (nI (550 + 50 * k + p)) 800 := pk_in (550 + 50 * k + p) 800 (by omega)
  have ec : (nI (550 + 50 * k + p)).toNatClampNeg = 550 + 50 * k + p := nI_clamp (by omega)
  have ecd : (nI d).toNatClampNeg = d := nI_clamp (by omega)
  rw [hc] at c2
  refine br_f (nI_nle (Nat.succ_pos _) (by omega)) (br_t rfl (br_t rfl (nm_r ed ⟨hin1, hin1, nm_r (e' := upd pc d (nI (550 + 50 * k + (p + 1)))) (by rw [ecd, hpc, nI_1, ba_nss (by omega)]; rfl) (nm_r (e' := nI (550 + 50 * k + p)) (by rw [ecd, hpc]) ⟨hin, nm_r (e' := 23) (by rw [ec]; exact c2) (br_f (by decide) (br_f (by decide) (br_f (by decide) (br_f (by decide) (br_t rfl (y_jump hR hk hd hoe he' (Or.inl ⟨rfl, h27⟩) hb1 hbe hq H))))))⟩)⟩)))
theorem yt27 {post : Int32 → SY → Prop} {f d k p g : Nat} (hR : pR E Z n m tk ln D B pr) (hk : k < n) (hp : p < ln k) (hd : d < 10) (hpc : pc d = nI (550 + 50 * k + p)) (hc : pK Z k p = 27) (hfe : g < p) (hb1 : 1 ≤ B k p) (hkf : pK Z k g = 22 ∨ pK Z k g = 24 ∨ pK Z k g = 28) (hbf : B k g + 1 = B k p) (hq : ∀ q, g < q → q ≤ p → B k p ≤ B k q) (h22 : pK Z k g = 22 → wkY post f (mY Z (nI (d + 1)) wa he 0 sc re gv gf 0 me (upd pc d (nI (550 + 50 * k + (p + 1)))) ba lo wt gt vl)) (h24 : pK Z k g = 24 → wkY post f (mY Z (nI (d + 1)) wa he 0 sc re gv gf 0 me (upd (upd pc d (nI (550 + 50 * k + (p + 1)))) d (nI (550 + 50 * k + g))) ba lo wt gt vl)) (h28 : pK Z k g = 28 → wpY_leave (fun u => wkY post f u) (mY Z (nI (d + 1)) wa he 0 sc re gv gf 0 me (upd pc d (nI (550 + 50 * k + (p + 1)))) ba lo wt gt vl) 0) : wkY post (f + 1) (mY Z (nI (d + 1)) wa he 0 sc re gv gf 0 me pc ba lo wt gt vl) := by
  have hn5 := hR.1
  obtain ⟨_, h50, _, hT, _⟩ := hR.2.2.2.2.2.1 k hk
  obtain ⟨_, c2, _, c4⟩ := hT p hp
  have ed : nI (d + 1) - 1 = nI d := nI_pred d
  have hin1 : vp_in (nI d) 10 := pk_in d 10 hd
  have hin : vp_in (nI (550 + 50 * k + p)) 800 := pk_in (550 + 50 * k + p) 800 (by omega)
  have ec : (nI (550 + 50 * k + p)).toNatClampNeg = 550 + 50 * k + p := nI_clamp (by omega)
  have ecd : (nI d).toNatClampNeg = d := nI_clamp (by omega)
  rw [hc] at c2
  refine br_f (nI_nle (Nat.succ_pos _) (by omega)) (br_t rfl (br_t rfl (nm_r ed ⟨hin1, hin1, nm_r (e' := upd pc d (nI (550 + 50 * k + (p + 1)))) (by rw [ecd, hpc, nI_1, ba_nss (by omega)]; rfl) (nm_r (e' := nI (550 + 50 * k + p)) (by rw [ecd, hpc]) ⟨hin, nm_r (e' := 27) (by rw [ec]; exact c2) (br_f (by decide) (br_f (by decide) (br_f (by decide) (br_f (by decide) (br_f (by decide) (br_t rfl (y_end hR hk hd hfe hp hb1 hkf hbf hq h22 h24 h28)))))))⟩)⟩)))
theorem yt24 {post : Int32 → SY → Prop} {f d k p s w : Nat} (hR : pR E Z n m tk ln D B pr) (hk : k < n) (hp : p < ln k) (hd : d < 10) (hpc : pc d = nI (550 + 50 * k + p)) (hc : pK Z k p = 24) (hs : s ≤ 200) (hw : w < 600) (h8 : s = 200 → wkY post f (mY Z (nI (d + 1)) (nI w) he 8 (nI s) re gv gf 0 me (upd pc d (nI (550 + 50 * k + (p + 1)))) ba lo wt gt vl)) (H : s < 200 → wkY post f (mY Z (nI (d + 1)) (nI (w + 1)) he 0 (nI (s + 1)) re gv gf 0 me (upd pc d (nI (550 + 50 * k + (p + 1)))) ba lo (upd wt w (nI (550 + 50 * k + p))) (upd gt w (nI 0)) vl)) : wkY post (f + 1) (mY Z (nI (d + 1)) (nI w) he 0 (nI s) re gv gf 0 me pc ba lo wt gt vl) := by
  have hn5 := hR.1
  obtain ⟨_, h50, _, hT, _⟩ := hR.2.2.2.2.2.1 k hk
  obtain ⟨_, c2, _, c4⟩ := hT p hp
  have ed : nI (d + 1) - 1 = nI d := nI_pred d
  have hin1 : vp_in (nI d) 10 := pk_in d 10 hd
  have hin : vp_in (nI (550 + 50 * k + p)) 800 := pk_in (550 + 50 * k + p) 800 (by omega)
  have ec : (nI (550 + 50 * k + p)).toNatClampNeg = 550 + 50 * k + p := nI_clamp (by omega)
  have ecd : (nI d).toNatClampNeg = d := nI_clamp (by omega)
  rw [hc] at c2
  refine br_f (nI_nle (Nat.succ_pos _) (by omega)) (br_t rfl (br_t rfl (nm_r ed ⟨hin1, hin1, nm_r (e' := upd pc d (nI (550 + 50 * k + (p + 1)))) (by rw [ecd, hpc, nI_1, ba_nss (by omega)]; rfl) (nm_r (e' := nI (550 + 50 * k + p)) (by rw [ecd, hpc]) ⟨hin, nm_r (e' := 24) (by rw [ec]; exact c2) (br_f (by decide) (br_f (by decide) (br_f (by decide) (br_f (by decide) (br_f (by decide) (br_f (by decide) (br_t rfl (pk_eq s 200 (fun e => h8 e) (fun e => ?_)))))))))⟩)⟩)))
  have hinw : vp_in (nI w) 600 := pk_in w 600 hw
  have ecw : (nI w).toNatClampNeg = w := nI_clamp (by omega)
  have hO : pO Z k p = 1 := by unfold pO; rw [hc]; rfl
  refine ⟨hin, ?_⟩
  show (yK Z (nI (550 + 50 * k + p)).toNatClampNeg = 24 → _) ∧ (¬ yK Z (nI (550 + 50 * k + p)).toNatClampNeg = 24 → _)
  rw [ec, c2]
  refine br_t rfl (nm_r (nI_1 s) ⟨hinw, nm_r (e' := upd wt w (nI (550 + 50 * k + p))) (by rw [ecw, ba_nss (by omega)]) (nm_r (nI_1 w) ⟨hinw, nm_r (e' := upd gt w (nI 0)) (by rw [ecw]; exact congrArg (upd gt w) (ba_nb (n := 0) (by omega))) ?_⟩)⟩)
  refine y_ops hR hk hp ?_
  rw [hO]
  exact br_f (by decide) (H (by omega))
theorem ytd {post : Int32 → SY → Prop} {f d k p w c : Nat} (hR : pR E Z n m tk ln D B pr) (hk : k < n) (hp : p < ln k) (hd : d < 10) (hpc : pc d = nI (550 + 50 * k + p)) (hc : pK Z k p = c) (hcc : 4 ≤ c ∧ c ≠ 23 ∧ c ≠ 24 ∧ c ≠ 27) (hw : w < 600) (H : wcY (pO Z k p) post f (mY Z (nI (d + 1)) (nI (w + 1)) he 0 sc re gv gf 0 me (upd pc d (nI (550 + 50 * k + (p + 1)))) ba lo (upd wt w (nI (550 + 50 * k + p))) (upd gt w (nI 0)) vl)) : wkY post (f + 1) (mY Z (nI (d + 1)) (nI w) he 0 sc re gv gf 0 me pc ba lo wt gt vl) := by
  have hn5 := hR.1
  obtain ⟨_, h50, _, hT, _⟩ := hR.2.2.2.2.2.1 k hk
  obtain ⟨_, c2, _, c4⟩ := hT p hp
  have ed : nI (d + 1) - 1 = nI d := nI_pred d
  have hin1 : vp_in (nI d) 10 := pk_in d 10 hd
  have hin : vp_in (nI (550 + 50 * k + p)) 800 := pk_in (550 + 50 * k + p) 800 (by omega)
  have ec : (nI (550 + 50 * k + p)).toNatClampNeg = 550 + 50 * k + p := nI_clamp (by omega)
  have ecd : (nI d).toNatClampNeg = d := nI_clamp (by omega)
  rw [hc] at c2 c4
  have h9 := c4.1
  have ne : ∀ b : Nat, b < 30 → c ≠ b → ¬ nI c = nI b := fun b hb h => ba_ne (by omega) (by omega) h
  refine br_f (nI_nle (Nat.succ_pos _) (by omega)) (br_t rfl (br_t rfl (nm_r ed ⟨hin1, hin1, nm_r (e' := upd pc d (nI (550 + 50 * k + (p + 1)))) (by rw [ecd, hpc, nI_1, ba_nss (by omega)]; rfl) (nm_r (e' := nI (550 + 50 * k + p)) (by rw [ecd, hpc]) ⟨hin, nm_r (e' := nI c) (by rw [ec]; exact c2) (br_f (ne 0 (by omega) (by omega)) (br_f (ne 1 (by omega) (by omega)) (br_f (ne 2 (by omega) (by omega)) (br_f (ne 3 (by omega) (by omega)) (br_f (ne 23 (by omega) (by omega)) (br_f (ne 27 (by omega) (by omega)) (br_f (ne 24 (by omega) (by omega)) ⟨hin, ?_⟩)))))))⟩)⟩)))
  have hinw : vp_in (nI w) 600 := pk_in w 600 hw
  have ecw : (nI w).toNatClampNeg = w := nI_clamp (by omega)
  show (yK Z (nI (550 + 50 * k + p)).toNatClampNeg = 24 → _) ∧ (¬ yK Z (nI (550 + 50 * k + p)).toNatClampNeg = 24 → _)
  rw [ec, c2]
  refine br_f (ne 24 (by omega) (by omega)) ⟨hinw, nm_r (e' := upd wt w (nI (550 + 50 * k + p))) (by rw [ecw, ba_nss (by omega)]) (nm_r (nI_1 w) ⟨hinw, nm_r (e' := upd gt w (nI 0)) (by rw [ecw]; exact congrArg (upd gt w) (ba_nb (n := 0) (by omega))) ?_⟩)⟩
  refine y_ops hR hk hp ?_
  have hO3 := pO3 hR hk hp
  refine pk_eq (pO Z k p) 0 (fun e => ?_) (fun e => ?_)
  · rw [e] at H; exact H
  · obtain ⟨q, hq⟩ : ∃ q, pO Z k p = q + 1 := ⟨pO Z k p - 1, by omega⟩
    rw [hq] at H; exact H
end
