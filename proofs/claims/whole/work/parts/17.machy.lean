/-! the reference's machine, small steps; the program both run -/
def pK (Z : SY) (k i : Nat) : Nat := kn (yK Z) (550 + 50 * k + i)
def pV (Z : SY) (k i : Nat) : Nat := kn (yV Z) (550 + 50 * k + i)
def pO (Z : SY) (k i : Nat) : Nat := tk_n (pK Z k i) (pV Z k i)
def pT (E : SX) (Z : SY) (tk : Nat → Nat) (k i : Nat) : Prop := xCK E (50 * tk k + i) = nI (pK Z k i) ∧ yK Z (550 + 50 * k + i) = nI (pK Z k i) ∧ xCV E (50 * tk k + i) = yV Z (550 + 50 * k + i) ∧ tk_P (pK Z k i) (yV Z (550 + 50 * k + i))
def pR (E : SX) (Z : SY) (n m : Nat) (tk ln : Nat → Nat) (D B pr : Nat → Nat → Nat) : Prop :=
  n ≤ 5 ∧ m ≤ 48 ∧ yUN Z = nI n ∧ yUS Z = nI m ∧ xMS E = nI m ∧
  (∀ k, k < n → tk k < 5 ∧ ln k ≤ 50 ∧ yS Z (11 + k) = nI (ln k) ∧ (∀ i, i < ln k → pT E Z tk k i) ∧ wf_S (pK Z k) (pO Z k) (ln k) (D k) (B k) ∧ wf_J (pK Z k) (ln k) (fun i => xCP E (50 * tk k + i)) (50 * tk k) (B k) (pr k)) ∧
  (∀ nm, nm < 12 → xPO E nm = yPL Z nm) ∧ (∀ nm, nm < 12 → xFO E nm = lk_q (pK Z) (pV Z) ln tk n (50 * n) nm) ∧
  (∀ k, k < n → ∀ i, i < ln k → (pK Z k i = 2 → ∃ p, p < m ∧ yPL Z (pV Z k i) = nI p) ∧ (pK Z k i = 5 → ∃ d, lk_b (pK Z) (pV Z) ln (pV Z k i % 16) n = some d ∧ pK Z (d / 50) (d % 50) = 28 ∧ pV Z (d / 50) (d % 50) / 16 % 4 = pV Z k i / 16))
theorem pR_rows {E : SX} {Z : SY} {n m : Nat} {tk ln : Nat → Nat} {D B pr : Nat → Nat → Nat} (h : pR E Z n m tk ln D B pr) : ∀ k, k < n → yr_R (yK Z) (yV Z) (yS Z) (11 + k) (pK Z k) (pV Z k) (ln k) := by
  intro k hk
  obtain ⟨_, _, _, _, _, h6, _⟩ := h
  obtain ⟨_, a, b, c, _⟩ := h6 k hk
  refine ⟨a, b, fun i hi => ?_⟩
  obtain ⟨_, c2, _, c4⟩ := c i hi
  rw [show 50 * (11 + k) + i = 550 + 50 * k + i by omega]
  exact ⟨c2, c4, rfl⟩
def wbY (post : SY → Prop) (x1 x2 : Int32) (n : Nat) (x3 : Int32) (y : SY) : Prop := match y with
  | (g_place, g_culprit, g_listed, g_units, g_taken, g_used, g_depth, g_waiting, g_held, g_fault, g_steps, g_result, g_given, g_gift, g_has, b_kind, b_value, b_size, b_list, b_library, b_places, b_memory, b_wanted, b_pc, b_base, b_locals, b_waits, b_got, b_values) => wY_begin_55 post x1 x2 g_place g_culprit g_listed g_units g_taken g_used g_depth g_waiting g_held g_fault g_steps g_result g_given g_gift g_has n x3 b_kind b_value b_size b_list b_library b_places b_memory b_wanted b_pc b_base b_locals b_waits b_got b_values
/-- the reference's place: at the loop, or in front of a completion -/
def wcY (due : Nat) (post : Int32 → SY → Prop) (n : Nat) (y : SY) : Prop := match due with
  | 0 => wpY_complete (fun u => wkY post n u) y
  | _ + 1 => wkY post n y
section
variable {E : SX} {Z : SY} {n m : Nat} {tk ln : Nat → Nat} {D B pr : Nat → Nat → Nat}
variable {de wa he fa sc re gv gf ha : Int32} {me pc ba lo wt gt vl : Nat → Int32}
theorem y_begin {post : SY → Prop} {h a d s nm c w : Nat} (hR : pR E Z n m tk ln D B pr) (hs : s ≤ 200) (hd : d ≤ 10) (hnm : nm < 12) (ha' : a ≤ 3) (hh : h + a ≤ 500) (hw : w < 600) (hc : lk_b (pK Z) (pV Z) ln nm n = some c)
    (h8 : s = 200 → post (mY Z (nI d) (nI w) (nI h) 8 (nI s) re gv gf ha me pc ba lo wt gt vl)) (h9 : s < 200 → d = 10 → post (mY Z (nI d) (nI w) (nI h) 9 (nI (s + 1)) re gv gf ha me pc ba lo wt gt vl))
    (hp : s < 200 → d < 10 → post (mY Z (nI (d + 1)) (nI w) (nI h) fa (nI (s + 1)) re gv gf ha me (upd pc d (nI (550 + c + 1))) (upd ba d (nI w)) (mlo lo vl d h a) wt gt vl)) : wpY_begin post (mY Z (nI d) (nI w) (nI (h + a)) fa (nI s) re gv gf ha me pc ba lo wt gt vl) (nI nm) (nI a) := by
  have hcin := lk_b_in (fun k hk => (pR_rows hR k hk).1) hc
  have hn5 := hR.1
  have h50 := (pR_rows hR _ hcin.1).1
  have hun := hR.2.2.1
  refine nm_r (e' := nI h) (by rw [pk_sub (by omega)]; exact congrArg nI (by omega)) (pk_eq s 200 (fun e => h8 e) (fun e => nm_r (nI_1 s) (pk_eq d 10 (fun e2 => h9 (by omega) e2) (fun e2 => ⟨7, ?_⟩))))
  have hs' : s < 200 := by omega
  have hd' : d < 10 := by omega
  have key : ∀ q k l, k + q = 6 → (∀ j, 6 * d ≤ j → j < 6 * d + k → l j = mlo lo vl d h a j) → (∀ j, ¬ (6 * d ≤ j ∧ j < 6 * d + k) → l j = lo j) → wbY post (nI nm) (nI a) (q + 1) (nI k) (mY Z (nI d) (nI w) (nI h) fa (nI (s + 1)) re gv gf ha me pc ba l wt gt vl) := by
    intro q
    induction q with
    | zero =>
      intro k l hk h1 h2
      have el : l = mlo lo vl d h a := by
        funext j
        by_cases z : 6 * d ≤ j ∧ j < 6 * d + k
        · exact h1 j z.1 z.2
        · rw [h2 j z]
          exact (if_neg (by omega)).symm
      subst el
      have e6 : k = 6 := by omega
      subst e6
      refine br_t (by decide) ?_
      have hdef : ∀ P : Int32 → Prop, P (nI (550 + c)) → wpY_definition P (mY Z (nI d) (nI w) (nI h) fa (nI (s + 1)) re gv gf ha me pc ba (mlo lo vl d h a) wt gt vl) 11 (yUN Z) (nI nm) := by
        intro P hP
        rw [hun]
        refine yl_def (K := pK Z) (V := pV Z) (L := ln) (f := 11) (by omega) (by omega) (pR_rows hR) ?_
        rw [hc]; exact hP
      refine hdef _ ?_
      have hin : vp_in (nI d) 10 := pk_in d 10 hd'
      have ecd : (nI d).toNatClampNeg = d := nI_clamp (by omega)
      exact ⟨hin, nm_r (e' := upd pc d (nI (550 + c + 1))) (by rw [ecd, nI_1, ba_nss (by omega)]) (nm_r (nI_1 d) ⟨hin, nm_r (e' := upd ba d (nI w)) (by rw [ecd, ba_nss (by omega)]) (hp hs' hd')⟩)⟩
    | succ q ih =>
      intro k l hk h1 h2
      have e0 : (6 : Int32) * nI d + nI k = nI (6 * d + k) := by rw [show (6 : Int32) = nI 6 from rfl, pk_mul, nI_add]
      have hinm : vp_in ((6 : Int32) * nI d + nI k) 60 := pk_in (6 * d + k) 60 (by omega) e0
      have ecm : ((6 : Int32) * nI d + nI k).toNatClampNeg = 6 * d + k := by rw [e0, nI_clamp (by omega)]
      have step : ∀ v, v = mlo lo vl d h a (6 * d + k) → wbY post (nI nm) (nI a) (q + 1) (nI (k + 1)) (mY Z (nI d) (nI w) (nI h) fa (nI (s + 1)) re gv gf ha me pc ba (upd l (6 * d + k) v) wt gt vl) := by
        intro v hv
        refine ih (k + 1) _ (by omega) (fun j a1 a2 => ?_) (fun j a1 => ?_)
        · by_cases z : j = 6 * d + k
          · rw [z, pk_us, hv]
          · rw [pk_un z]; exact h1 j a1 (by omega)
        · rw [pk_un (by omega)]; exact h2 j (by omega)
      have em : mlo lo vl d h a (6 * d + k) = if k < a then vl (h + k) else 0 := by
        unfold mlo
        rw [if_pos (by omega), Nat.add_sub_cancel_left]
      refine br_f (nI_ge (b := 6) (by omega) (by omega)) (pk_le a k (fun hak => ?_) (fun hak => ?_))
      · exact ⟨hinm, nm_r (e' := upd l (6 * d + k) 0) (by rw [ecm]) (nm_r (nI_1 k) (step 0 (by rw [em, if_neg (by omega)])))⟩
      · have e3 : nI h + nI k = nI (h + k) := nI_add _ _
        exact ⟨pk_in (h + k) 1200 (by omega) e3, hinm, nm_r (e' := upd l (6 * d + k) (vl (h + k))) (by rw [ecm, e3, nI_clamp (by omega)]) (nm_r (nI_1 k) (step _ (by rw [em, if_pos hak])))⟩
  exact key 6 0 lo (by omega) (fun j a1 a2 => by omega) (fun j _ => rfl)
theorem y_leave {post : SY → Prop} {d : Nat} {v : Int32} (hd : d < 10) (h0 : d = 0 → post (mY Z (nI d) (ba d) he fa sc re v gf ha me pc ba lo wt gt vl)) (h1 : d ≠ 0 → post (mY Z (nI d) (ba d) he fa sc re gv v 1 me pc ba lo wt gt vl)) : wpY_leave post (mY Z (nI (d + 1)) wa he fa sc re gv gf ha me pc ba lo wt gt vl) v := by
  refine nm_r (nI_pred d) ⟨pk_in d 10 hd, nm_r (e' := ba d) (by rw [nI_clamp (by omega)]) (pk_eq d 0 h0 h1)⟩
theorem y_ops {post : Int32 → Prop} {k t : Nat} (hR : pR E Z n m tk ln D B pr) (hk : k < n) (ht : t < ln k) (hp : post (nI (pO Z k t))) : wpY_operands post (mY Z de wa he fa sc re gv gf ha me pc ba lo wt gt vl) (nI (550 + 50 * k + t)) := by
  have hn5 := hR.1
  obtain ⟨_, _, _, _, _, h6, _⟩ := hR
  obtain ⟨_, h50, _, hT, _⟩ := h6 k hk
  obtain ⟨_, c2, _, c4⟩ := hT t ht
  exact yo_ops (by omega) c2 c4 hp
/-- what was given is delivered -/
theorem y_deliver {post : Int32 → SY → Prop} {f w h due k t : Nat} {v : Int32} (hR : pR E Z n m tk ln D B pr) (hk : k < n) (ht : t < ln k) (hh : h < 1200) (hw : w < 600) (hd : 1 ≤ de.toNatClampNeg) (hde : de = nI de.toNatClampNeg) (hde2 : de.toNatClampNeg < 100) (hwt : wt w = nI (550 + 50 * k + t)) (hgt : gt w = nI (pO Z k t - (due + 1))) (hdu : due + 1 ≤ pO Z k t) (hO : pO Z k t ≤ 3)
    (hp : wcY due post f (mY Z de (nI (w + 1)) (nI (h + 1)) 0 sc re gv v 0 me pc ba lo wt (upd gt w (nI (pO Z k t - due))) (upd vl h v))) : wkY post (f + 1) (mY Z de (nI (w + 1)) (nI h) 0 sc re gv v 1 me pc ba lo wt gt vl) := by
  have e1 : nI (w + 1) - 1 = nI w := nI_pred w
  have ec : (nI (w + 1) - 1).toNatClampNeg = w := by rw [e1, nI_clamp (by omega)]
  have hin : vp_in (nI (w + 1) - 1) 600 := pk_in w 600 hw e1
  have hn0 : ¬ de ≤ 0 := by rw [hde]; exact nI_nle hd (by omega)
  refine br_f hn0 (br_t rfl (br_f (by decide) ?_))
  refine nm_r (nI_1 h) ⟨pk_in h 1200 hh, nm_r (e' := upd vl h v) (by rw [nI_clamp (by omega)]) ⟨hin, hin, nm_r (e' := upd gt w (nI (pO Z k t - due))) (by rw [ec, hgt, nI_1, show pO Z k t - (due + 1) + 1 = pO Z k t - due by omega, ba_nbb (by omega)]) ⟨hin, hin, ?_⟩⟩⟩
  rw [ec, hwt]
  refine y_ops hR hk ht ?_
  rw [pk_us]
  refine pk_eq (pO Z k t - due) (pO Z k t) (fun e => ?_) (fun e => ?_)
  · have e0 : due = 0 := by omega
    subst e0
    exact hp
  · obtain ⟨q, rfl⟩ : ∃ q, due = q + 1 := ⟨due - 1, by omega⟩
    exact hp
end
