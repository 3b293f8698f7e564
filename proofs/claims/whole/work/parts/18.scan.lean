/-! the reference's jumps -/
section
variable {E : SX} {Z : SY} {n m : Nat} {tk ln : Nat → Nat} {D B pr : Nat → Nat → Nat}
variable {de wa he fa sc re gv gf ha : Int32} {me pc ba lo wt gt vl : Nat → Int32}
def weY (post : Int32 → Prop) (n : Nat) (x2 x3 : Int32) (y : SY) : Prop := match y with
  | (g_place, g_culprit, g_listed, g_units, g_taken, g_used, g_depth, g_waiting, g_held, g_fault, g_steps, g_result, g_given, g_gift, g_has, b_kind, b_value, b_size, b_list, b_library, b_places, b_memory, b_wanted, b_pc, b_base, b_locals, b_waits, b_got, b_values) => wY_endOf_4 post g_place g_culprit g_listed g_units g_taken g_used g_depth g_waiting g_held g_fault g_steps g_result g_given g_gift g_has b_kind b_value b_size b_list b_library b_places b_memory b_wanted b_pc b_base b_locals b_waits b_got b_values n x2 x3
def woY (post : Int32 → Prop) (n : Nat) (x2 x3 : Int32) (y : SY) : Prop := match y with
  | (g_place, g_culprit, g_listed, g_units, g_taken, g_used, g_depth, g_waiting, g_held, g_fault, g_steps, g_result, g_given, g_gift, g_has, b_kind, b_value, b_size, b_list, b_library, b_places, b_memory, b_wanted, b_pc, b_base, b_locals, b_waits, b_got, b_values) => wY_otherwise_4 post g_place g_culprit g_listed g_units g_taken g_used g_depth g_waiting g_held g_fault g_steps g_result g_given g_gift g_has b_kind b_value b_size b_list b_library b_places b_memory b_wanted b_pc b_base b_locals b_waits b_got b_values n x2 x3
def wfY (post : SY → Prop) (n : Nat) (x2 x3 : Int32) (y : SY) : Prop := match y with
  | (g_place, g_culprit, g_listed, g_units, g_taken, g_used, g_depth, g_waiting, g_held, g_fault, g_steps, g_result, g_given, g_gift, g_has, b_kind, b_value, b_size, b_list, b_library, b_places, b_memory, b_wanted, b_pc, b_base, b_locals, b_waits, b_got, b_values) => wY_end_4 post g_place g_culprit g_listed g_units g_taken g_used g_depth g_waiting g_held g_fault g_steps g_result g_given g_gift g_has b_kind b_value b_size b_list b_library b_places b_memory b_wanted b_pc b_base b_locals b_waits b_got b_values n x2 x3
def w36Y (post : Int32 → Prop) (n : Nat) (x2 x3 : Int32) (y : SY) : Prop := match y with
  | (g_place, g_culprit, g_listed, g_units, g_taken, g_used, g_depth, g_waiting, g_held, g_fault, g_steps, g_result, g_given, g_gift, g_has, b_kind, b_value, b_size, b_list, b_library, b_places, b_memory, b_wanted, b_pc, b_base, b_locals, b_waits, b_got, b_values) => wY_endOf_36 post (wY_endOf_4 post g_place g_culprit g_listed g_units g_taken g_used g_depth g_waiting g_held g_fault g_steps g_result g_given g_gift g_has b_kind b_value b_size b_list b_library b_places b_memory b_wanted b_pc b_base b_locals b_waits b_got b_values n) x2 x3 g_place g_culprit g_listed g_units g_taken g_used g_depth g_waiting g_held g_fault g_steps g_result g_given g_gift g_has b_kind b_value b_size b_list b_library b_places b_memory b_wanted b_pc b_base b_locals b_waits b_got b_values
def w54Y (post : Int32 → Prop) (n : Nat) (x2 x3 : Int32) (y : SY) : Prop := match y with
  | (g_place, g_culprit, g_listed, g_units, g_taken, g_used, g_depth, g_waiting, g_held, g_fault, g_steps, g_result, g_given, g_gift, g_has, b_kind, b_value, b_size, b_list, b_library, b_places, b_memory, b_wanted, b_pc, b_base, b_locals, b_waits, b_got, b_values) => wY_otherwise_54 post (wY_otherwise_4 post g_place g_culprit g_listed g_units g_taken g_used g_depth g_waiting g_held g_fault g_steps g_result g_given g_gift g_has b_kind b_value b_size b_list b_library b_places b_memory b_wanted b_pc b_base b_locals b_waits b_got b_values n) x2 x3 g_place g_culprit g_listed g_units g_taken g_used g_depth g_waiting g_held g_fault g_steps g_result g_given g_gift g_has b_kind b_value b_size b_list b_library b_places b_memory b_wanted b_pc b_base b_locals b_waits b_got b_values
def w29Y (post : Int32 → Prop) (n : Nat) (x2 x3 : Int32) (y : SY) : Prop := match y with
  | (g_place, g_culprit, g_listed, g_units, g_taken, g_used, g_depth, g_waiting, g_held, g_fault, g_steps, g_result, g_given, g_gift, g_has, b_kind, b_value, b_size, b_list, b_library, b_places, b_memory, b_wanted, b_pc, b_base, b_locals, b_waits, b_got, b_values) => wY_otherwise_29 post (wY_otherwise_4 post g_place g_culprit g_listed g_units g_taken g_used g_depth g_waiting g_held g_fault g_steps g_result g_given g_gift g_has b_kind b_value b_size b_list b_library b_places b_memory b_wanted b_pc b_base b_locals b_waits b_got b_values n) x2 x3 g_place g_culprit g_listed g_units g_taken g_used g_depth g_waiting g_held g_fault g_steps g_result g_given g_gift g_has b_kind b_value b_size b_list b_library b_places b_memory b_wanted b_pc b_base b_locals b_waits b_got b_values
def w25Y (post : SY → Prop) (n : Nat) (x2 x3 : Int32) (y : SY) : Prop := match y with
  | (g_place, g_culprit, g_listed, g_units, g_taken, g_used, g_depth, g_waiting, g_held, g_fault, g_steps, g_result, g_given, g_gift, g_has, b_kind, b_value, b_size, b_list, b_library, b_places, b_memory, b_wanted, b_pc, b_base, b_locals, b_waits, b_got, b_values) => wY_end_25 post (wY_end_4 post g_place g_culprit g_listed g_units g_taken g_used g_depth g_waiting g_held g_fault g_steps g_result g_given g_gift g_has b_kind b_value b_size b_list b_library b_places b_memory b_wanted b_pc b_base b_locals b_waits b_got b_values n) x2 x3 g_place g_culprit g_listed g_units g_taken g_used g_depth g_waiting g_held g_fault g_steps g_result g_given g_gift g_has b_kind b_value b_size b_list b_library b_places b_memory b_wanted b_pc b_base b_locals b_waits b_got b_values
theorem B_le {K N : Nat → Nat} {c : Nat} {D B : Nat → Nat} (hS : wf_S K N c D B) {q : Nat} (hq : q < c) (hb : 1 ≤ B q) : (K q = 22 ∨ K q = 24) ∧ B (q + 1) = B q + 1 ∨ K q = 27 ∧ B (q + 1) + 1 = B q ∨ (K q ≠ 22 ∧ K q ≠ 24 ∧ K q ≠ 27) ∧ B (q + 1) = B q := by
  obtain ⟨_, _, _, h⟩ := hS
  obtain ⟨_, _, _, h1, h2, h3⟩ := h q hq hb
  by_cases a : K q = 22 ∨ K q = 24
  · exact Or.inl ⟨a, h1 a⟩
  · by_cases b : K q = 27
    · exact Or.inr (Or.inl ⟨b, h2 b⟩)
    · exact Or.inr (Or.inr ⟨⟨by omega, by omega, b⟩, h3 (by omega) (by omega) b⟩)
theorem y_endOf {post : Int32 → Prop} {k o e : Nat} (hR : pR E Z n m tk ln D B pr) (hk : k < n) (hoe : o < e) (he' : e < ln k) (h27 : pK Z k e = 27) (hb1 : 1 ≤ B k e) (hbe : B k (o + 1) = B k e) (hq : ∀ q, o < q → q ≤ e → B k e ≤ B k q) (hp : post (nI (550 + 50 * k + e))) : wpY_endOf post (mY Z de wa he fa sc re gv gf ha me pc ba lo wt gt vl) (nI (550 + 50 * k + o)) := by
  have hn5 := hR.1
  obtain ⟨_, _, _, _, _, h6, _⟩ := hR
  obtain ⟨_, h50, _, hT, hS, _⟩ := h6 k hk
  have hBe : B k (e + 1) + 1 = B k e := (hS.2.2.2 e he' hb1).2.2.2.2.1 h27
  have hlim : ∀ q, q ≤ ln k → o < q → q ≤ e + 1 → B k q ≤ B k (o + 1) + (q - (o + 1)) := by
    intro q
    induction q with
    | zero => intro _ a _; omega
    | succ q ih =>
      intro h1 h2 h3
      by_cases z : q = o
      · subst z; omega
      · have := ih (by omega) (by omega) (by omega)
        have hb := hq q (by omega) (by omega)
        rcases B_le hS (q := q) (by omega) (by omega) with h | h | h <;> omega
  have key : ∀ f a, a + f = e → o ≤ a → weY post (f + 1) (nI (B k (a + 1) + 1 - B k e)) (nI (550 + 50 * k + a)) (mY Z de wa he fa sc re gv gf ha me pc ba lo wt gt vl) := by
    intro f
    induction f with
    | zero =>
      intro a hae hoa
      have : a = e := by omega
      subst this
      rw [show B k (a + 1) + 1 - B k a = 0 by omega]
      exact br_t (by decide) hp
    | succ f ih =>
      intro a hae hoa
      have hb := hq (a + 1) (by omega) (by omega)
      have hlm := hlim (a + 1) (by omega) (by omega) (by omega)
      obtain ⟨_, c2, _, c4⟩ := hT (a + 1) (by omega)
      have h9 := c4.1
      have hin : vp_in (nI (550 + 50 * k + (a + 1))) 800 := pk_in (550 + 50 * k + (a + 1)) 800 (by omega)
      have ec : (nI (550 + 50 * k + (a + 1))).toNatClampNeg = 550 + 50 * k + (a + 1) := nI_clamp (by omega)
      have hop : ¬ nI (B k (a + 1) + 1 - B k e) ≤ 0 := nI_nle (by omega) (by omega)
      have hnext : ∀ x : Int32, x = nI (B k (a + 1 + 1) + 1 - B k e) → weY post (f + 1) x (nI (550 + 50 * k + (a + 1))) (mY Z de wa he fa sc re gv gf ha me pc ba lo wt gt vl) := by
        intro x hx
        rw [hx]; exact ih (a + 1) (by omega) (by omega)
      have h36 : ∀ x : Int32, (pK Z k (a + 1) = 27 → x + (-1) = nI (B k (a + 1 + 1) + 1 - B k e)) → (pK Z k (a + 1) ≠ 27 → x = nI (B k (a + 1 + 1) + 1 - B k e)) → w36Y post (f + 1) x (nI (550 + 50 * k + (a + 1))) (mY Z de wa he fa sc re gv gf ha me pc ba lo wt gt vl) := by
        intro x x1 x2
        refine ⟨hin, ?_⟩
        show (yK Z (nI (550 + 50 * k + (a + 1))).toNatClampNeg = 27 → _) ∧ (¬ yK Z (nI (550 + 50 * k + (a + 1))).toNatClampNeg = 27 → _)
        rw [ec, c2]
        exact pk_eq (pK Z k (a + 1)) 27 (fun z => nm_e (hnext _ (x1 z))) (fun z => hnext _ (x2 z))
      refine br_f hop (nm_r (e' := nI (550 + 50 * k + (a + 1))) (nI_1 _) ⟨hin, ?_⟩)
      show (yK Z (nI (550 + 50 * k + (a + 1))).toNatClampNeg = 22 → _) ∧ (¬ yK Z (nI (550 + 50 * k + (a + 1))).toNatClampNeg = 22 → _ ∧ (yK Z (nI (550 + 50 * k + (a + 1))).toNatClampNeg = 24 → _) ∧ (¬ yK Z (nI (550 + 50 * k + (a + 1))).toNatClampNeg = 24 → _))
      rw [ec, c2]
      have hB := B_le hS (q := a + 1) (by omega) (by omega)
      refine pk_eq (pK Z k (a + 1)) 22 (fun z => nm_e (h36 _ (fun y => by omega) (fun y => ?_))) (fun z => ⟨hin, pk_eq (pK Z k (a + 1)) 24 (fun z2 => nm_e (h36 _ (fun y => by omega) (fun y => ?_))) (fun z2 => h36 _ (fun y => ?_) (fun y => ?_))⟩)
      · rw [nI_1]; exact congrArg nI (by omega)
      · rw [nI_1]; exact congrArg nI (by omega)
      · have e3 : B k (a + 1) + 1 - B k e = (B k (a + 1 + 1) + 1 - B k e) + 1 := by omega
        rw [e3, pk_m1]
      · exact congrArg nI (by omega)
  exact ⟨e - o + 1, by have := key (e - o) o (by omega) (Nat.le_refl _); rw [hbe, show B k e + 1 - B k e = 1 by omega] at this; exact this⟩
theorem y_other {post : Int32 → Prop} {k o e : Nat} (hR : pR E Z n m tk ln D B pr) (hk : k < n) (hoe : o < e) (he' : e < ln k) (h27 : pK Z k e = 27 ∨ pK Z k e = 23) (hb1 : 1 ≤ B k e) (hbe : B k (o + 1) = B k e) (hq : ∀ q, o < q → q ≤ e → B k e ≤ B k q) (hne : ∀ q, o < q → q < e → pK Z k q = 23 → B k q ≠ B k e) (hp : post (nI (550 + 50 * k + e))) : wpY_otherwise post (mY Z de wa he fa sc re gv gf ha me pc ba lo wt gt vl) (nI (550 + 50 * k + o)) := by
  have hn5 := hR.1
  obtain ⟨_, _, _, _, _, h6, _⟩ := hR
  obtain ⟨_, h50, _, hT, hS, _⟩ := h6 k hk
  have hlim : ∀ q, q ≤ ln k → o < q → q ≤ e + 1 → B k q ≤ B k (o + 1) + (q - (o + 1)) := by
    intro q
    induction q with
    | zero => intro _ a _; omega
    | succ q ih =>
      intro h1 h2 h3
      by_cases z : q = o
      · subst z; omega
      · have := ih (by omega) (by omega) (by omega)
        have hb := hq q (by omega) (by omega)
        rcases B_le hS (q := q) (by omega) (by omega) with h | h | h <;> omega
  have key : ∀ f a, a + f = e → o ≤ a → (a = e → pK Z k e = 27) → woY post (f + 1) (nI (B k (a + 1) + 1 - B k e)) (nI (550 + 50 * k + a)) (mY Z de wa he fa sc re gv gf ha me pc ba lo wt gt vl) := by
    intro f
    induction f with
    | zero =>
      intro a hae hoa h7
      have : a = e := by omega
      subst this
      have hBe : B k (a + 1) + 1 = B k a := (hS.2.2.2 a he' hb1).2.2.2.2.1 (h7 rfl)
      rw [show B k (a + 1) + 1 - B k a = 0 by omega]
      exact br_t (by decide) hp
    | succ f ih =>
      intro a hae hoa h7
      have hb := hq (a + 1) (by omega) (by omega)
      have hlm := hlim (a + 1) (by omega) (by omega) (by omega)
      obtain ⟨_, c2, _, c4⟩ := hT (a + 1) (by omega)
      have h9 := c4.1
      have hin : vp_in (nI (550 + 50 * k + (a + 1))) 800 := pk_in (550 + 50 * k + (a + 1)) 800 (by omega)
      have ec : (nI (550 + 50 * k + (a + 1))).toNatClampNeg = 550 + 50 * k + (a + 1) := nI_clamp (by omega)
      have hop : ¬ nI (B k (a + 1) + 1 - B k e) ≤ 0 := nI_nle (by omega) (by omega)
      have hB := B_le hS (q := a + 1) (by omega) (by omega)
      refine br_f hop (nm_r (e' := nI (550 + 50 * k + (a + 1))) (nI_1 _) ⟨hin, ?_⟩)
      have h29 : (a + 1 = e → pK Z k e = 27) → w29Y post (f + 1) (nI (B k (a + 1) + 1 - B k e)) (nI (550 + 50 * k + (a + 1))) (mY Z de wa he fa sc re gv gf ha me pc ba lo wt gt vl) := by
        intro h8
        have hnext : ∀ x : Int32, x = nI (B k (a + 1 + 1) + 1 - B k e) → woY post (f + 1) x (nI (550 + 50 * k + (a + 1))) (mY Z de wa he fa sc re gv gf ha me pc ba lo wt gt vl) := by
          intro x hx
          rw [hx]; exact ih (a + 1) (by omega) (by omega) h8
        have h54 : ∀ x : Int32, (pK Z k (a + 1) = 27 → x + (-1) = nI (B k (a + 1 + 1) + 1 - B k e)) → (pK Z k (a + 1) ≠ 27 → x = nI (B k (a + 1 + 1) + 1 - B k e)) → w54Y post (f + 1) x (nI (550 + 50 * k + (a + 1))) (mY Z de wa he fa sc re gv gf ha me pc ba lo wt gt vl) := by
          intro x x1 x2
          refine ⟨hin, ?_⟩
          show (yK Z (nI (550 + 50 * k + (a + 1))).toNatClampNeg = 27 → _) ∧ (¬ yK Z (nI (550 + 50 * k + (a + 1))).toNatClampNeg = 27 → _)
          rw [ec, c2]
          exact pk_eq (pK Z k (a + 1)) 27 (fun z => nm_e (hnext _ (x1 z))) (fun z => hnext _ (x2 z))
        refine ⟨hin, ?_⟩
        show (yK Z (nI (550 + 50 * k + (a + 1))).toNatClampNeg = 22 → _) ∧ (¬ yK Z (nI (550 + 50 * k + (a + 1))).toNatClampNeg = 22 → _ ∧ (yK Z (nI (550 + 50 * k + (a + 1))).toNatClampNeg = 24 → _) ∧ (¬ yK Z (nI (550 + 50 * k + (a + 1))).toNatClampNeg = 24 → _))
        rw [ec, c2]
        refine pk_eq (pK Z k (a + 1)) 22 (fun z => nm_e (h54 _ (fun y => by omega) (fun y => ?_))) (fun z => ⟨hin, pk_eq (pK Z k (a + 1)) 24 (fun z2 => nm_e (h54 _ (fun y => by omega) (fun y => ?_))) (fun z2 => h54 _ (fun y => ?_) (fun y => ?_))⟩)
        · rw [nI_1]; exact congrArg nI (by omega)
        · rw [nI_1]; exact congrArg nI (by omega)
        · have e3 : B k (a + 1) + 1 - B k e = (B k (a + 1 + 1) + 1 - B k e) + 1 := by omega
          rw [e3, pk_m1]
        · exact congrArg nI (by omega)
      show (yK Z (nI (550 + 50 * k + (a + 1))).toNatClampNeg = 23 → _) ∧ (¬ yK Z (nI (550 + 50 * k + (a + 1))).toNatClampNeg = 23 → _)
      rw [ec, c2]
      refine pk_eq (pK Z k (a + 1)) 23 (fun z => pk_eq (B k (a + 1) + 1 - B k e) 1 (fun z1 => ?_) (fun z1 => h29 (fun z2 => ?_))) (fun z => h29 (fun z2 => ?_))
      · have : a + 1 = e := Classical.byContradiction (fun q => hne (a + 1) (by omega) (by omega) z (by omega))
        rw [this]; exact hp
      · rw [z2] at z1; omega
      · rw [z2] at z; exact h27.resolve_right z
  exact ⟨e - o + 1, by have := key (e - o) o (by omega) (Nat.le_refl _) (fun z => by omega); rw [hbe, show B k e + 1 - B k e = 1 by omega] at this; exact this⟩
theorem y_end {post : SY → Prop} {k d e f : Nat} (hR : pR E Z n m tk ln D B pr) (hk : k < n) (hd : d < 10) (hfe : f < e) (he' : e < ln k) (hb1 : 1 ≤ B k e) (hkf : pK Z k f = 22 ∨ pK Z k f = 24 ∨ pK Z k f = 28) (hbf : B k f + 1 = B k e) (hq : ∀ q, f < q → q ≤ e → B k e ≤ B k q)
    (h22 : pK Z k f = 22 → post (mY Z (nI (d + 1)) wa he fa sc re gv gf ha me pc ba lo wt gt vl)) (h24 : pK Z k f = 24 → post (mY Z (nI (d + 1)) wa he fa sc re gv gf ha me (upd pc d (nI (550 + 50 * k + f))) ba lo wt gt vl)) (h28 : pK Z k f = 28 → wpY_leave post (mY Z (nI (d + 1)) wa he fa sc re gv gf ha me pc ba lo wt gt vl) 0) : wpY_end post (mY Z (nI (d + 1)) wa he fa sc re gv gf ha me pc ba lo wt gt vl) (nI (550 + 50 * k + e)) := by
  have hn5 := hR.1
  obtain ⟨_, _, _, _, _, h6, _⟩ := hR
  obtain ⟨_, h50, _, hT, hS, _⟩ := h6 k hk
  have hf1 : B k (f + 1) = B k e := by
    by_cases z : pK Z k f = 28
    · have h1 := (hS.2.2.1 f (by omega) z).1
      have h2 := hq (f + 1) (by omega) (by omega)
      omega
    · have h1 := (hS.2.1 f (by omega) (by omega) (by omega)).1
      rcases B_le hS (q := f) (by omega) h1 with h | h | h <;> omega
  have hlim : ∀ q, f < q → q ≤ e → B k q ≤ B k e + (q - (f + 1)) := by
    intro q
    induction q with
    | zero => intro a _; omega
    | succ q ih =>
      intro h2 h3
      by_cases z : q = f
      · subst z; omega
      · have := ih (by omega) (by omega)
        have hb := hq q (by omega) (by omega)
        rcases B_le hS (q := q) (by omega) (by omega) with h | h | h <;> omega
  have key : ∀ q a, a = f + q → a ≤ e → wfY post (q + 1) (nI (B k a + 1 - B k e)) (nI (550 + 50 * k + a)) (mY Z (nI (d + 1)) wa he fa sc re gv gf ha me pc ba lo wt gt vl) := by
    intro q
    induction q with
    | zero =>
      intro a haf hae
      have : a = f := by omega
      subst this
      obtain ⟨_, c2, _, c4⟩ := hT a (by omega)
      have h9 := c4.1
      have hin : vp_in (nI (550 + 50 * k + a)) 800 := pk_in (550 + 50 * k + a) 800 (by omega)
      have ec : (nI (550 + 50 * k + a)).toNatClampNeg = 550 + 50 * k + a := nI_clamp (by omega)
      have ed : nI (d + 1) - 1 = nI d := nI_pred d
      rw [show B k a + 1 - B k e = 0 by omega]
      refine br_t (by decide) ⟨hin, ?_⟩
      show (yK Z (nI (550 + 50 * k + a)).toNatClampNeg = 24 → _) ∧ (¬ yK Z (nI (550 + 50 * k + a)).toNatClampNeg = 24 → _)
      rw [ec, c2]
      refine pk_eq (pK Z k a) 24 (fun z => ⟨pk_in d 10 hd ed, nm_r (e' := upd pc d (nI (550 + 50 * k + a))) (by rw [ed, nI_clamp (by omega), ba_nss (by omega)]) ⟨hin, ?_⟩⟩) (fun z => ⟨hin, ?_⟩)
      · show (yK Z (nI (550 + 50 * k + a)).toNatClampNeg = 28 → _) ∧ (¬ yK Z (nI (550 + 50 * k + a)).toNatClampNeg = 28 → _)
        rw [ec, c2]
        exact pk_eq (pK Z k a) 28 (fun z2 => by omega) (fun z2 => h24 z)
      · show (yK Z (nI (550 + 50 * k + a)).toNatClampNeg = 28 → _) ∧ (¬ yK Z (nI (550 + 50 * k + a)).toNatClampNeg = 28 → _)
        rw [ec, c2]
        exact pk_eq (pK Z k a) 28 (fun z2 => h28 z2) (fun z2 => h22 (by omega))
    | succ q ih =>
      intro a haf hae
      obtain ⟨b, rfl⟩ : ∃ b, a = b + 1 := ⟨a - 1, by omega⟩
      have hb := hq (b + 1) (by omega) (by omega)
      have hlm := hlim (b + 1) (by omega) (by omega)
      obtain ⟨_, c2, _, c4⟩ := hT b (by omega)
      have h9 := c4.1
      have hin : vp_in (nI (550 + 50 * k + b)) 800 := pk_in (550 + 50 * k + b) 800 (by omega)
      have ec : (nI (550 + 50 * k + b)).toNatClampNeg = 550 + 50 * k + b := nI_clamp (by omega)
      have hop : ¬ nI (B k (b + 1) + 1 - B k e) ≤ 0 := nI_nle (by omega) (by omega)
      have hnext : ∀ x : Int32, x = nI (B k b + 1 - B k e) → wfY post (q + 1) x (nI (550 + 50 * k + b)) (mY Z (nI (d + 1)) wa he fa sc re gv gf ha me pc ba lo wt gt vl) := by
        intro x hx
        rw [hx]; exact ih b (by omega) (by omega)
      have hk28 : pK Z k b = 28 → b = f := by
        intro z
        apply Classical.byContradiction
        intro y
        have h1 := hq b (by omega) (by omega)
        have h2 := (hS.2.2.2 b (by omega) (by omega))
        by_cases zd : D k b = 0
        · have := h2.2.2.1 zd; omega
        · have := h2.2.1 (by omega); omega
      have hcase : (pK Z k b = 22 ∨ pK Z k b = 24 ∨ pK Z k b = 28) ∧ B k (b + 1) = B k b + 1 ∨ pK Z k b = 27 ∧ B k (b + 1) + 1 = B k b ∨ (pK Z k b ≠ 22 ∧ pK Z k b ≠ 24 ∧ pK Z k b ≠ 27 ∧ pK Z k b ≠ 28) ∧ B k (b + 1) = B k b := by
        by_cases z : b = f
        · subst z
          exact Or.inl ⟨hkf, by omega⟩
        · have h1 := hq b (by omega) (by omega)
          rcases B_le hS (q := b) (by omega) (by omega) with h | h | h
          · exact Or.inl ⟨by omega, h.2⟩
          · exact Or.inr (Or.inl h)
          · exact Or.inr (Or.inr ⟨⟨h.1.1, h.1.2.1, h.1.2.2, fun y => z (hk28 y)⟩, h.2⟩)
      refine br_f hop (nm_r (e' := nI (550 + 50 * k + b)) (pk_m1 _) ⟨hin, ?_⟩)
      have h25 : ∀ x : Int32, ((pK Z k b = 22 ∨ pK Z k b = 24 ∨ pK Z k b = 28) → x + (-1) = nI (B k b + 1 - B k e)) → (¬ (pK Z k b = 22 ∨ pK Z k b = 24 ∨ pK Z k b = 28) → x = nI (B k b + 1 - B k e)) → w25Y post (q + 1) x (nI (550 + 50 * k + b)) (mY Z (nI (d + 1)) wa he fa sc re gv gf ha me pc ba lo wt gt vl) := by
        intro x x1 x2
        refine ⟨hin, ?_⟩
        show (yK Z (nI (550 + 50 * k + b)).toNatClampNeg = 22 → _) ∧ (¬ yK Z (nI (550 + 50 * k + b)).toNatClampNeg = 22 → _ ∧ (yK Z (nI (550 + 50 * k + b)).toNatClampNeg = 24 → _) ∧ (¬ yK Z (nI (550 + 50 * k + b)).toNatClampNeg = 24 → _ ∧ (yK Z (nI (550 + 50 * k + b)).toNatClampNeg = 28 → _) ∧ (¬ yK Z (nI (550 + 50 * k + b)).toNatClampNeg = 28 → _)))
        rw [ec, c2]
        exact pk_eq (pK Z k b) 22 (fun z => nm_e (hnext _ (x1 (by omega)))) (fun z => ⟨hin, pk_eq (pK Z k b) 24 (fun z2 => nm_e (hnext _ (x1 (by omega)))) (fun z2 => ⟨hin, pk_eq (pK Z k b) 28 (fun z3 => nm_e (hnext _ (x1 (by omega)))) (fun z3 => hnext _ (x2 (by omega)))⟩)⟩)
      show (yK Z (nI (550 + 50 * k + b)).toNatClampNeg = 27 → _) ∧ (¬ yK Z (nI (550 + 50 * k + b)).toNatClampNeg = 27 → _)
      rw [ec, c2]
      refine pk_eq (pK Z k b) 27 (fun z => nm_e (h25 _ (fun y => by omega) (fun y => ?_))) (fun z => h25 _ (fun y => ?_) (fun y => ?_))
      · rw [nI_1]; exact congrArg nI (by omega)
      · rw [show B k (b + 1) + 1 - B k e = (B k b + 1 - B k e) + 1 by omega, pk_m1]
      · exact congrArg nI (by omega)
  exact ⟨e - f + 1, by have := key (e - f) e (by omega) (Nat.le_refl _); rw [show B k e + 1 - B k e = 1 by omega] at this; exact this⟩
theorem y_jump {post : SY → Prop} {k d o e : Nat} {b : Int32} (hR : pR E Z n m tk ln D B pr) (hk : k < n) (hd : d < 10) (hoe : o < e) (he' : e < ln k) (hb : (b = 1 ∧ pK Z k e = 27) ∨ (b = 0 ∧ (pK Z k e = 27 ∨ pK Z k e = 23) ∧ ∀ q, o < q → q < e → pK Z k q = 23 → B k q ≠ B k e)) (hb1 : 1 ≤ B k e) (hbe : B k (o + 1) = B k e) (hq : ∀ q, o < q → q ≤ e → B k e ≤ B k q)
    (hp : post (mY Z (nI (d + 1)) wa he fa sc re gv gf ha me (upd pc d (nI (550 + 50 * k + e + 1))) ba lo wt gt vl)) : wpY_jump post (mY Z (nI (d + 1)) wa he fa sc re gv gf ha me pc ba lo wt gt vl) (nI (550 + 50 * k + o)) b := by
  have hn5 := hR.1
  have h50 := (hR.2.2.2.2.2.1 k hk).2.1
  have ed : nI (d + 1) - 1 = nI d := nI_pred d
  have fin : vp_in (nI (d + 1) - 1) 10 ∧ ∀ a : Nat → Int32, a = upd pc (nI (d + 1) - 1).toNatClampNeg (vp_nar .short ((nI (550 + 50 * k + e) + 1).toInt16.toInt32)) → post (mY Z (nI (d + 1)) wa he fa sc re gv gf ha me a ba lo wt gt vl) :=
    ⟨pk_in d 10 hd ed, nm_r (e' := upd pc d (nI (550 + 50 * k + e + 1))) (by rw [ed, nI_clamp (by omega), nI_1, ba_nss (by omega)]) hp⟩
  rcases hb with ⟨e1, h27⟩ | ⟨e0, h27, hne⟩
  · subst e1
    exact br_f (by decide) (y_endOf hR hk hoe he' h27 hb1 hbe hq fin)
  · subst e0
    exact br_t rfl (y_other hR hk hoe he' h27 hb1 hbe hq hne fin)
end
