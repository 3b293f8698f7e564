/-! linking on the reference's side -/
def lk_z (V : Nat → Nat → Nat) (c : Nat) : Nat := V (c / 50) (c % 50) / 16 % 8 + 1
def lk_o (K V : Nat → Nat → Nat) (L : Nat → Nat) (n : Nat) : Nat → Nat
  | 0 => 0
  | c + 1 => lk_o K V L n c + (if lk_dt K V L n c = true then lk_z V c else 0)
theorem lk_o_le {K V : Nat → Nat → Nat} {L : Nat → Nat} {n : Nat} : ∀ c, lk_o K V L n c ≤ 8 * c := by
  intro c
  induction c with
  | zero => exact Nat.le_refl _
  | succ c ih =>
    show lk_o K V L n c + _ ≤ _
    split
    · unfold lk_z; omega
    · omega
theorem lk_o_mono {K V : Nat → Nat → Nat} {L : Nat → Nat} {n a : Nat} : ∀ b, a ≤ b → lk_o K V L n a ≤ lk_o K V L n b := by
  intro b
  induction b with
  | zero => intro h; rw [show a = 0 by omega]; exact Nat.le_refl _
  | succ b ih =>
    intro h
    by_cases z : a = b + 1
    · rw [z]; exact Nat.le_refl _
    · have := ih (by omega)
      show _ ≤ lk_o K V L n b + _
      omega
theorem lk_o_at {K V : Nat → Nat → Nat} {L : Nat → Nat} {n c : Nat} (h : lk_dt K V L n c = true) : lk_o K V L n (c + 1) = lk_o K V L n c + lk_z V c := by
  show lk_o K V L n c + _ = _
  rw [if_pos h]
theorem lk_o_no {K V : Nat → Nat → Nat} {L : Nat → Nat} {n c : Nat} (h : lk_dt K V L n c = false) : lk_o K V L n (c + 1) = lk_o K V L n c := by
  show lk_o K V L n c + _ = _
  rw [if_neg (by rw [h]; exact fun z => nomatch z)]; rfl
/-- what link answers -/
def lk_Z (K V : Nat → Nat → Nat) (L : Nat → Nat) (n : Nat) (r cul : Int32) : Prop :=
  (∃ nm, nm < 12 ∧ 2 ≤ lk_s K V L nm n ∧ (∀ m, m < nm → lk_s K V L m n < 2) ∧ r = 3 ∧ cul = nI nm) ∨
  ((∀ m, m < 12 → lk_s K V L m n < 2) ∧ ((∃ nm, nm < 12 ∧ r ≠ 0 ∧ lk_R K V L nm n r ∧ (∀ m, m < nm → lk_R K V L m n 0) ∧ cul = nI nm) ∨
    ((∀ m, m < 12 → lk_R K V L m n 0) ∧ cul = -1 ∧ ((48 < lk_o K V L n (50 * n) ∧ r = 6) ∨ (lk_o K V L n (50 * n) ≤ 48 ∧ r = 0)))))
/-- the units taken, in their order -/
noncomputable def lk_T (C W : Nat → Nat → Nat) (M lst : Nat → Nat) (lib : Nat → Prop) : Nat → Nat × (Nat → Nat)
  | 0 => (0, fun _ => 0)
  | l + 1 => @ite _ (¬ lib l ∨ lk_O C W M (lst l) (fun k => C ((lk_T C W M lst lib l).2 k)) (fun k => W ((lk_T C W M lst lib l).2 k)) (fun k => M ((lk_T C W M lst lib l).2 k)) (lk_T C W M lst lib l).1) (Classical.propDecidable _) ((lk_T C W M lst lib l).1 + 1, fun k => if k = (lk_T C W M lst lib l).1 then lst l else (lk_T C W M lst lib l).2 k) (lk_T C W M lst lib l)
theorem lk_T_yes {C W : Nat → Nat → Nat} {M lst : Nat → Nat} {lib : Nat → Prop} {l : Nat} (h : ¬ lib l ∨ lk_O C W M (lst l) (fun k => C ((lk_T C W M lst lib l).2 k)) (fun k => W ((lk_T C W M lst lib l).2 k)) (fun k => M ((lk_T C W M lst lib l).2 k)) (lk_T C W M lst lib l).1) : lk_T C W M lst lib (l + 1) = ((lk_T C W M lst lib l).1 + 1, fun k => if k = (lk_T C W M lst lib l).1 then lst l else (lk_T C W M lst lib l).2 k) := @if_pos _ (Classical.propDecidable _) h _ _ _
theorem lk_T_no {C W : Nat → Nat → Nat} {M lst : Nat → Nat} {lib : Nat → Prop} {l : Nat} (h : ¬ (¬ lib l ∨ lk_O C W M (lst l) (fun k => C ((lk_T C W M lst lib l).2 k)) (fun k => W ((lk_T C W M lst lib l).2 k)) (fun k => M ((lk_T C W M lst lib l).2 k)) (lk_T C W M lst lib l).1)) : lk_T C W M lst lib (l + 1) = lk_T C W M lst lib l := @if_neg _ (Classical.propDecidable _) h _ _ _
theorem lk_T_in {C W : Nat → Nat → Nat} {M lst : Nat → Nat} {lib : Nat → Prop} : ∀ l, (∀ i, i < l → lst i < 5) → (lk_T C W M lst lib l).1 ≤ l ∧ ∀ k, k < (lk_T C W M lst lib l).1 → (lk_T C W M lst lib l).2 k < 5 := by
  intro l
  induction l with
  | zero => exact fun _ => ⟨Nat.le_refl _, fun k h => absurd h (Nat.not_lt_zero _)⟩
  | succ l ih =>
    intro h
    obtain ⟨a, b⟩ := ih (fun i hi => h i (by omega))
    unfold lk_T
    split
    · refine ⟨by show _ + 1 ≤ _; omega, fun k hk => ?_⟩
      show (if k = _ then lst l else _) < 5
      split
      · exact h l (by omega)
      · have : k < (lk_T C W M lst lib l).1 + 1 := hk
        exact b k (by omega)
    · exact ⟨by omega, b⟩
section
variable {g_place g_culprit g_listed g_units g_taken g_used g_depth g_waiting g_held g_fault g_steps g_result g_given g_gift g_has : Int32} {b_kind b_value b_size b_list b_library b_places b_memory b_wanted b_pc b_base b_locals b_waits b_got b_values : Nat → Int32}
variable {K V : Nat → Nat → Nat} {L : Nat → Nat}
theorem yl_settled {post : Int32 → Prop} {n nm : Nat} (hn : n ≤ 5) (ht : g_taken = nI n) (hnm : nm < 16) (hR : ∀ k, k < n → yr_R b_kind b_value b_size (6 + k) (K k) (V k) (L k)) (hp : ∀ r, lk_R K V L nm n r → post r) : wpY_settled post (g_place, g_culprit, g_listed, g_units, g_taken, g_used, g_depth, g_waiting, g_held, g_fault, g_steps, g_result, g_given, g_gift, g_has, b_kind, b_value, b_size, b_list, b_library, b_places, b_memory, b_wanted, b_pc, b_base, b_locals, b_waits, b_got, b_values) (nI nm) := by
  have eend : (300 : Int32) + 50 * g_taken = nI (300 + 50 * n) := by rw [ht, show (50 : Int32) = nI 50 from rfl, pk_mul]; exact nI_add 300 _
  have key : ∀ m c, c + m = 50 * n → (∀ k i, 50 * k + i < c → k < n → i < L k → lk_Q K V k nm i → ∃ d, lk_b K V L nm n = some d ∧ lk_su K V d k i) → wY_settled_16 post (nI nm) (yl_e 300 (lk_b K V L nm n)) g_place g_culprit g_listed g_units g_taken g_used g_depth g_waiting g_held g_fault g_steps g_result g_given g_gift g_has b_kind b_value b_size b_list b_library b_places b_memory b_wanted b_pc b_base b_locals b_waits b_got b_values (m + 1) (nI (300 + c)) := by
    intro m
    induction m with
    | zero =>
      intro c hc hok
      refine br_t (by rw [eend]; exact nI_le (by omega) (by omega)) (hp 0 (Or.inl ⟨rfl, fun k hk i hi hq => ?_⟩))
      have := (hR k hk).1
      exact hok k i (by omega) hk hi hq
    | succ m ih =>
      intro c hc hok
      have hk : c / 50 < n := by omega
      have hRk := hR (c / 50) hk
      have ec : (nI (300 + c)).toNatClampNeg = 300 + c := nI_clamp (by omega)
      have hin : vp_in (nI (300 + c)) 800 := pk_in (300 + c) 800 (by omega)
      have ed : nI (300 + c) / 50 = nI (6 + c / 50) := by
        rw [show (50 : Int32) = nI 50 from rfl, pk_div (by omega) (by omega) (by omega)]
        exact congrArg nI (by omega)
      have er : nI (300 + c) - nI (300 + c) / 50 * 50 = nI (c % 50) := by
        rw [show (50 : Int32) = nI 50 from rfl, pk_rem (by omega) (by omega) (by omega)]
        exact congrArg nI (by omega)
      have ecd : (nI (300 + c) / 50).toNatClampNeg = 6 + c / 50 := by rw [ed, nI_clamp (by omega)]
      have h50 := hRk.1
      have hnext : (c % 50 < L (c / 50) → lk_Q K V (c / 50) nm (c % 50) → ∃ d, lk_b K V L nm n = some d ∧ lk_su K V d (c / 50) (c % 50)) → wY_settled_16 post (nI nm) (yl_e 300 (lk_b K V L nm n)) g_place g_culprit g_listed g_units g_taken g_used g_depth g_waiting g_held g_fault g_steps g_result g_given g_gift g_has b_kind b_value b_size b_list b_library b_places b_memory b_wanted b_pc b_base b_locals b_waits b_got b_values (m + 1) (nI (300 + c) + 1) := by
        intro h
        rw [nI_1]
        refine ih (c + 1) (by omega) (fun k i a b d e => ?_)
        by_cases z : 50 * k + i = c
        · have := (hR k b).1
          have e1 : c / 50 = k := by omega
          have e2 : c % 50 = i := by omega
          rw [e1, e2] at h
          exact h d e
        · exact hok k i (by omega) b d e
      refine br_f (by rw [eend]; exact nI_ge (by omega) (by omega)) ⟨hin, nm_e ⟨by decide, by decide, pk_in (6 + c / 50) 16 (by omega) ed, ?_⟩⟩
      rw [ecd, er, hRk.2.1]
      refine pk_le (L (c / 50)) (c % 50) (fun z => nm_e (hnext (fun q => by omega))) (fun hj => ?_)
      obtain ⟨a1, a2, a3⟩ := hRk.2.2 _ hj
      rw [show 50 * (6 + c / 50) + c % 50 = 300 + c by omega] at a1 a2 a3
      have h9 := a2.1
      rw [ec, a1]
      refine pk_lt (K (c / 50) (c % 50)) 2 (fun z => nm_e (hnext (fun _ q => by have := q.1; omega))) (fun z => pk_lt 5 (K (c / 50) (c % 50)) (fun z2 => nm_e (hnext (fun _ q => by have := q.1; omega))) (fun z2 => pk_eq (K (c / 50) (c % 50)) 4 (fun z3 => nm_e (hnext (fun _ q => by have := q.1; omega))) (fun z3 => ⟨hin, ?_⟩)))
      have hu : K (c / 50) (c % 50) = 2 ∨ K (c / 50) (c % 50) = 3 ∨ K (c / 50) (c % 50) = 5 := by omega
      obtain ⟨u1, u2, u3⟩ := tw_U a2 hu
      rw [tw_U16 a2 hu, a3]
      rw [a3] at u1 u2 u3
      refine pk_eq (V (c / 50) (c % 50) % 16) nm (fun e => ?_) (fun e => nm_e (hnext (fun _ q => absurd q.2 e)))
      have hq : lk_Q K V (c / 50) nm (c % 50) := ⟨hu, e⟩
      cases eb : lk_b K V L nm n with
      | none =>
        exact br_f (by decide) (hp 4 (Or.inr (Or.inl ⟨rfl, ⟨c / 50, hk, c % 50, hj, hq⟩, eb⟩)))
      | some d =>
        rw [eb] at hnext
        have hd := lk_b_in (fun k hk => (hR k hk).1) eb
        obtain ⟨b1, b2, b3⟩ := (hR _ hd.1).2.2 _ hd.2.1
        have h50d := (hR _ hd.1).1
        rw [show 50 * (6 + d / 50) + d % 50 = 300 + d by omega] at b1 b2 b3
        obtain ⟨v1, v2, v3⟩ := tw_V b2 hd.2.2.1
        rw [b3] at v1 v2 v3
        have ecd2 : (yl_e 300 (some d)).toNatClampNeg = 300 + d := nI_clamp (by omega)
        have hind : vp_in (yl_e 300 (some d)) 800 := pk_in (300 + d) 800 (by omega)
        have hbad : ¬ lk_su K V d (c / 50) (c % 50) → post 5 := fun h => hp 5 (Or.inr (Or.inr ⟨rfl, d, eb, c / 50, hk, c % 50, hj, hq, h⟩))
        refine br_t (nI_pos' (by omega)) (pk_eq (K (c / 50) (c % 50)) 5 (fun e5 => ⟨hind, ?_⟩) (fun e5 => ⟨hind, ?_⟩))
        · have esu : lk_su K V d (c / 50) (c % 50) = (K (d / 50) (d % 50) = 28 ∧ V (d / 50) (d % 50) / 16 % 4 = V (c / 50) (c % 50) / 16) := if_pos e5
          rw [esu] at hbad
          have h9d := b2.1
          rw [ecd2, b1]
          refine pk_eq (K (d / 50) (d % 50)) 28 (fun e28 => ⟨hind, hin, ?_⟩) (fun e28 => hbad (fun z => e28 z.1))
          rw [v1, ba_cnt (by omega), u1, ba_shr4 (by omega)]
          exact pk_eq (V (d / 50) (d % 50) / 16 % 4) (V (c / 50) (c % 50) / 16) (fun e => nm_e (hnext (fun _ _ => ⟨d, rfl, by rw [esu]; exact ⟨e28, e⟩⟩))) (fun e => hbad (fun z => e z.2))
        · have esu : lk_su K V d (c / 50) (c % 50) = (K (d / 50) (d % 50) = 29) := if_neg e5
          rw [esu] at hbad
          have h9d := b2.1
          rw [ecd2, b1]
          exact pk_eq (K (d / 50) (d % 50)) 29 (fun e => nm_e (hnext (fun _ _ => ⟨d, rfl, by rw [esu]; exact e⟩))) (fun e => hbad e)
  unfold wpY_settled
  have := @yl_def g_place g_culprit g_listed g_units g_taken g_used g_depth g_waiting g_held g_fault g_steps g_result g_given g_gift g_has b_kind b_value b_size b_list b_library b_places b_memory b_wanted b_pc b_base b_locals b_waits b_got b_values K V L (fun r_1 => ∃ n16 : Nat, wY_settled_16 post (nI nm) r_1 g_place g_culprit g_listed g_units g_taken g_used g_depth g_waiting g_held g_fault g_steps g_result g_given g_gift g_has b_kind b_value b_size b_list b_library b_places b_memory b_wanted b_pc b_base b_locals b_waits b_got b_values n16 300) 6 n nm (by omega) hnm hR ⟨50 * n + 1, key (50 * n) 0 (by omega) (fun k i h => absurd h (by omega))⟩
  rw [← ht] at this
  exact this
theorem yl_data {post : Int32 → Prop} {n c : Nat} (hn : n ≤ 5) (ht : g_taken = nI n) (hR : ∀ k, k < n → yr_R b_kind b_value b_size (6 + k) (K k) (V k) (L k)) (hc : c < 50 * n) (h1 : lk_dt K V L n c = true → post 1) (h0 : lk_dt K V L n c = false → post 0) : wpY_data post (g_place, g_culprit, g_listed, g_units, g_taken, g_used, g_depth, g_waiting, g_held, g_fault, g_steps, g_result, g_given, g_gift, g_has, b_kind, b_value, b_size, b_list, b_library, b_places, b_memory, b_wanted, b_pc, b_base, b_locals, b_waits, b_got, b_values) (nI (300 + c)) := by
  have hk : c / 50 < n := by omega
  have hRk := hR (c / 50) hk
  have ec : (nI (300 + c)).toNatClampNeg = 300 + c := nI_clamp (by omega)
  have hin : vp_in (nI (300 + c)) 800 := pk_in (300 + c) 800 (by omega)
  have ed : nI (300 + c) / 50 = nI (6 + c / 50) := by
    rw [show (50 : Int32) = nI 50 from rfl, pk_div (by omega) (by omega) (by omega)]
    exact congrArg nI (by omega)
  have er : nI (300 + c) - nI (300 + c) / 50 * 50 = nI (c % 50) := by
    rw [show (50 : Int32) = nI 50 from rfl, pk_rem (by omega) (by omega) (by omega)]
    exact congrArg nI (by omega)
  have ecd : (nI (300 + c) / 50).toNatClampNeg = 6 + c / 50 := by rw [ed, nI_clamp (by omega)]
  have h50 := hRk.1
  have hno : ¬ (c % 50 < L (c / 50) ∧ K (c / 50) (c % 50) = 29 ∧ lk_b K V L (V (c / 50) (c % 50) % 16) n = some c) → post 0 := fun h => h0 (decide_eq_false h)
  refine ⟨by decide, by decide, pk_in (6 + c / 50) 16 (by omega) ed, ?_⟩
  rw [ecd, er, hRk.2.1]
  refine pk_le (L (c / 50)) (c % 50) (fun z => hno (fun q => by have := q.1; omega)) (fun hj => ⟨hin, ?_⟩)
  obtain ⟨a1, a2, a3⟩ := hRk.2.2 _ hj
  rw [show 50 * (6 + c / 50) + c % 50 = 300 + c by omega] at a1 a2 a3
  have h9 := a2.1
  rw [ec, a1]
  refine pk_eq (K (c / 50) (c % 50)) 29 (fun e29 => ⟨hin, ?_⟩) (fun e29 => hno (fun q => e29 q.2.1))
  obtain ⟨v1, v2, v3⟩ := tw_V a2 (Or.inr e29)
  rw [tw_V16 a2 (Or.inr e29), a3, ht]
  rw [a3] at v1 v2 v3
  refine yl_def (f := 6) (by omega) (by omega) hR ?_
  refine br_c (fun z => h1 (decide_eq_true ⟨hj, e29, ?_⟩)) (fun z => hno (fun q => z ?_))
  · cases eb : lk_b K V L (V (c / 50) (c % 50) % 16) n with
    | none => rw [eb] at z; exact absurd z.symm (ba_m1 (by omega))
    | some d =>
      rw [eb] at z
      have hd := lk_b_in (fun k hk => (hR k hk).1) eb
      have := ba_inj (by omega) (by omega) z
      exact congrArg some (by omega)
  · rw [q.2.2]; rfl
end
