/-! the reference's scans -/
def yr_R (yk yv ys : Nat → Int32) (r : Nat) (K V : Nat → Nat) (L : Nat) : Prop := L ≤ 50 ∧ ys r = nI L ∧ ∀ i, i < L → yk (50 * r + i) = nI (K i) ∧ tk_P (K i) (yv (50 * r + i)) ∧ (yv (50 * r + i)).toNatClampNeg = V i
def yl_e (b : Nat) (o : Option Nat) : Int32 := match o with
  | none => -1
  | some i => nI (b + i)
theorem yl_n {b : Nat} : yl_e b none < 0 := by show (-1 : Int32) < 0; decide
theorem tw_U {c : Nat} {v : Int32} (h : tk_P c v) (hc : c = 2 ∨ c = 3 ∨ c = 5) : v = nI v.toNatClampNeg ∧ v.toNatClampNeg < 64 ∧ v.toNatClampNeg % 16 < 12 := by
  by_cases e : c = 5
  · obtain ⟨m, a, b, rfl⟩ := h.2.2.2.2.1 e
    rw [nI_clamp (by omega)]
    exact ⟨rfl, by omega, b⟩
  · obtain ⟨m, a, rfl⟩ := h.2.2.2.1 (by omega)
    rw [nI_clamp (by omega)]
    exact ⟨rfl, by omega, by omega⟩
theorem tw_U16 {c : Nat} {v : Int32} (h : tk_P c v) (hc : c = 2 ∨ c = 3 ∨ c = 5) : v &&& 15 = nI (v.toNatClampNeg % 16) := by
  obtain ⟨a, b, _⟩ := tw_U h hc
  have := ba_and15 (n := v.toNatClampNeg) (by omega)
  rw [← a] at this
  exact this
/-- what a use asks of its definition d -/
def lk_su (K V : Nat → Nat → Nat) (d k i : Nat) : Prop := if K k i = 5 then K (d / 50) (d % 50) = 28 ∧ V (d / 50) (d % 50) / 16 % 4 = V k i / 16 else K (d / 50) (d % 50) = 29
def lk_R (K V : Nat → Nat → Nat) (L : Nat → Nat) (nm n : Nat) (r : Int32) : Prop := (r = 0 ∧ ∀ k, k < n → ∀ i, i < L k → lk_Q K V k nm i → ∃ d, lk_b K V L nm n = some d ∧ lk_su K V d k i) ∨ (r = 4 ∧ lk_W K V L nm n ∧ lk_b K V L nm n = none) ∨ (r = 5 ∧ ∃ d, lk_b K V L nm n = some d ∧ ∃ k, k < n ∧ ∃ i, i < L k ∧ lk_Q K V k nm i ∧ ¬ lk_su K V d k i)
theorem lk_R_one {K V : Nat → Nat → Nat} {L : Nat → Nat} {nm n : Nat} {r r' : Int32} (h : lk_R K V L nm n r) (h' : lk_R K V L nm n r') : r = r' := by
  rcases h with ⟨e, h⟩ | ⟨e, h, h2⟩ | ⟨e, d, h, k, hk, i, hi, hq, hs⟩ <;> rcases h' with ⟨e', h'⟩ | ⟨e', h', h2'⟩ | ⟨e', d', h', k', hk', i', hi', hq', hs'⟩
  · rw [e, e']
  · exfalso
    obtain ⟨k, hk, i, hi, hq⟩ := h'
    obtain ⟨d, a, _⟩ := h k hk i hi hq
    rw [a] at h2'; exact nomatch h2'
  · exfalso
    obtain ⟨d, a, b⟩ := h k' hk' i' hi' hq'
    rw [a] at h'; cases h'; exact hs' b
  · exfalso
    obtain ⟨k, hk, i, hi, hq⟩ := h
    obtain ⟨d, a, _⟩ := h' k hk i hi hq
    rw [a] at h2; exact nomatch h2
  · rw [e, e']
  · exfalso; rw [h2] at h'; exact nomatch h'
  · exfalso
    obtain ⟨d', a, b⟩ := h' k hk i hi hq
    rw [a] at h; cases h; exact hs b
  · exfalso; rw [h2'] at h; exact nomatch h
  · rw [e, e']
/-- a library unit is of use -/
def lk_O (C W : Nat → Nat → Nat) (M : Nat → Nat) (u : Nat) (K V : Nat → Nat → Nat) (L : Nat → Nat) (n : Nat) : Prop := ∃ i, i < M u ∧ (C u i = 28 ∨ C u i = 29) ∧ lk_W K V L (W u i % 16) n ∧ lk_b K V L (W u i % 16) n = none
def lk_dt (K V : Nat → Nat → Nat) (L : Nat → Nat) (n c : Nat) : Bool := decide (c % 50 < L (c / 50) ∧ K (c / 50) (c % 50) = 29 ∧ lk_b K V L (V (c / 50) (c % 50) % 16) n = some c)
section
variable {g_place g_culprit g_listed g_units g_taken g_used g_depth g_waiting g_held g_fault g_steps g_result g_given g_gift g_has : Int32} {b_kind b_value b_size b_list b_library b_places b_memory b_wanted b_pc b_base b_locals b_waits b_got b_values : Nat → Int32}
variable {K V : Nat → Nat → Nat} {L : Nat → Nat}
theorem yl_in {post : Int32 → Prop} {r k nm : Nat} (hr : r < 16) (hnm : nm < 16) (hR : yr_R b_kind b_value b_size r (K k) (V k) (L k)) (hp : post (yl_e (50 * r) (lk_f K V k nm (L k)))) : wpY_definitionIn post (g_place, g_culprit, g_listed, g_units, g_taken, g_used, g_depth, g_waiting, g_held, g_fault, g_steps, g_result, g_given, g_gift, g_has, b_kind, b_value, b_size, b_list, b_library, b_places, b_memory, b_wanted, b_pc, b_base, b_locals, b_waits, b_got, b_values) (nI r) (nI nm) := by
  obtain ⟨hL, hs, hT⟩ := hR
  have e50 : (50 : Int32) * nI r = nI (50 * r) := by rw [show (50 : Int32) = nI 50 from rfl, pk_mul]
  have eb : (50 : Int32) * nI r + b_size (nI r).toNatClampNeg = nI (50 * r + L k) := by rw [nI_clamp (by omega), hs, e50, nI_add]
  have key : ∀ m t, t + m = L k → lk_f K V k nm t = none → wY_definitionIn_5 post (nI r) (nI nm) g_place g_culprit g_listed g_units g_taken g_used g_depth g_waiting g_held g_fault g_steps g_result g_given g_gift g_has b_kind b_value b_size b_list b_library b_places b_memory b_wanted b_pc b_base b_locals b_waits b_got b_values (m + 1) (nI (50 * r + t)) := by
    intro m
    induction m with
    | zero =>
      intro t ht hn
      refine ⟨pk_in r 16 hr, br_t (by rw [eb]; exact nI_le (by omega) (by omega)) ?_⟩
      rw [← ht, show t + 0 = t from rfl, hn] at hp
      exact hp
    | succ m ih =>
      intro t ht hn
      obtain ⟨h1, h2, h3⟩ := hT t (by omega)
      have hin : vp_in (nI (50 * r + t)) 800 := pk_in (50 * r + t) 800 (by omega)
      have ec : (nI (50 * r + t)).toNatClampNeg = 50 * r + t := nI_clamp (by omega)
      refine ⟨pk_in r 16 hr, br_f (by rw [eb]; exact nI_ge (by omega) (by omega)) ⟨hin, ?_⟩⟩
      rw [ec, h1]
      have hnext : ¬ lk_D K V k nm t → wY_definitionIn_5 post (nI r) (nI nm) g_place g_culprit g_listed g_units g_taken g_used g_depth g_waiting g_held g_fault g_steps g_result g_given g_gift g_has b_kind b_value b_size b_list b_library b_places b_memory b_wanted b_pc b_base b_locals b_waits b_got b_values (m + 1) (nI (50 * r + t) + 1) := by
        intro hd
        rw [nI_1]
        exact ih (t + 1) (by omega) (by rw [lk_f_succ_n hd]; exact hn)
      refine yd_isdef h2.1 (fun hd => br_f (by decide) ⟨hin, ?_⟩) (fun hd => br_t rfl (nm_e (hnext (fun z => hd z.1))))
      rw [tw_V16 h2 hd, h3]
      refine pk_eq (V k t % 16) nm (fun e => ?_) (fun e => nm_e (hnext (fun z => e z.2)))
      have e1 : lk_f K V k nm (t + 1) = some t := lk_f_succ_d ⟨hd, e⟩ hn
      have e2 : ∀ m, lk_f K V k nm (t + 1 + m) = some t := by
        intro m
        induction m with
        | zero => exact e1
        | succ m ih2 =>
          show (match lk_f K V k nm (t + 1 + m) with | some i => some i | none => _) = _
          rw [ih2]
      have e3 := e2 m
      rw [show t + 1 + m = L k by omega] at e3
      rw [e3] at hp
      exact hp
  refine nm_r e50 ⟨L k + 1, ?_⟩
  exact key (L k) 0 (by omega) rfl
theorem yl_weak {post : Int32 → Prop} {r k i : Nat} (hr : r < 16) (hR : yr_R b_kind b_value b_size r (K k) (V k) (L k)) (hi : i < L k) (hd : K k i = 28 ∨ K k i = 29) (h1 : lk_w K V k i = true → post 1) (h0 : lk_w K V k i = false → post 0) : wpY_weak post (g_place, g_culprit, g_listed, g_units, g_taken, g_used, g_depth, g_waiting, g_held, g_fault, g_steps, g_result, g_given, g_gift, g_has, b_kind, b_value, b_size, b_list, b_library, b_places, b_memory, b_wanted, b_pc, b_base, b_locals, b_waits, b_got, b_values) (nI (50 * r + i)) := by
  obtain ⟨hL, hs, hT⟩ := hR
  obtain ⟨a1, a2, a3⟩ := hT i hi
  have hin : vp_in (nI (50 * r + i)) 800 := pk_in (50 * r + i) 800 (by omega)
  have ec : (nI (50 * r + i)).toNatClampNeg = 50 * r + i := nI_clamp (by omega)
  obtain ⟨v1, v2, v3⟩ := tw_V a2 hd
  rw [a3] at v1 v2 v3
  refine ⟨hin, hin, ?_⟩
  rw [ec, a1]
  have h9 := a2.1
  refine pk_eq (K k i) 28 (fun e => ?_) (fun e => ?_)
  · obtain ⟨m, b1, b2, b3⟩ := a2.2.2.2.2.2.1 e
    have hm : V k i = m := by rw [← a3, b3, nI_clamp (by omega)]
    unfold wY_weak_24
    rw [v1, ba_shr6 (by omega), ba_and1 (by omega)]
    refine pk_eq (V k i / 64 % 2) 0 (fun z => h0 ?_) (fun z => h1 ?_)
    · unfold lk_w; rw [if_pos e]; exact decide_eq_false (by omega)
    · unfold lk_w; rw [if_pos e]; exact decide_eq_true (by omega)
  · unfold wY_weak_24
    rw [v1, ba_shr7 (by omega), ba_and1 (by omega)]
    refine pk_eq (V k i / 128 % 2) 0 (fun z => h0 ?_) (fun z => h1 ?_)
    · unfold lk_w; rw [if_neg e]; exact decide_eq_false (by omega)
    · unfold lk_w; rw [if_neg e]; exact decide_eq_true (by omega)
theorem yl_def {post : Int32 → Prop} {f n nm : Nat} (hf : f + n ≤ 16) (hnm : nm < 16) (hR : ∀ k, k < n → yr_R b_kind b_value b_size (f + k) (K k) (V k) (L k)) (hp : post (yl_e (50 * f) (lk_b K V L nm n))) : wpY_definition post (g_place, g_culprit, g_listed, g_units, g_taken, g_used, g_depth, g_waiting, g_held, g_fault, g_steps, g_result, g_given, g_gift, g_has, b_kind, b_value, b_size, b_list, b_library, b_places, b_memory, b_wanted, b_pc, b_base, b_locals, b_waits, b_got, b_values) (nI f) (nI n) (nI nm) := by
  have efn : nI f + nI n = nI (f + n) := nI_add f n
  have key : ∀ m k, k + m = n → wY_definition_6 post (nI f) (nI n) (nI nm) g_place g_culprit g_listed g_units g_taken g_used g_depth g_waiting g_held g_fault g_steps g_result g_given g_gift g_has b_kind b_value b_size b_list b_library b_places b_memory b_wanted b_pc b_base b_locals b_waits b_got b_values (m + 1) (yl_e (50 * f) (lk_b K V L nm k)) (nI (f + k)) := by
    intro m
    induction m with
    | zero =>
      intro k hk
      refine br_t (by rw [efn]; exact nI_le (by omega) (by omega)) ?_
      rw [show k = n by omega]; exact hp
    | succ m ih =>
      intro k hk
      have hRk := hR k (by omega)
      have hL : ∀ k', k' < k → L k' ≤ 50 := fun k' h => (hR k' (by omega)).1
      have ihk := ih (k + 1) (by omega)
      rw [show lk_b K V L nm (k + 1) = lk_B1 K V k (lk_b K V L nm k) (lk_f K V k nm (L k)) from rfl] at ihk
      refine br_f (by rw [efn]; exact nI_ge (by omega) (by omega)) (yl_in (by omega) hnm hRk ?_)
      cases e : lk_f K V k nm (L k) with
      | none =>
        rw [e] at ihk
        exact br_t yl_n (nm_r (nI_1 _) ihk)
      | some i =>
        have hi := lk_f_some e
        have hiL : i < 50 := by have := hRk.1; omega
        rw [e] at ihk
        refine br_f (nI_pos (by omega)) ?_
        cases e2 : lk_b K V L nm k with
        | none =>
          rw [e2] at ihk
          refine br_t yl_n (nm_r (nI_1 _) ?_)
          have : yl_e (50 * (f + k)) (some i) = yl_e (50 * f) (some (50 * k + i)) := congrArg nI (by omega)
          rw [this]
          exact ihk
        | some c =>
          rw [e2] at ihk
          have hc := lk_b_in hL e2
          have ea : yl_e (50 * f) (some c) = nI (50 * (f + c / 50) + c % 50) := congrArg nI (by omega)
          have hcL : c % 50 < 50 := by omega
          refine br_f (nI_pos (by omega)) ?_
          have ihk' : wY_definition_6 post (nI f) (nI n) (nI nm) g_place g_culprit g_listed g_units g_taken g_used g_depth g_waiting g_held g_fault g_steps g_result g_given g_gift g_has b_kind b_value b_size b_list b_library b_places b_memory b_wanted b_pc b_base b_locals b_waits b_got b_values (m + 1) (yl_e (50 * f) (if lk_w K V (c / 50) (c % 50) = true ∧ lk_w K V k i = false then some (50 * k + i) else some c)) (nI (f + (k + 1))) := ihk
          have goal : (wpY_weak (fun r_36 => (r_36 = 0 → ∀ x5_67 : Int32, x5_67 = nI (f + k) + 1 → wY_definition_6 post (nI f) (nI n) (nI nm) g_place g_culprit g_listed g_units g_taken g_used g_depth g_waiting g_held g_fault g_steps g_result g_given g_gift g_has b_kind b_value b_size b_list b_library b_places b_memory b_wanted b_pc b_base b_locals b_waits b_got b_values (m + 1) (yl_e (50 * f) (some c)) x5_67) ∧ (¬ r_36 = 0 → wpY_weak (fun r_68 => (r_68 = 0 → ∀ x5_100 : Int32, x5_100 = nI (f + k) + 1 → wY_definition_6 post (nI f) (nI n) (nI nm) g_place g_culprit g_listed g_units g_taken g_used g_depth g_waiting g_held g_fault g_steps g_result g_given g_gift g_has b_kind b_value b_size b_list b_library b_places b_memory b_wanted b_pc b_base b_locals b_waits b_got b_values (m + 1) (yl_e (50 * (f + k)) (some i)) x5_100) ∧ (¬ r_68 = 0 → ∀ x5_99 : Int32, x5_99 = nI (f + k) + 1 → wY_definition_6 post (nI f) (nI n) (nI nm) g_place g_culprit g_listed g_units g_taken g_used g_depth g_waiting g_held g_fault g_steps g_result g_given g_gift g_has b_kind b_value b_size b_list b_library b_places b_memory b_wanted b_pc b_base b_locals b_waits b_got b_values (m + 1) (yl_e (50 * f) (some c)) x5_99)) (g_place, g_culprit, g_listed, g_units, g_taken, g_used, g_depth, g_waiting, g_held, g_fault, g_steps, g_result, g_given, g_gift, g_has, b_kind, b_value, b_size, b_list, b_library, b_places, b_memory, b_wanted, b_pc, b_base, b_locals, b_waits, b_got, b_values) (yl_e (50 * (f + k)) (some i)))) (g_place, g_culprit, g_listed, g_units, g_taken, g_used, g_depth, g_waiting, g_held, g_fault, g_steps, g_result, g_given, g_gift, g_has, b_kind, b_value, b_size, b_list, b_library, b_places, b_memory, b_wanted, b_pc, b_base, b_locals, b_waits, b_got, b_values) (nI (50 * (f + c / 50) + c % 50))) := by
            refine yl_weak (k := c / 50) (by omega) (hR _ (by omega)) hc.2.1 hc.2.2.1 (fun w1 => br_f (by decide) ?_) (fun w1 => br_t rfl (nm_r (nI_1 _) ?_))
            · refine yl_weak (k := k) (by omega) hRk hi.1 hi.2.1.1 (fun w2 => br_f (by decide) (nm_r (nI_1 _) ?_)) (fun w2 => br_t rfl (nm_r (nI_1 _) ?_))
              · rw [if_neg (by rw [w2]; exact fun z => nomatch z.2)] at ihk'
                exact ihk'
              · rw [if_pos ⟨w1, w2⟩] at ihk'
                have : yl_e (50 * (f + k)) (some i) = yl_e (50 * f) (some (50 * k + i)) := congrArg nI (by omega)
                rw [this]
                exact ihk'
            · rw [if_neg (by rw [w1]; exact fun z => nomatch z.1)] at ihk'
              exact ihk'
          rw [← ea] at goal
          exact goal
  exact ⟨n + 1, key n 0 (by omega)⟩
theorem yl_wants {post : Int32 → Prop} {r k nm : Nat} (hr : r < 16) (hnm : nm < 16) (hR : yr_R b_kind b_value b_size r (K k) (V k) (L k)) (h1 : (∃ i, i < L k ∧ lk_Q K V k nm i) → post 1) (h0 : ¬ (∃ i, i < L k ∧ lk_Q K V k nm i) → post 0) : wpY_wants post (g_place, g_culprit, g_listed, g_units, g_taken, g_used, g_depth, g_waiting, g_held, g_fault, g_steps, g_result, g_given, g_gift, g_has, b_kind, b_value, b_size, b_list, b_library, b_places, b_memory, b_wanted, b_pc, b_base, b_locals, b_waits, b_got, b_values) (nI r) (nI nm) := by
  obtain ⟨hL, hs, hT⟩ := hR
  have e50 : (50 : Int32) * nI r = nI (50 * r) := by rw [show (50 : Int32) = nI 50 from rfl, pk_mul]
  have eb : (50 : Int32) * nI r + b_size (nI r).toNatClampNeg = nI (50 * r + L k) := by rw [nI_clamp (by omega), hs, e50, nI_add]
  have key : ∀ m t, t + m = L k → (∀ i, i < t → ¬ lk_Q K V k nm i) → wY_wants_5 post (nI r) (nI nm) g_place g_culprit g_listed g_units g_taken g_used g_depth g_waiting g_held g_fault g_steps g_result g_given g_gift g_has b_kind b_value b_size b_list b_library b_places b_memory b_wanted b_pc b_base b_locals b_waits b_got b_values (m + 1) (nI (50 * r + t)) := by
    intro m
    induction m with
    | zero =>
      intro t ht hn
      refine ⟨pk_in r 16 hr, br_t (by rw [eb]; exact nI_le (by omega) (by omega)) (h0 ?_)⟩
      rintro ⟨i, a, b⟩
      exact hn i (by omega) b
    | succ m ih =>
      intro t ht hn
      obtain ⟨a1, a2, a3⟩ := hT t (by omega)
      have h9 := a2.1
      have hin : vp_in (nI (50 * r + t)) 800 := pk_in (50 * r + t) 800 (by omega)
      have ec : (nI (50 * r + t)).toNatClampNeg = 50 * r + t := nI_clamp (by omega)
      refine ⟨pk_in r 16 hr, br_f (by rw [eb]; exact nI_ge (by omega) (by omega)) ⟨hin, ?_⟩⟩
      rw [ec, a1]
      have hnext : ¬ lk_Q K V k nm t → wY_wants_5 post (nI r) (nI nm) g_place g_culprit g_listed g_units g_taken g_used g_depth g_waiting g_held g_fault g_steps g_result g_given g_gift g_has b_kind b_value b_size b_list b_library b_places b_memory b_wanted b_pc b_base b_locals b_waits b_got b_values (m + 1) (nI (50 * r + t) + 1) := by
        intro hd
        rw [nI_1]
        exact ih (t + 1) (by omega) (fun i hi => by
          by_cases z : i = t
          · subst z; exact hd
          · exact hn i (by omega))
      refine pk_lt (K k t) 2 (fun z => nm_e (hnext (fun q => by have := q.1; omega))) (fun z => ⟨hin, pk_lt 5 (K k t) (fun z2 => nm_e (hnext (fun q => by have := q.1; omega))) (fun z2 => ⟨hin, pk_eq (K k t) 4 (fun z3 => nm_e (hnext (fun q => by have := q.1; omega))) (fun z3 => ⟨hin, ?_⟩)⟩)⟩)
      have hu : K k t = 2 ∨ K k t = 3 ∨ K k t = 5 := by omega
      rw [tw_U16 a2 hu, a3]
      exact pk_eq (V k t % 16) nm (fun e => h1 ⟨t, by omega, hu, e⟩) (fun e => nm_e (hnext (fun q => e q.2)))
  refine nm_r e50 ⟨L k + 1, ?_⟩
  exact key (L k) 0 (by omega) (fun i h => absurd h (by omega))
theorem yl_strong {post : Int32 → Prop} {n nm : Nat} (hn : n ≤ 5) (ht : g_taken = nI n) (hnm : nm < 16) (hR : ∀ k, k < n → yr_R b_kind b_value b_size (6 + k) (K k) (V k) (L k)) (hp : post (nI (lk_s K V L nm n))) : wpY_strong post (g_place, g_culprit, g_listed, g_units, g_taken, g_used, g_depth, g_waiting, g_held, g_fault, g_steps, g_result, g_given, g_gift, g_has, b_kind, b_value, b_size, b_list, b_library, b_places, b_memory, b_wanted, b_pc, b_base, b_locals, b_waits, b_got, b_values) (nI nm) := by
  have efn : (6 : Int32) + g_taken = nI (6 + n) := by rw [ht]; exact nI_add 6 n
  have key : ∀ m k, k + m = n → wY_strong_5 post (nI nm) g_place g_culprit g_listed g_units g_taken g_used g_depth g_waiting g_held g_fault g_steps g_result g_given g_gift g_has b_kind b_value b_size b_list b_library b_places b_memory b_wanted b_pc b_base b_locals b_waits b_got b_values (m + 1) (nI (lk_s K V L nm k)) (nI (6 + k)) := by
    intro m
    induction m with
    | zero =>
      intro k hk
      refine br_t (by rw [efn]; exact nI_le (by omega) (by omega)) ?_
      rw [show k = n by omega]; exact hp
    | succ m ih =>
      intro k hk
      have hRk := hR k (by omega)
      have ihk := ih (k + 1) (by omega)
      rw [show lk_s K V L nm (k + 1) = lk_S1 K V k (lk_s K V L nm k) (lk_f K V k nm (L k)) from rfl] at ihk
      refine br_f (by rw [efn]; exact nI_ge (by omega) (by omega)) (yl_in (by omega) hnm hRk ?_)
      cases e : lk_f K V k nm (L k) with
      | none =>
        rw [e] at ihk
        exact br_t yl_n (nm_r (nI_1 _) ihk)
      | some i =>
        have hi := lk_f_some e
        have hiL : i < 50 := by have := hRk.1; omega
        rw [e] at ihk
        have ihk' : wY_strong_5 post (nI nm) g_place g_culprit g_listed g_units g_taken g_used g_depth g_waiting g_held g_fault g_steps g_result g_given g_gift g_has b_kind b_value b_size b_list b_library b_places b_memory b_wanted b_pc b_base b_locals b_waits b_got b_values (m + 1) (nI (if lk_w K V k i = false then lk_s K V L nm k + 1 else lk_s K V L nm k)) (nI (6 + (k + 1))) := ihk
        refine br_f (nI_pos (by omega)) ?_
        refine yl_weak (k := k) (by omega) hRk hi.1 hi.2.1.1 (fun w => br_f (by decide) (nm_r (nI_1 _) ?_)) (fun w => br_t rfl (nm_r (nI_1 _) (nm_r (nI_1 _) ?_)))
        · rw [if_neg (by rw [w]; exact fun z => nomatch z)] at ihk'; exact ihk'
        · rw [if_pos w] at ihk'; exact ihk'
  exact ⟨n + 1, key n 0 (by omega)⟩
theorem yl_needed {post : Int32 → Prop} {C W : Nat → Nat → Nat} {M : Nat → Nat} {n u : Nat} (hn : n ≤ 5) (hu : u < 5) (ht : g_taken = nI n) (hU : yr_R b_kind b_value b_size u (C u) (W u) (M u)) (hR : ∀ k, k < n → yr_R b_kind b_value b_size (6 + k) (K k) (V k) (L k)) (h1 : lk_O C W M u K V L n → post 1) (h0 : ¬ lk_O C W M u K V L n → post 0) : wpY_needed post (g_place, g_culprit, g_listed, g_units, g_taken, g_used, g_depth, g_waiting, g_held, g_fault, g_steps, g_result, g_given, g_gift, g_has, b_kind, b_value, b_size, b_list, b_library, b_places, b_memory, b_wanted, b_pc, b_base, b_locals, b_waits, b_got, b_values) (nI u) := by
  have efn : (6 : Int32) + g_taken = nI (6 + n) := by rw [ht]; exact nI_add 6 n
  have key : ∀ m nm, nm + m = 12 → (∀ i, i < M u → (C u i = 28 ∨ C u i = 29) → W u i % 16 < nm → ¬ (lk_W K V L (W u i % 16) n ∧ lk_b K V L (W u i % 16) n = none)) → wY_needed_2 post (nI u) g_place g_culprit g_listed g_units g_taken g_used g_depth g_waiting g_held g_fault g_steps g_result g_given g_gift g_has b_kind b_value b_size b_list b_library b_places b_memory b_wanted b_pc b_base b_locals b_waits b_got b_values (m + 1) (nI nm) := by
    intro m
    induction m with
    | zero =>
      intro nm hm hno
      refine br_t (nI_le (a := 12) (by omega) (by omega)) (h0 ?_)
      rintro ⟨i, a, b, c, d⟩
      have := tw_V (hU.2.2 i a).2.1 b
      rw [(hU.2.2 i a).2.2] at this
      exact hno i a b (by omega) ⟨c, d⟩
    | succ m ih =>
      intro nm hm hno
      have hnext : (∀ i, i < M u → (C u i = 28 ∨ C u i = 29) → W u i % 16 = nm → ¬ (lk_W K V L nm n ∧ lk_b K V L nm n = none)) → wY_needed_2 post (nI u) g_place g_culprit g_listed g_units g_taken g_used g_depth g_waiting g_held g_fault g_steps g_result g_given g_gift g_has b_kind b_value b_size b_list b_library b_places b_memory b_wanted b_pc b_base b_locals b_waits b_got b_values (m + 1) (nI nm + 1) := by
        intro h
        rw [nI_1]
        exact ih (nm + 1) (by omega) (fun i a b c => by
          by_cases z : W u i % 16 = nm
          · rw [z]; exact h i a b z
          · exact hno i a b (by omega))
      refine br_f (nI_ge (b := 12) (by omega) (by omega)) (yl_in (k := u) (by omega) (by omega) hU ?_)
      cases e : lk_f C W u nm (M u) with
      | none => exact br_t yl_n (nm_e (hnext (fun i a b c => absurd ⟨b, c⟩ (lk_f_none.mp e i a))))
      | some i =>
        have hi := lk_f_some e
        have hiM : i < 50 := by have := hU.1; omega
        refine br_f (nI_pos (by omega)) ?_
        rw [ht]
        refine yl_def (f := 6) (by omega) (by omega) hR ?_
        cases e2 : lk_b K V L nm n with
        | some c =>
          have hc := lk_b_in (fun k hk => (hR k hk).1) e2
          refine br_f (nI_pos (by omega)) (nm_e ?_)
          rw [← ht]
          exact hnext (fun i a b c z => nomatch e2.symm.trans z.2)
        | none =>
          refine br_t (by decide) ⟨n + 1, ?_⟩
          rw [← ht]
          have inner : ∀ m2 k, k + m2 = n → (∀ k', k' < k → ¬ ∃ i, i < L k' ∧ lk_Q K V k' nm i) → wY_needed_37 post (wY_needed_2 post (nI u) g_place g_culprit g_listed g_units g_taken g_used g_depth g_waiting g_held g_fault g_steps g_result g_given g_gift g_has b_kind b_value b_size b_list b_library b_places b_memory b_wanted b_pc b_base b_locals b_waits b_got b_values (m + 1)) (nI u) (nI nm) g_place g_culprit g_listed g_units g_taken g_used g_depth g_waiting g_held g_fault g_steps g_result g_given g_gift g_has b_kind b_value b_size b_list b_library b_places b_memory b_wanted b_pc b_base b_locals b_waits b_got b_values (m2 + 1) (nI (6 + k)) := by
            intro m2
            induction m2 with
            | zero =>
              intro k hk hnk
              refine br_t (by rw [efn]; exact nI_le (by omega) (by omega)) (nm_e (hnext (fun i a b c z => ?_)))
              obtain ⟨k', x, y⟩ := z.1
              exact hnk k' (by omega) y
            | succ m2 ih2 =>
              intro k hk hnk
              refine br_f (by rw [efn]; exact nI_ge (by omega) (by omega)) (yl_wants (k := k) (by omega) (by omega) (hR k (by omega)) (fun hw => br_f (by decide) (h1 ?_)) (fun hw => br_t rfl (nm_r (nI_1 _) (ih2 (k + 1) (by omega) (fun k' hk' => ?_)))))
              · refine ⟨i, hi.1, hi.2.1.1, ?_, ?_⟩
                · rw [hi.2.1.2]; exact ⟨k, by omega, hw⟩
                · rw [hi.2.1.2]; exact e2
              · by_cases z : k' = k
                · subst z; exact hw
                · exact hnk k' (by omega)
          exact inner n 0 (by omega) (fun k h => absurd h (by omega))
  exact ⟨13, key 12 0 (by omega) (fun i _ _ h => absurd h (by omega))⟩
end
