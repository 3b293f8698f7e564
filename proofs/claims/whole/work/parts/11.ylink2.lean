/-! link as a whole, on the reference's side -/
section
variable {g_place g_culprit g_listed g_units g_taken g_used g_depth g_waiting g_held g_fault g_steps g_result g_given g_gift g_has : Int32} {b_kind b_value b_size b_list b_library b_places b_memory b_wanted b_pc b_base b_locals b_waits b_got b_values : Nat → Int32}
variable {K V : Nat → Nat → Nat} {L : Nat → Nat}
theorem yl_156 {post : Int32 → SY → Prop} {n : Nat} {r : Int32} (hn : n ≤ 5) (ht : g_taken = nI n) (hR : ∀ k, k < n → yr_R b_kind b_value b_size (6 + k) (K k) (V k) (L k)) (hyk : yk_R b_kind b_size)
    (h6 : 48 < lk_o K V L n (50 * n) → post 6 (g_place, g_culprit, g_listed, g_units, g_taken, g_used, g_depth, g_waiting, g_held, g_fault, g_steps, g_result, g_given, g_gift, g_has, b_kind, b_value, b_size, b_list, b_library, b_places, b_memory, b_wanted, b_pc, b_base, b_locals, b_waits, b_got, b_values))
    (hp : lk_o K V L n (50 * n) ≤ 48 → ∀ kd vl sz pl mem, yl_C b_kind b_value b_size kd vl sz n → (∀ nm, nm < 12 → pl nm = lk_p K V L n (50 * n) nm) → lk_m K V L n (fun d => b_value (301 + d)) (50 * n) mem → post 0 (g_place, g_culprit, g_listed, nI n, g_taken, nI (lk_o K V L n (50 * n)), g_depth, g_waiting, g_held, g_fault, g_steps, g_result, g_given, g_gift, g_has, kd, vl, sz, b_list, b_library, pl, mem, b_wanted, b_pc, b_base, b_locals, b_waits, b_got, b_values)) :
    ∀ m c, c + m = 50 * n → wY_link_156 post g_place g_culprit g_listed g_units g_taken g_used g_depth g_waiting g_held g_fault g_steps g_result g_given g_gift g_has b_kind b_value b_size b_list b_library b_places b_memory b_wanted b_pc b_base b_locals b_waits b_got b_values (m + 1) (nI (lk_o K V L n c)) (nI (300 + c)) := by
  have eend : (300 : Int32) + 50 * g_taken = nI (300 + 50 * n) := by rw [ht, show (50 : Int32) = nI 50 from rfl, pk_mul]; exact nI_add 300 _
  intro m
  induction m with
  | zero =>
    intro c hc
    have e : c = 50 * n := by omega
    subst e
    have hle := @lk_o_le K V L n (50 * n)
    refine br_t (by rw [eend]; exact nI_le (by omega) (by omega)) (pk_le (lk_o K V L n (50 * n)) 48 (fun h => ?_) (fun h => h6 h))
    exact yl_lay hn ht hR hyk h (hp h)
  | succ m ih =>
    intro c hc
    have ec : (nI (300 + c)).toNatClampNeg = 300 + c := nI_clamp (by omega)
    have hin : vp_in (nI (300 + c)) 800 := pk_in (300 + c) 800 (by omega)
    refine br_f (by rw [eend]; exact nI_ge (by omega) (by omega)) (yl_data hn ht hR (by omega) (fun hd => br_f (by decide) ⟨hin, ?_⟩) (fun hd => br_t rfl (nm_r (e' := nI (lk_o K V L n (c + 1))) (by rw [lk_o_no hd]; exact Int32.add_zero _) (nm_r (nI_1 _) (ih (c + 1) (by omega))))))
    have hdt := of_decide_eq_true hd
    have hk : c / 50 < n := by omega
    obtain ⟨a1, a2, a3⟩ := (hR _ hk).2.2 _ hdt.1
    rw [show 50 * (6 + c / 50) + c % 50 = 300 + c by omega] at a1 a2 a3
    obtain ⟨v1, v2, v3⟩ := tw_V a2 (Or.inr hdt.2.1)
    rw [a3] at v1 v2 v3
    refine nm_r (e' := nI (lk_o K V L n (c + 1))) (by rw [ec, v1, ba_sz (by omega), nI_1, nI_add, lk_o_at hd]; rfl) (nm_r (nI_1 _) (ih (c + 1) (by omega)))
theorem yl_118 {post : Int32 → SY → Prop} {n : Nat} {r cul : Int32} (hn : n ≤ 5) (ht : g_taken = nI n) (hcu : g_culprit = -1) (hR : ∀ k, k < n → yr_R b_kind b_value b_size (6 + k) (K k) (V k) (L k)) (hyk : yk_R b_kind b_size)
    (hZ : (∃ nm, nm < 12 ∧ r ≠ 0 ∧ lk_R K V L nm n r ∧ (∀ m, m < nm → lk_R K V L m n 0) ∧ cul = nI nm) ∨ ((∀ m, m < 12 → lk_R K V L m n 0) ∧ cul = -1 ∧ ((48 < lk_o K V L n (50 * n) ∧ r = 6) ∨ (lk_o K V L n (50 * n) ≤ 48 ∧ r = 0))))
    (hb : r ≠ 0 → post r (g_place, cul, g_listed, g_units, g_taken, g_used, g_depth, g_waiting, g_held, g_fault, g_steps, g_result, g_given, g_gift, g_has, b_kind, b_value, b_size, b_list, b_library, b_places, b_memory, b_wanted, b_pc, b_base, b_locals, b_waits, b_got, b_values))
    (hp : r = 0 → lk_o K V L n (50 * n) ≤ 48 → ∀ kd vl sz pl mem, yl_C b_kind b_value b_size kd vl sz n → (∀ nm, nm < 12 → pl nm = lk_p K V L n (50 * n) nm) → lk_m K V L n (fun d => b_value (301 + d)) (50 * n) mem → post 0 (g_place, cul, g_listed, nI n, g_taken, nI (lk_o K V L n (50 * n)), g_depth, g_waiting, g_held, g_fault, g_steps, g_result, g_given, g_gift, g_has, kd, vl, sz, b_list, b_library, pl, mem, b_wanted, b_pc, b_base, b_locals, b_waits, b_got, b_values)) :
    ∀ m nm, nm + m = 12 → (∀ q, q < nm → lk_R K V L q n 0) → wY_link_118 post g_place g_culprit g_listed g_units g_taken g_used g_depth g_waiting g_held g_fault g_steps g_result g_given g_gift g_has b_kind b_value b_size b_list b_library b_places b_memory b_wanted b_pc b_base b_locals b_waits b_got b_values (m + 1) (nI nm) := by
  intro m
  induction m with
  | zero =>
    intro nm hm hall
    refine br_t (nI_le (a := 12) (by omega) (by omega)) ⟨50 * n + 1, ?_⟩
    rcases hZ with ⟨q, h1, h2, h3, _⟩ | ⟨_, h2, h3⟩
    · exact absurd (lk_R_one h3 (hall q (by omega))) h2
    · subst h2
      rcases h3 with ⟨h3, e⟩ | ⟨h3, e⟩
      · subst e
        refine yl_156 (r := 6) hn ht hR hyk (fun _ => ?_) (fun h => absurd h (by omega)) (50 * n) 0 (by omega)
        have := hb (by decide)
        rw [hcu]; exact this
      · subst e
        refine yl_156 (r := 0) hn ht hR hyk (fun h => absurd h (by omega)) (fun h kd vl sz pl mem a b c => ?_) (50 * n) 0 (by omega)
        have := hp rfl h kd vl sz pl mem a b c
        rw [hcu]; exact this
  | succ m ih =>
    intro nm hm hall
    refine br_f (nI_ge (b := 12) (by omega) (by omega)) (yl_settled hn ht (by omega) hR (fun r' hr' => br_c (fun z => ?_) (fun z => ?_)))
    · subst z
      refine nm_r (nI_1 nm) (ih (nm + 1) (by omega) (fun q hq => ?_))
      by_cases y : q = nm
      · rw [y]; exact hr'
      · exact hall q (by omega)
    · rcases hZ with ⟨q, h1, h2, h3, h4, h5⟩ | ⟨h1, _⟩
      · have : q = nm := by
          by_cases a : q < nm
          · exact absurd (lk_R_one h3 (hall q a)) h2
          · by_cases b : nm < q
            · exact absurd (lk_R_one hr' (h4 nm b)) z
            · omega
        subst this
        rw [lk_R_one hr' h3, ← h5]
        exact hb h2
      · exact absurd (lk_R_one hr' (h1 nm (by omega))) z
theorem yl_85 {post : Int32 → SY → Prop} {n : Nat} {r cul : Int32} (hn : n ≤ 5) (ht : g_taken = nI n) (hcu : g_culprit = -1) (hR : ∀ k, k < n → yr_R b_kind b_value b_size (6 + k) (K k) (V k) (L k)) (hyk : yk_R b_kind b_size)
    (hZ : lk_Z K V L n r cul)
    (hb : r ≠ 0 → post r (g_place, cul, g_listed, g_units, g_taken, g_used, g_depth, g_waiting, g_held, g_fault, g_steps, g_result, g_given, g_gift, g_has, b_kind, b_value, b_size, b_list, b_library, b_places, b_memory, b_wanted, b_pc, b_base, b_locals, b_waits, b_got, b_values))
    (hp : r = 0 → lk_o K V L n (50 * n) ≤ 48 → ∀ kd vl sz pl mem, yl_C b_kind b_value b_size kd vl sz n → (∀ nm, nm < 12 → pl nm = lk_p K V L n (50 * n) nm) → lk_m K V L n (fun d => b_value (301 + d)) (50 * n) mem → post 0 (g_place, cul, g_listed, nI n, g_taken, nI (lk_o K V L n (50 * n)), g_depth, g_waiting, g_held, g_fault, g_steps, g_result, g_given, g_gift, g_has, kd, vl, sz, b_list, b_library, pl, mem, b_wanted, b_pc, b_base, b_locals, b_waits, b_got, b_values)) :
    ∀ m nm, nm + m = 12 → (∀ q, q < nm → lk_s K V L q n < 2) → wY_link_85 post g_place g_culprit g_listed g_units g_taken g_used g_depth g_waiting g_held g_fault g_steps g_result g_given g_gift g_has b_kind b_value b_size b_list b_library b_places b_memory b_wanted b_pc b_base b_locals b_waits b_got b_values (m + 1) (nI nm) := by
  have hs5 : ∀ nm, lk_s K V L nm n ≤ n := by
    intro nm
    have : ∀ n, lk_s K V L nm n ≤ n := by
      intro n
      induction n with
      | zero => exact Nat.le_refl _
      | succ n ih =>
        show lk_S1 K V n (lk_s K V L nm n) (lk_f K V n nm (L n)) ≤ _
        unfold lk_S1
        split
        · omega
        · split <;> omega
    exact this n
  intro m
  induction m with
  | zero =>
    intro nm hm hall
    refine br_t (nI_le (a := 12) (by omega) (by omega)) ⟨13, ?_⟩
    rcases hZ with ⟨q, h1, h2, _⟩ | ⟨_, hZ⟩
    · exact absurd (hall q (by omega)) (by omega)
    · exact yl_118 hn ht hcu hR hyk hZ hb hp 12 0 (by omega) (fun q h => absurd h (by omega))
  | succ m ih =>
    intro nm hm hall
    have := hs5 nm
    refine br_f (nI_ge (b := 12) (by omega) (by omega)) (yl_strong hn ht (by omega) hR (pk_le 2 (lk_s K V L nm n) (fun h => ?_) (fun h => nm_r (nI_1 nm) (ih (nm + 1) (by omega) (fun q hq => ?_)))))
    · rcases hZ with ⟨q, h1, h2, h3, h4, h5⟩ | ⟨h1, _⟩
      · have : q = nm := by
          by_cases a : q < nm
          · exact absurd (hall q a) (by omega)
          · by_cases b : nm < q
            · exact absurd (h3 nm b) (by omega)
            · omega
        subst this
        subst h4 h5
        exact hb (by decide)
      · exact absurd (h1 nm (by omega)) (by omega)
    · by_cases y : q = nm
      · rw [y]; exact h
      · exact hall q (by omega)
theorem yg_R {C W : Nat → Nat → Nat} {M tk : Nat → Nat} {kd vl sz : Nat → Int32} {n : Nat} (hU : ∀ u, u < 5 → yr_R b_kind b_value b_size u (C u) (W u) (M u)) (hG : yl_G b_kind b_value b_size kd vl sz n tk) (htk : ∀ k, k < n → tk k < 5) : (∀ u, u < 5 → yr_R kd vl sz u (C u) (W u) (M u)) ∧ (∀ k, k < n → yr_R kd vl sz (6 + k) (C (tk k)) (W (tk k)) (M (tk k))) := by
  obtain ⟨g1, g2, g3, _⟩ := hG
  constructor
  · intro u hu
    obtain ⟨a, b, c⟩ := hU u hu
    refine ⟨a, by rw [g2 u (by omega)]; exact b, fun i hi => ?_⟩
    have e := g1 (50 * u + i) (by omega)
    rw [e.1, e.2]
    exact c i hi
  · intro k hk
    have h5 := htk k hk
    obtain ⟨a, b, c⟩ := hU (tk k) h5
    refine ⟨a, by rw [(g3 k hk).1]; exact b, fun i hi => ?_⟩
    have e := (g3 k hk).2 i (by omega)
    rw [show 50 * (6 + k) + i = 300 + 50 * k + i by omega, e.1, e.2]
    exact c i hi
theorem yl_link {post : Int32 → SY → Prop} {C W : Nat → Nat → Nat} {M lst : Nat → Nat} {lib : Nat → Prop} {nl n : Nat} {tk : Nat → Nat} {r cul : Int32} (hnl : nl ≤ 5) (hl : g_listed = nI nl) (hlst : ∀ i, i < nl → lst i < 5 ∧ b_list i = nI (lst i)) (hlib : ∀ i, i < nl → (b_library i = 0 ↔ ¬ lib i)) (hU : ∀ u, u < 5 → yr_R b_kind b_value b_size u (C u) (W u) (M u)) (hyk : yk_R b_kind b_size)
    (hT : lk_T C W M lst lib nl = (n, tk))
    (hZ : lk_Z (fun k => C (tk k)) (fun k => W (tk k)) (fun k => M (tk k)) n r cul)
    (hb : r ≠ 0 → ∀ kd vl sz, yl_G b_kind b_value b_size kd vl sz n tk → post r (g_place, cul, 0, g_units, nI n, g_used, g_depth, g_waiting, g_held, g_fault, g_steps, g_result, g_given, g_gift, g_has, kd, vl, sz, b_list, b_library, b_places, b_memory, b_wanted, b_pc, b_base, b_locals, b_waits, b_got, b_values))
    (hp : r = 0 → ∀ kd0 vl0 sz0 kd vl sz pl mem, yl_G b_kind b_value b_size kd0 vl0 sz0 n tk → yl_C kd0 vl0 sz0 kd vl sz n → lk_o (fun k => C (tk k)) (fun k => W (tk k)) (fun k => M (tk k)) n (50 * n) ≤ 48 → (∀ nm, nm < 12 → pl nm = lk_p (fun k => C (tk k)) (fun k => W (tk k)) (fun k => M (tk k)) n (50 * n) nm) → lk_m (fun k => C (tk k)) (fun k => W (tk k)) (fun k => M (tk k)) n (fun d => vl0 (301 + d)) (50 * n) mem → post 0 (g_place, cul, 0, nI n, nI n, nI (lk_o (fun k => C (tk k)) (fun k => W (tk k)) (fun k => M (tk k)) n (50 * n)), g_depth, g_waiting, g_held, g_fault, g_steps, g_result, g_given, g_gift, g_has, kd, vl, sz, b_list, b_library, pl, mem, b_wanted, b_pc, b_base, b_locals, b_waits, b_got, b_values)) : wpY_link post (g_place, g_culprit, g_listed, g_units, g_taken, g_used, g_depth, g_waiting, g_held, g_fault, g_steps, g_result, g_given, g_gift, g_has, b_kind, b_value, b_size, b_list, b_library, b_places, b_memory, b_wanted, b_pc, b_base, b_locals, b_waits, b_got, b_values) := by
  have hin := fun l => @lk_T_in C W M lst lib l
  have key : ∀ m l kd vl sz, l + m = nl → yl_G b_kind b_value b_size kd vl sz (lk_T C W M lst lib l).1 (lk_T C W M lst lib l).2 → wY_link_12 post (m + 1) (nI l) g_place (-1) g_listed g_units (nI (lk_T C W M lst lib l).1) g_used g_depth g_waiting g_held g_fault g_steps g_result g_given g_gift g_has kd vl sz b_list b_library b_places b_memory b_wanted b_pc b_base b_locals b_waits b_got b_values := by
    intro m
    induction m with
    | zero =>
      intro l kd vl sz hlm hG
      have e : l = nl := by omega
      subst e
      rw [hT] at hG
      have hi := hin l (fun i hi => (hlst i hi).1)
      rw [hT] at hi
      obtain ⟨hR0, hR⟩ := yg_R hU hG hi.2
      have hi1 : n ≤ l := hi.1
      rw [hT]
      refine br_t (by rw [hl]; exact nI_le (by omega) (by omega)) ⟨13, ?_⟩
      refine yl_85 (by omega) rfl rfl hR hG.2.2.2.2.2 hZ (fun e => hb e kd vl sz hG) (fun e h kd' vl' sz' pl mem a b c => hp e kd vl sz kd' vl' sz' pl mem hG a h b c) 12 0 (by omega) (fun q h => absurd h (by omega))
    | succ m ih =>
      intro l kd vl sz hlm hG
      have hi := hin l (fun i hi => (hlst i (by omega)).1)
      obtain ⟨hR0, hR⟩ := yg_R hU hG hi.2
      obtain ⟨hl5, hle⟩ := hlst l (by omega)
      have ec : (nI l).toNatClampNeg = l := nI_clamp (by omega)
      have hinl : vp_in (nI l) 5 := pk_in l 5 (by omega)
      refine br_f (by rw [hl]; exact nI_ge (by omega) (by omega)) ⟨hinl, ?_⟩
      have htake : (¬ lib l ∨ lk_O C W M (lst l) (fun k => C ((lk_T C W M lst lib l).2 k)) (fun k => W ((lk_T C W M lst lib l).2 k)) (fun k => M ((lk_T C W M lst lib l).2 k)) (lk_T C W M lst lib l).1) → wY_link_45 post (wY_link_12 post (m + 1)) (nI l) g_place (-1) g_listed g_units (nI (lk_T C W M lst lib l).1) g_used g_depth g_waiting g_held g_fault g_steps g_result g_given g_gift g_has kd vl sz b_list b_library b_places b_memory b_wanted b_pc b_base b_locals b_waits b_got b_values := by
        intro hc
        have eT : lk_T C W M lst lib (l + 1) = ((lk_T C W M lst lib l).1 + 1, fun k => if k = (lk_T C W M lst lib l).1 then lst l else (lk_T C W M lst lib l).2 k) := lk_T_yes hc
        have ihl := ih (l + 1)
        rw [eT] at ihl
        refine ⟨hinl, ?_⟩
        rw [ec, hle, show (6 : Int32) + nI (lk_T C W M lst lib l).1 = nI (6 + (lk_T C W M lst lib l).1) from nI_add 6 _]
        generalize (lk_T C W M lst lib l).1 = n0 at *
        generalize (lk_T C W M lst lib l).2 = tk0 at *
        obtain ⟨g1, g2, g3, g4, g5, g6⟩ := hG
        have hin0 : n0 ≤ l := hi.1
        obtain ⟨c, hc5, hcs⟩ := g6.2 (lst l) (by omega)
        refine yu_copy (c := c) (by omega) (by omega) (by omega) (fun i hi => g6.1 _ (by omega)) hcs hc5 ?_
        refine nm_r (nI_1 _) (nm_r (nI_1 _) (ihl _ _ _ (by omega) ⟨?_, ?_, ?_, ?_, ?_, yk_copy g6 (by omega) (by omega) hc5⟩))
        · intro j hj
          rw [kd_out (by omega), kd_out (by omega)]
          exact g1 j hj
        · intro r hr
          rw [pk_un (by omega)]
          exact g2 r hr
        · intro k hk
          have hk' : k < n0 + 1 := hk
          by_cases z : k = n0
          · subst z
            show upd sz (6 + k) (nI c) (6 + k) = b_size (if k = k then lst l else tk0 k) ∧ ∀ i, i < 50 → _
            rw [pk_us, if_pos rfl]
            refine ⟨by rw [← hcs]; exact g2 _ (by omega), fun i hi => ?_⟩
            show kd_w kd _ (6 + k) 50 _ = b_kind (50 * (if k = k then lst l else tk0 k) + i) ∧ kd_w vl _ (6 + k) 50 _ = b_value (50 * (if k = k then lst l else tk0 k) + i)
            rw [if_pos rfl, show 300 + 50 * k + i = 50 * (6 + k) + i by omega, kd_in hi, kd_in hi]
            exact g1 _ (by omega)
          · show upd sz (6 + n0) (nI c) (6 + k) = b_size (if k = n0 then lst l else tk0 k) ∧ ∀ i, i < 50 → kd_w kd _ (6 + n0) 50 _ = b_kind (50 * (if k = n0 then lst l else tk0 k) + i) ∧ kd_w vl _ (6 + n0) 50 _ = b_value (50 * (if k = n0 then lst l else tk0 k) + i)
            rw [if_neg z, pk_un (by omega)]
            refine ⟨(g3 k (by omega)).1, fun i hi => ?_⟩
            rw [kd_out (by omega), kd_out (by omega)]
            exact (g3 k (by omega)).2 i hi
        · intro j hj
          rw [kd_out (by omega), kd_out (by omega)]
          exact g4 j hj
        · intro r hr
          rw [pk_un (by omega)]
          exact g5 r hr
      have hskip : lib l → ¬ lk_O C W M (lst l) (fun k => C ((lk_T C W M lst lib l).2 k)) (fun k => W ((lk_T C W M lst lib l).2 k)) (fun k => M ((lk_T C W M lst lib l).2 k)) (lk_T C W M lst lib l).1 → wY_link_12 post (m + 1) (nI (l + 1)) g_place (-1) g_listed g_units (nI (lk_T C W M lst lib l).1) g_used g_depth g_waiting g_held g_fault g_steps g_result g_given g_gift g_has kd vl sz b_list b_library b_places b_memory b_wanted b_pc b_base b_locals b_waits b_got b_values := by
        intro h1 h2
        have eT : lk_T C W M lst lib (l + 1) = lk_T C W M lst lib l := lk_T_no (fun q => q.elim (fun q => q h1) h2)
        have := ih (l + 1) kd vl sz (by omega)
        rw [eT] at this
        exact this hG
      rw [ec]
      refine br_c (fun z => htake (Or.inl ((hlib l (by omega)).mp z))) (fun z => ⟨hinl, ?_⟩)
      have hlb : lib l := Classical.byContradiction (fun q => z ((hlib l (by omega)).mpr q))
      rw [hle]
      have hi1 : (lk_T C W M lst lib l).1 ≤ l := hi.1
      exact yl_needed (C := C) (W := W) (M := M) (by omega) hl5 rfl (hR0 _ hl5) hR (fun ho => br_f (by decide) (htake (Or.inr ho))) (fun ho => br_t rfl (nm_r (nI_1 l) (hskip hlb ho)))
  refine ⟨nl + 1, ?_⟩
  exact key nl 0 b_kind b_value b_size (by omega) ⟨fun j _ => ⟨rfl, rfl⟩, fun r _ => rfl, fun k h => absurd h (Nat.not_lt_zero _), fun j _ => ⟨rfl, rfl⟩, fun r _ => rfl, hyk⟩
end
