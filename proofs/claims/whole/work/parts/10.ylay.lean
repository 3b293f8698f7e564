/-! laying out, and link as a whole, on the reference's side -/
def lk_p (K V : Nat → Nat → Nat) (L : Nat → Nat) (n c nm : Nat) : Int32 := match lk_b K V L nm n with
  | none => -1
  | some d => if K (d / 50) (d % 50) = 29 ∧ d < c then nI (lk_o K V L n d) else -1
theorem lk_p_no {K V : Nat → Nat → Nat} {L : Nat → Nat} {n c nm : Nat} (hL : ∀ k, k < n → L k ≤ 50) (h : lk_dt K V L n c = false) : lk_p K V L n (c + 1) nm = lk_p K V L n c nm := by
  unfold lk_p
  cases e : lk_b K V L nm n with
  | none => rfl
  | some d =>
    have hd := lk_b_in hL e
    show (if _ then _ else _) = (if _ then _ else _)
    by_cases z : K (d / 50) (d % 50) = 29 ∧ d < c
    · rw [if_pos z, if_pos ⟨z.1, by omega⟩]
    · rw [if_neg z]
      refine if_neg (fun q => ?_)
      have e2 : d = c := by omega
      subst e2
      have := of_decide_eq_false h
      refine this ⟨hd.2.1, q.1, ?_⟩
      rw [hd.2.2.2]; exact e
theorem lk_p_yes {K V : Nat → Nat → Nat} {L : Nat → Nat} {n c nm : Nat} (hL : ∀ k, k < n → L k ≤ 50) (h : lk_dt K V L n c = true) : lk_p K V L n (c + 1) nm = if nm = V (c / 50) (c % 50) % 16 then nI (lk_o K V L n c) else lk_p K V L n c nm := by
  have hc := of_decide_eq_true h
  by_cases z : nm = V (c / 50) (c % 50) % 16
  · rw [if_pos z]
    unfold lk_p
    rw [z, hc.2.2]
    exact if_pos ⟨hc.2.1, by omega⟩
  · rw [if_neg z]
    unfold lk_p
    cases e : lk_b K V L nm n with
    | none => rfl
    | some d =>
      have hd := lk_b_in hL e
      show (if _ then _ else _) = (if _ then _ else _)
      have : d ≠ c := fun q => by subst q; exact z hd.2.2.2.symm
      by_cases y : K (d / 50) (d % 50) = 29 ∧ d < c
      · rw [if_pos y, if_pos ⟨y.1, by omega⟩]
      · rw [if_neg y, if_neg (fun q => y ⟨q.1, by omega⟩)]
theorem lk_p_0 {K V : Nat → Nat → Nat} {L : Nat → Nat} {n nm : Nat} : lk_p K V L n 0 nm = -1 := by
  unfold lk_p
  split
  · rfl
  · exact if_neg (fun q => absurd q.2 (Nat.not_lt_zero _))
def lk_m (K V : Nat → Nat → Nat) (L : Nat → Nat) (n : Nat) (val : Nat → Int32) (c : Nat) (mem : Nat → Int32) : Prop := ∀ d, d < c → lk_dt K V L n d = true → ∀ s, s < lk_z V d → mem (lk_o K V L n d + s) = val d
theorem lk_m_no {K V : Nat → Nat → Nat} {L : Nat → Nat} {n c : Nat} {val mem : Nat → Int32} (h : lk_dt K V L n c = false) (hm : lk_m K V L n val c mem) : lk_m K V L n val (c + 1) mem := by
  intro d a b s e
  by_cases z : d = c
  · subst z; rw [h] at b; exact nomatch b
  · exact hm d (by omega) b s e
theorem lk_m_yes {K V : Nat → Nat → Nat} {L : Nat → Nat} {n c : Nat} {val mem mem' : Nat → Int32} (hm : lk_m K V L n val c mem) (h1 : ∀ j, j < lk_o K V L n c → mem' j = mem j) (h2 : ∀ s, s < lk_z V c → mem' (lk_o K V L n c + s) = val c) : lk_m K V L n val (c + 1) mem' := by
  intro d a b s e
  by_cases z : d = c
  · subst z; exact h2 s e
  · have h3 := lk_o_at b
    have h4 := @lk_o_mono K V L n (d + 1) c (by omega)
    rw [h1 _ (by omega)]
    exact hm d (by omega) b s e
/-- two memories laid out alike agree below the size -/
theorem lk_m_eq {K V : Nat → Nat → Nat} {L : Nat → Nat} {n : Nat} {val val' a b : Nat → Int32} : ∀ c, lk_m K V L n val c a → lk_m K V L n val' c b → (∀ d, d < c → lk_dt K V L n d = true → val d = val' d) → ∀ j, j < lk_o K V L n c → a j = b j := by
  intro c
  induction c with
  | zero => exact fun _ _ _ j h => absurd h (Nat.not_lt_zero _)
  | succ c ih =>
    intro ha hb hv j hj
    have ih' := ih (fun d x => ha d (by omega)) (fun d x => hb d (by omega)) (fun d x => hv d (by omega))
    cases e : lk_dt K V L n c with
    | false => rw [lk_o_no e] at hj; exact ih' j hj
    | true =>
      rw [lk_o_at e] at hj
      by_cases z : j < lk_o K V L n c
      · exact ih' j z
      · have h1 := ha c (by omega) e (j - lk_o K V L n c) (by omega)
        have h2 := hb c (by omega) e (j - lk_o K V L n c) (by omega)
        rw [show lk_o K V L n c + (j - lk_o K V L n c) = j by omega] at h1 h2
        rw [h1, h2]
        exact hv c (by omega) e
def yk_R (yk ys : Nat → Int32) : Prop := (∀ j, j < 800 → ∃ c, c ≤ 29 ∧ yk j = nI c) ∧ (∀ r, r < 16 → ∃ c, c ≤ 50 ∧ ys r = nI c)
/-- rows 11 and on hold rows 6 and on -/
def yl_C (yk yv ys kd vl sz : Nat → Int32) (n : Nat) : Prop := (∀ j, j < 550 → kd j = yk j ∧ vl j = yv j) ∧ (∀ r, r < 11 → sz r = ys r) ∧ (∀ k, k < n → sz (11 + k) = ys (6 + k) ∧ ∀ i, i < 50 → kd (550 + 50 * k + i) = yk (300 + 50 * k + i) ∧ vl (550 + 50 * k + i) = yv (300 + 50 * k + i)) ∧ yk_R kd sz
/-- rows 6 and on hold the units taken -/
def yl_G (yk yv ys kd vl sz : Nat → Int32) (n : Nat) (tk : Nat → Nat) : Prop := (∀ j, j < 300 → kd j = yk j ∧ vl j = yv j) ∧ (∀ r, r < 6 → sz r = ys r) ∧ (∀ k, k < n → sz (6 + k) = ys (tk k) ∧ ∀ i, i < 50 → kd (300 + 50 * k + i) = yk (50 * tk k + i) ∧ vl (300 + 50 * k + i) = yv (50 * tk k + i)) ∧ (∀ j, 550 ≤ j → kd j = yk j ∧ vl j = yv j) ∧ (∀ r, 11 ≤ r → sz r = ys r) ∧ yk_R kd sz
theorem yk_copy {yk ys : Nat → Int32} {f t c : Nat} (h : yk_R yk ys) (hf : f < 16) (ht : t < 16) (hc : c ≤ 50) : yk_R (kd_w yk (fun i => yk (50 * f + i)) t 50) (upd ys t (nI c)) := by
  constructor
  · intro j hj
    unfold kd_w
    split
    · exact h.1 _ (by omega)
    · exact h.1 j hj
  · intro r hr
    by_cases z : r = t
    · rw [z, pk_us]; exact ⟨c, hc, rfl⟩
    · rw [pk_un z]; exact h.2 r hr
section
variable {g_place g_culprit g_listed g_units g_taken g_used g_depth g_waiting g_held g_fault g_steps g_result g_given g_gift g_has : Int32} {b_kind b_value b_size b_list b_library b_places b_memory b_wanted b_pc b_base b_locals b_waits b_got b_values : Nat → Int32}
variable {K V : Nat → Nat → Nat} {L : Nat → Nat}
theorem yl_158 {post : SY → Prop} {n : Nat} (hn : n ≤ 5) (hp : ∀ kd vl sz, yl_C b_kind b_value b_size kd vl sz n → post (g_place, g_culprit, g_listed, nI n, g_taken, g_used, g_depth, g_waiting, g_held, g_fault, g_steps, g_result, g_given, g_gift, g_has, kd, vl, sz, b_list, b_library, b_places, b_memory, b_wanted, b_pc, b_base, b_locals, b_waits, b_got, b_values)) : ∀ m k kd vl sz, k + m = n → yl_C b_kind b_value b_size kd vl sz k → wY_lay_158 post (m + 1) (nI k) g_place g_culprit g_listed (nI n) g_taken g_used g_depth g_waiting g_held g_fault g_steps g_result g_given g_gift g_has kd vl sz b_list b_library b_places b_memory b_wanted b_pc b_base b_locals b_waits b_got b_values := by
  intro m
  induction m with
  | zero =>
    intro k kd vl sz hk hC
    refine br_t (nI_le (by omega) (by omega)) (hp kd vl sz ?_)
    rw [show n = k by omega]; exact hC
  | succ m ih =>
    intro k kd vl sz hk hC
    obtain ⟨c1, c2, c3, c4⟩ := hC
    refine br_f (nI_ge (by omega) (by omega)) ?_
    rw [show (6 : Int32) + nI k = nI (6 + k) from nI_add 6 k, show (11 : Int32) + nI k = nI (11 + k) from nI_add 11 k]
    obtain ⟨c, hc, hs⟩ := c4.2 (6 + k) (by omega)
    refine yu_copy (c := c) (by omega) (by omega) (by omega) (fun i hi => c4.1 _ (by omega)) hs hc ?_
    refine nm_r (nI_1 k) (ih (k + 1) _ _ _ (by omega) ⟨?_, ?_, ?_, yk_copy c4 (by omega) (by omega) hc⟩)
    · intro j hj
      rw [kd_out (by omega), kd_out (by omega)]
      exact c1 j hj
    · intro r hr
      rw [pk_un (by omega)]
      exact c2 r hr
    · intro k' hk'
      by_cases z : k' = k
      · subst z
        refine ⟨by rw [pk_us, ← hs]; exact c2 _ (by omega), fun i hi => ?_⟩
        rw [show 550 + 50 * k' + i = 50 * (11 + k') + i by omega, kd_in hi, kd_in hi, show 50 * (6 + k') + i = 300 + 50 * k' + i by omega]
        exact c1 _ (by omega)
      · refine ⟨by rw [pk_un (by omega)]; exact (c3 k' (by omega)).1, fun i hi => ?_⟩
        rw [kd_out (by omega), kd_out (by omega)]
        exact (c3 k' (by omega)).2 i hi
theorem yl_108 {post : SY → Prop} {J : Int32 → Int32 → (Nat → Int32) → (Nat → Int32) → (Nat → Int32) → (Nat → Int32) → (Nat → Int32) → (Nat → Int32) → (Nat → Int32) → (Nat → Int32) → (Nat → Int32) → (Nat → Int32) → (Nat → Int32) → (Nat → Int32) → (Nat → Int32) → (Nat → Int32) → Prop} {a o z : Nat} (ha : a < 799) (ho : o + z ≤ 48)
    (hJ : ∀ mem, (∀ j, j < o → mem j = b_memory j) → (∀ s, s < z → mem (o + s) = b_value (a + 1)) → J (nI (a + 1)) (nI (o + z)) b_kind b_value b_size b_list b_library b_places mem b_wanted b_pc b_base b_locals b_waits b_got b_values) :
    ∀ m w mem, w + m = z → (∀ j, j < o → mem j = b_memory j) → (∀ s, s < w → mem (o + s) = b_value (a + 1)) → wY_lay_108 post J (nI a) g_place g_culprit g_listed g_units g_taken g_depth g_waiting g_held g_fault g_steps g_result g_given g_gift g_has (m + 1) (nI m + (-1)) (nI (o + w)) b_kind b_value b_size b_list b_library b_places mem b_wanted b_pc b_base b_locals b_waits b_got b_values := by
  intro m
  induction m with
  | zero =>
    intro w mem hw h1 h2
    have e : w = z := by omega
    subst e
    exact br_t (by decide) (nm_r (nI_1 _) (hJ mem h1 h2))
  | succ m ih =>
    intro w mem hw h1 h2
    have e1 : nI a + 1 = nI (a + 1) := nI_1 a
    rw [pk_m1]
    refine br_f (nI_pos (by omega)) (nm_r (nI_1 _) ⟨pk_in (a + 1) 800 (by omega) e1, pk_in (o + w) 48 (by omega), nm_r (e' := upd mem (o + w) (b_value (a + 1))) (by rw [nI_clamp (by omega), e1, nI_clamp (by omega)]) (nm_e ?_)⟩)
    refine ih (w + 1) _ (by omega) (fun j hj => by rw [pk_un (by omega)]; exact h1 j hj) (fun s hs => ?_)
    by_cases z : s = w
    · rw [z, pk_us]
    · rw [pk_un (by omega)]; exact h2 s (by omega)
theorem yl_51 {post : SY → Prop} {n : Nat} (hn : n ≤ 5) (ht : g_taken = nI n) (hR : ∀ k, k < n → yr_R b_kind b_value b_size (6 + k) (K k) (V k) (L k)) (hyk : yk_R b_kind b_size) (hw : lk_o K V L n (50 * n) ≤ 48)
    (hp : ∀ kd vl sz pl mem, yl_C b_kind b_value b_size kd vl sz n → (∀ nm, nm < 12 → pl nm = lk_p K V L n (50 * n) nm) → lk_m K V L n (fun d => b_value (301 + d)) (50 * n) mem → post (g_place, g_culprit, g_listed, nI n, g_taken, nI (lk_o K V L n (50 * n)), g_depth, g_waiting, g_held, g_fault, g_steps, g_result, g_given, g_gift, g_has, kd, vl, sz, b_list, b_library, pl, mem, b_wanted, b_pc, b_base, b_locals, b_waits, b_got, b_values)) :
    ∀ m c pl mem, c + m = 50 * n → (∀ nm, nm < 12 → pl nm = lk_p K V L n c nm) → lk_m K V L n (fun d => b_value (301 + d)) c mem → wY_lay_51 post g_place g_culprit g_listed g_units g_taken g_depth g_waiting g_held g_fault g_steps g_result g_given g_gift g_has (m + 1) (nI (300 + c)) (nI (lk_o K V L n c)) b_kind b_value b_size b_list b_library pl mem b_wanted b_pc b_base b_locals b_waits b_got b_values := by
  have eend : (300 : Int32) + 50 * g_taken = nI (300 + 50 * n) := by rw [ht, show (50 : Int32) = nI 50 from rfl, pk_mul]; exact nI_add 300 _
  have hL : ∀ k, k < n → L k ≤ 50 := fun k hk => (hR k hk).1
  intro m
  induction m with
  | zero =>
    intro c pl mem hc h1 h2
    have e : c = 50 * n := by omega
    subst e
    refine br_t (by rw [eend]; exact nI_le (by omega) (by omega)) ⟨n + 1, ?_⟩
    rw [ht]
    exact yl_158 (post := post) hn (fun kd vl sz hC => by have := hp kd vl sz pl mem hC h1 h2; rw [ht] at this; exact this) n 0 b_kind b_value b_size (by omega) ⟨fun j _ => ⟨rfl, rfl⟩, fun r _ => rfl, fun k h => absurd h (by omega), hyk⟩
  | succ m ih =>
    intro c pl mem hc h1 h2
    have ec : (nI (300 + c)).toNatClampNeg = 300 + c := nI_clamp (by omega)
    have hin : vp_in (nI (300 + c)) 800 := pk_in (300 + c) 800 (by omega)
    refine br_f (by rw [eend]; exact nI_ge (by omega) (by omega)) (yl_data hn ht hR (by omega) (fun hd => br_f (by decide) ⟨hin, ?_⟩) (fun hd => br_t rfl (nm_r (nI_1 _) ?_)))
    · have hdt := of_decide_eq_true hd
      have hk : c / 50 < n := by omega
      obtain ⟨a1, a2, a3⟩ := (hR _ hk).2.2 _ hdt.1
      have h50 := hL _ hk
      rw [show 50 * (6 + c / 50) + c % 50 = 300 + c by omega] at a1 a2 a3
      obtain ⟨v1, v2, v3⟩ := tw_V a2 (Or.inr hdt.2.1)
      have e15 := tw_V16 a2 (Or.inr hdt.2.1)
      rw [a3] at v1 v2 v3 e15
      have hmono := @lk_o_mono K V L n (c + 1) (50 * n) (by omega)
      have hat := lk_o_at hd
      rw [ec, e15]
      refine ⟨pk_in _ 12 v3, nm_r (e' := upd pl (V (c / 50) (c % 50) % 16) (nI (lk_o K V L n c))) (by rw [nI_clamp (by omega), ba_nbb (by omega)]) ⟨hin, nm_r (e' := nI (lk_z V c) + (-1)) (by rw [v1, ba_sz (by omega)]; exact (pk_m1 _).symm) ⟨lk_z V c + 1, ?_⟩⟩⟩
      refine yl_108 (z := lk_z V c) (by omega) (by omega) (fun mem' m1 m2 => ?_) (lk_z V c) 0 mem (by omega) (fun j _ => rfl) (fun s h => absurd h (by omega))
      have := ih (c + 1) (upd pl (V (c / 50) (c % 50) % 16) (nI (lk_o K V L n c))) mem' (by omega) (fun nm hnm => ?_) (lk_m_yes h2 m1 (fun s hs => by rw [m2 s hs, show 300 + c + 1 = 301 + c by omega]))
      · rw [hat] at this
        exact this
      · rw [lk_p_yes hL hd]
        by_cases z : nm = V (c / 50) (c % 50) % 16
        · rw [if_pos z, z, pk_us]
        · rw [if_neg z, pk_un z]; exact h1 nm hnm
    · have := ih (c + 1) pl mem (by omega) (fun nm hnm => by rw [lk_p_no hL hd]; exact h1 nm hnm) (lk_m_no hd h2)
      rw [lk_o_no hd] at this
      exact this
theorem yl_lay {post : SY → Prop} {n : Nat} (hn : n ≤ 5) (ht : g_taken = nI n) (hR : ∀ k, k < n → yr_R b_kind b_value b_size (6 + k) (K k) (V k) (L k)) (hyk : yk_R b_kind b_size) (hw : lk_o K V L n (50 * n) ≤ 48)
    (hp : ∀ kd vl sz pl mem, yl_C b_kind b_value b_size kd vl sz n → (∀ nm, nm < 12 → pl nm = lk_p K V L n (50 * n) nm) → lk_m K V L n (fun d => b_value (301 + d)) (50 * n) mem → post (g_place, g_culprit, g_listed, nI n, g_taken, nI (lk_o K V L n (50 * n)), g_depth, g_waiting, g_held, g_fault, g_steps, g_result, g_given, g_gift, g_has, kd, vl, sz, b_list, b_library, pl, mem, b_wanted, b_pc, b_base, b_locals, b_waits, b_got, b_values)) : wpY_lay post (g_place, g_culprit, g_listed, g_units, g_taken, g_used, g_depth, g_waiting, g_held, g_fault, g_steps, g_result, g_given, g_gift, g_has, b_kind, b_value, b_size, b_list, b_library, b_places, b_memory, b_wanted, b_pc, b_base, b_locals, b_waits, b_got, b_values) := by
  have h28 : ∀ pl, (∀ nm, nm < 12 → pl nm = -1) → ∀ m k mem, k + m = 48 → wY_lay_28 post g_place g_culprit g_listed g_units g_taken 0 g_depth g_waiting g_held g_fault g_steps g_result g_given g_gift g_has (m + 1) (nI k) b_kind b_value b_size b_list b_library pl mem b_wanted b_pc b_base b_locals b_waits b_got b_values := by
    intro pl hpl m
    induction m with
    | zero =>
      intro k mem hk
      refine br_t (nI_le (a := 48) (by omega) (by omega)) ⟨50 * n + 1, ?_⟩
      exact yl_51 hn ht hR hyk hw hp (50 * n) 0 pl mem (by omega) (fun nm h => by rw [lk_p_0]; exact hpl nm h) (fun d h => absurd h (by omega))
    | succ m ih =>
      intro k mem hk
      exact br_f (nI_ge (b := 48) (by omega) (by omega)) ⟨pk_in k 48 (by omega), nm_e (nm_r (nI_1 k) (ih (k + 1) _ (by omega)))⟩
  have h7 : ∀ m k pl, k + m = 12 → (∀ nm, nm < k → pl nm = -1) → wY_lay_7 post g_place g_culprit g_listed g_units g_taken 0 g_depth g_waiting g_held g_fault g_steps g_result g_given g_gift g_has (m + 1) (nI k) b_kind b_value b_size b_list b_library pl b_memory b_wanted b_pc b_base b_locals b_waits b_got b_values := by
    intro m
    induction m with
    | zero =>
      intro k pl hk h
      exact br_t (nI_le (a := 12) (by omega) (by omega)) ⟨49, h28 pl (fun nm hnm => h nm (by omega)) 48 0 b_memory (by omega)⟩
    | succ m ih =>
      intro k pl hk h
      refine br_f (nI_ge (b := 12) (by omega) (by omega)) ⟨pk_in k 12 (by omega), nm_r (e' := upd pl k (-1)) (by rw [nI_clamp (by omega), ba_bm1]) (nm_r (nI_1 k) (ih (k + 1) _ (by omega) (fun nm hnm => ?_)))⟩
      by_cases z : nm = k
      · rw [z, pk_us]
      · rw [pk_un z]; exact h nm (by omega)
  exact ⟨13, h7 12 0 b_places (by omega) (fun nm h => absurd h (by omega))⟩
end
