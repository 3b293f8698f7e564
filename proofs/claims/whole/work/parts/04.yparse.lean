/-! the reference's parse -/
section
variable {g_place g_culprit g_listed g_units g_taken g_used g_depth g_waiting g_held g_fault g_steps g_result g_given g_gift g_has : Int32} {b_kind b_value b_size b_list b_library b_places b_memory b_wanted b_pc b_base b_locals b_waits b_got b_values : Nat → Int32}
variable {K N : Nat → Nat}
theorem yo_ops {post : Int32 → Prop} {p c : Nat} (hp : p < 800) (hk : b_kind p = nI c) (h : tk_P c (b_value p)) (hpost : post (nI (tk_n c (b_value p).toNatClampNeg))) : wpY_operands post (g_place, g_culprit, g_listed, g_units, g_taken, g_used, g_depth, g_waiting, g_held, g_fault, g_steps, g_result, g_given, g_gift, g_has, b_kind, b_value, b_size, b_list, b_library, b_places, b_memory, b_wanted, b_pc, b_base, b_locals, b_waits, b_got, b_values) (nI p) := by
  have h9 := h.1
  have ec : (nI p).toNatClampNeg = p := nI_clamp (by omega)
  refine ⟨pk_in p 800 hp, nm_r (e' := nI c) (by rw [ec, hk]) ?_⟩
  have h39 : ¬ c < 4 → c ≠ 5 → ¬ (c < 18 ∧ 5 < c) → wY_operands_39 post (nI c) g_place g_culprit g_listed g_units g_taken g_used g_depth g_waiting g_held g_fault g_steps g_result g_given g_gift g_has b_kind b_value b_size b_list b_library b_places b_memory b_wanted b_pc b_base b_locals b_waits b_got b_values := by
    intro a1 a2 a3
    have e0 : tk_n c (b_value p).toNatClampNeg = if c = 21 then 2 else if c = 23 then 0 else if c ≤ 26 then 1 else 0 := by
      unfold tk_n
      rw [if_neg a1, if_neg a2, if_neg a3]
    rw [e0] at hpost
    refine pk_eq c 21 (fun e => ?_) (fun e => pk_eq c 23 (fun e2 => ?_) (fun e2 => pk_le c 26 (fun e3 => ?_) (fun e3 => ?_)))
    · rw [if_pos e] at hpost; exact hpost
    · rw [if_neg e, if_pos e2] at hpost; exact hpost
    · rw [if_neg e, if_neg e2, if_pos e3] at hpost; exact hpost
    · rw [if_neg e, if_neg e2, if_neg (by omega)] at hpost; exact hpost
  refine pk_le 4 c (fun h4 => pk_eq c 5 (fun e => ⟨pk_in p 800 hp, ?_⟩) (fun e => pk_le 18 c (fun h18 => h39 (by omega) e (by omega)) (fun h18 => pk_lt 5 c (fun h5 => ?_) (fun h5 => h39 (by omega) e (by omega))))) (fun h4 => ?_)
  · obtain ⟨m, hm, _, ev⟩ := h.2.2.2.2.1 e
    rw [ec, ev, ba_shr4 (by omega)]
    rw [ev, nI_clamp (by omega), e] at hpost
    exact hpost
  · have e0 : tk_n c (b_value p).toNatClampNeg = 2 := by
      unfold tk_n
      rw [if_neg (by omega), if_neg e, if_pos (by omega)]
    rw [e0] at hpost; exact hpost
  · have e0 : tk_n c (b_value p).toNatClampNeg = 0 := by
      unfold tk_n
      rw [if_pos (by omega)]
    rw [e0] at hpost; exact hpost
theorem ym_252 {post : Int32 → SY → Prop} {J : Int32 → Int32 → (Nat → Int32) → (Nat → Int32) → (Nat → Int32) → (Nat → Int32) → (Nat → Int32) → (Nat → Int32) → (Nat → Int32) → (Nat → Int32) → (Nat → Int32) → (Nat → Int32) → (Nat → Int32) → (Nat → Int32) → (Nat → Int32) → (Nat → Int32) → Prop} {i n t : Nat} (ht : t + n ≤ 200) : ∀ m k w, k + m = n → (∀ j, j < t → w j = b_wanted j) → (∀ j, t ≤ j → j < t + k → w j = 1)
    → (∀ w', (∀ j, j < t → w' j = b_wanted j) → (∀ j, t ≤ j → j < t + n → w' j = 1) → J (nI (t + n)) (nI (i + 1)) b_kind b_value b_size b_list b_library b_places b_memory w' b_pc b_base b_locals b_waits b_got b_values) → wY_misfit_252 post J (nI i) (nI n) g_place g_culprit g_listed g_units g_taken g_used g_depth g_waiting g_held g_fault g_steps g_result g_given g_gift g_has (m + 1) (nI (t + k)) (nI k) b_kind b_value b_size b_list b_library b_places b_memory w b_pc b_base b_locals b_waits b_got b_values := by
  intro m
  induction m with
  | zero =>
    intro k w hk h1 h2 hJ
    have e : k = n := by omega
    subst e
    exact br_t (nI_le (Nat.le_refl _) (by omega)) (nm_r (nI_1 i) (hJ w h1 h2))
  | succ m ih =>
    intro k w hk h1 h2 hJ
    refine br_f (nI_ge (by omega) (by omega)) (nm_r (nI_1 _) ⟨pk_in (t + k) 200 (by omega), nm_r (e' := upd w (t + k) 1) (by rw [nI_clamp (by omega)]; exact congrArg _ (ba_nb (n := 1) (by omega))) (nm_r (nI_1 k) ?_)⟩)
    have := ih (k + 1) (upd w (t + k) 1) (by omega) (fun j hj => by rw [pk_un (by omega), h1 j hj]) (fun j hj hj2 => by
      by_cases z : j = t + k
      · rw [z, pk_us]
      · rw [pk_un z, h2 j hj (by omega)]) hJ
    exact this
/-- what the stack of wants holds -/
def ym_g (K : Nat → Nat) (o : Nat) : Int32 := if K o = 22 then 3 else 2
def ym_I (K N : Nat → Nat) (i : Nat) (w : Nat → Int32) : Prop := sk_ar (ym_g K) w (sk_st K i) ∧ ∀ j, (sk_st K i).length ≤ j → j < (sk_st K i).length + sk_d K N i → w j = if 0 < i ∧ K (i - 1) = 29 then 4 else 1
theorem ym_228 {post : Int32 → SY → Prop} {J : Int32 → Int32 → (Nat → Int32) → (Nat → Int32) → (Nat → Int32) → (Nat → Int32) → (Nat → Int32) → (Nat → Int32) → (Nat → Int32) → (Nat → Int32) → (Nat → Int32) → (Nat → Int32) → (Nat → Int32) → (Nat → Int32) → (Nat → Int32) → (Nat → Int32) → Prop} {i t : Nat} {x4 : Int32} {w : Nat → Int32} (hi : i < 50) (hx : ¬ x4 = 4) (hK : b_kind (250 + i) = nI (K i)) (hP : tk_P (K i) (b_value (250 + i))) (hN : N i = tk_n (K i) (b_value (250 + i)).toNatClampNeg) (ht : t + N i ≤ 200)
    (hJ : ∀ w', (∀ j, j < t → w' j = w j) → (∀ j, t ≤ j → j < t + N i → w' j = 1) → J (nI (t + N i)) (nI (i + 1)) b_kind b_value b_size b_list b_library b_places b_memory w' b_pc b_base b_locals b_waits b_got b_values) : wY_misfit_228 post J (nI t) (nI i) x4 g_place g_culprit g_listed g_units g_taken g_used g_depth g_waiting g_held g_fault g_steps g_result g_given g_gift g_has b_kind b_value b_size b_list b_library b_places b_memory w b_pc b_base b_locals b_waits b_got b_values := by
  refine br_f hx ?_
  rw [show (250 : Int32) + nI i = nI (250 + i) from nI_add 250 i]
  refine yo_ops (by omega) hK hP ?_
  rw [← hN]
  exact ⟨N i + 1, ym_252 ht (N i) 0 w (by omega) (fun j _ => rfl) (fun j a b => absurd a (by omega)) hJ⟩
theorem ym_159n {post : Int32 → SY → Prop} {J : Int32 → Int32 → (Nat → Int32) → (Nat → Int32) → (Nat → Int32) → (Nat → Int32) → (Nat → Int32) → (Nat → Int32) → (Nat → Int32) → (Nat → Int32) → (Nat → Int32) → (Nat → Int32) → (Nat → Int32) → (Nat → Int32) → (Nat → Int32) → (Nat → Int32) → Prop} {x1 x2 x4 : Int32} {k : Nat} (h9 : k ≤ 29) (h1 : k ≠ 23) (h2 : k ≠ 28) (h3 : k ≠ 24) (h4 : k ≠ 22) (h5 : k ≠ 29) (h : wY_misfit_228 post J x1 x2 x4 g_place g_culprit g_listed g_units g_taken g_used g_depth g_waiting g_held g_fault g_steps g_result g_given g_gift g_has b_kind b_value b_size b_list b_library b_places b_memory b_wanted b_pc b_base b_locals b_waits b_got b_values) : wY_misfit_159 post J x1 x2 (nI k) x4 g_place g_culprit g_listed g_units g_taken g_used g_depth g_waiting g_held g_fault g_steps g_result g_given g_gift g_has b_kind b_value b_size b_list b_library b_places b_memory b_wanted b_pc b_base b_locals b_waits b_got b_values :=
  br_f (ba_ne (b := 23) (by omega) (by omega) h1) (br_f (ba_ne (b := 28) (by omega) (by omega) h2) (br_f (ba_ne (b := 24) (by omega) (by omega) h3) (br_f (ba_ne (b := 22) (by omega) (by omega) h4) (br_f (ba_ne (b := 29) (by omega) (by omega) h5) h))))
theorem ym_body {post : Int32 → SY → Prop} {J : Int32 → Int32 → (Nat → Int32) → (Nat → Int32) → (Nat → Int32) → (Nat → Int32) → (Nat → Int32) → (Nat → Int32) → (Nat → Int32) → (Nat → Int32) → (Nat → Int32) → (Nat → Int32) → (Nat → Int32) → (Nat → Int32) → (Nat → Int32) → (Nat → Int32) → Prop} {i : Nat} {w : Nat → Int32} (hi : i < 50) (hK : b_kind (250 + i) = nI (K i)) (hP : tk_P (K i) (b_value (250 + i))) (hN : N i = tk_n (K i) (b_value (250 + i)).toNatClampNeg) (hd : sk_d K N i ≤ 3 * i) (hI : ym_I K N i w) (hop : sk_op K i (sk_st K i)) (hall : ∀ j, j < i → sk_fit K N j)
    (hJ : sk_fit K N i → ∀ w', ym_I K N (i + 1) w' → J (nI ((sk_st K (i + 1)).length + sk_d K N (i + 1))) (nI (i + 1)) b_kind b_value b_size b_list b_library b_places b_memory w' b_pc b_base b_locals b_waits b_got b_values) (h0 : ¬ sk_fit K N i → post (nI i) (g_place, g_culprit, g_listed, g_units, g_taken, g_used, g_depth, g_waiting, g_held, g_fault, g_steps, g_result, g_given, g_gift, g_has, b_kind, b_value, b_size, b_list, b_library, b_places, b_memory, w, b_pc, b_base, b_locals, b_waits, b_got, b_values)) :
    ((nI ((sk_st K i).length + sk_d K N i) = 0 → wY_misfit_41 post J (nI ((sk_st K i).length + sk_d K N i)) (nI i) (nI (K i)) 0 g_place g_culprit g_listed g_units g_taken g_used g_depth g_waiting g_held g_fault g_steps g_result g_given g_gift g_has b_kind b_value b_size b_list b_library b_places b_memory w b_pc b_base b_locals b_waits b_got b_values) ∧ (¬ nI ((sk_st K i).length + sk_d K N i) = 0 → (vp_in (nI ((sk_st K i).length + sk_d K N i) - 1) 200 ∧ wY_misfit_41 post J (nI ((sk_st K i).length + sk_d K N i)) (nI i) (nI (K i)) (w (nI ((sk_st K i).length + sk_d K N i) - 1).toNatClampNeg) g_place g_culprit g_listed g_units g_taken g_used g_depth g_waiting g_held g_fault g_steps g_result g_given g_gift g_has b_kind b_value b_size b_list b_library b_places b_memory w b_pc b_base b_locals b_waits b_got b_values))) := by
  have hb := sk_B_le K i
  have h9 := hP.1
  have hn3 := tk_n3 hP
  rw [← hN] at hn3
  have hd1 : sk_d K N (i + 1) = sk_d K N i - 1 + (if K i = 29 then 1 else N i) := rfl
  by_cases ha : 0 < i ∧ K (i - 1) = 29
  · -- behind DATA
    have hs := sk_after1 (hall (i - 1) (by omega)) ha.2
    rw [show i - 1 + 1 = i by omega] at hs
    have ef : sk_fit K N i = (K i = 0) := if_pos ha
    rw [ef] at h0 hJ
    have e1 : (sk_st K i).length + sk_d K N i = 1 := by rw [hs.1, hs.2]; rfl
    have hw := hI.2 0 (by rw [hs.1]; exact Nat.le_refl _) (by omega)
    rw [if_pos ha] at hw
    rw [e1]
    refine br_f (by decide) ⟨pk_in 0 200 (by omega) (by decide), ?_⟩
    have ew : w ((nI 1 - 1 : Int32)).toNatClampNeg = 4 := by rw [show (nI 1 - 1 : Int32).toNatClampNeg = 0 by decide]; exact hw
    rw [ew]
    refine br_f (by decide) (br_f (by decide) (br_t rfl (pk_eq (K i) 0 (fun hz => ?_) (fun hz => ?_))))
    · refine br_f (by decide) (br_f (by decide) (br_t rfl (nm_r (e' := nI 0) (by decide) ?_)))
      refine ym_159n h9 (by omega) (by omega) (by omega) (by omega) (by omega) (br_t rfl ⟨1, ?_⟩)
      refine ym_252 (t := 0) (n := 0) (by omega) 0 0 w (by omega) (fun j _ => rfl) (fun j a b => absurd a (by omega)) (fun w' a b => ?_)
      have hn0 : N i = 0 := by rw [hN, hz]; rfl
      have es : sk_st K (i + 1) = [] := by rw [sk_st_same (by omega) (by omega) (by omega) (by omega) (by omega), hs.1]
      have ed : sk_d K N (i + 1) = 0 := by rw [hd1, if_neg (by omega), hs.2, hn0]
      have := hJ hz w' ⟨by rw [es]; exact trivial, fun j c d => by rw [es, ed] at d; exact absurd d (Nat.not_lt_zero _)⟩
      rw [es, ed] at this
      exact this
    · exact br_t rfl (h0 hz)
  · have ef : sk_fit K N i = sk_fit2 K N i := if_neg ha
    rw [ef] at h0 hJ
    have hw1 : ∀ j, (sk_st K i).length ≤ j → j < (sk_st K i).length + sk_d K N i → w j = 1 := fun j a b => by rw [hI.2 j a b, if_neg ha]
    by_cases hdz : 0 < sk_d K N i
    · -- an operand is due
      have ef2 : sk_fit2 K N i = (K i ≤ 18) := if_pos hdz
      rw [ef2] at h0 hJ
      have e1 : nI ((sk_st K i).length + sk_d K N i) - 1 = nI ((sk_st K i).length + sk_d K N i - 1) := ba_s1 (by omega)
      refine br_f (nI_ne0 (by omega) (by omega)) ⟨pk_in ((sk_st K i).length + sk_d K N i - 1) 200 (by omega) e1, ?_⟩
      have ew : w (nI ((sk_st K i).length + sk_d K N i) - 1).toNatClampNeg = 1 := by
        rw [e1, nI_clamp (by omega)]
        exact hw1 _ (by omega) (by omega)
      rw [ew]
      refine br_f (by decide) (br_t rfl (pk_lt 18 (K i) (fun hz => br_t rfl (h0 (by omega))) (fun hz => ?_)))
      refine br_f (by decide) (br_t rfl (nm_r (e' := nI ((sk_st K i).length + sk_d K N i - 1)) (by rw [← e1]; exact (Int32.sub_eq_add_neg _ _).symm) ?_))
      have es : sk_st K (i + 1) = sk_st K i := sk_st_same (by omega) (by omega) (by omega) (by omega) (by omega)
      have ed : sk_d K N (i + 1) = sk_d K N i - 1 + N i := by rw [hd1, if_neg (by omega)]
      refine ym_159n h9 (by omega) (by omega) (by omega) (by omega) (by omega) (ym_228 hi (by decide) hK hP hN (by omega) (fun w' a b => ?_))
      have := hJ hz w' ⟨by rw [es]; exact sk_ar_ext _ hI.1 (fun j hj => a j (by omega)), fun j c d => by
        rw [es] at c d
        rw [if_neg (by rw [Nat.add_sub_cancel]; omega)]
        by_cases z : j < (sk_st K i).length + sk_d K N i - 1
        · rw [a j z, hw1 j c (by omega)]
        · exact b j (by omega) (by omega)⟩
      rw [es, ed, show (sk_st K i).length + (sk_d K N i - 1 + N i) = (sk_st K i).length + sk_d K N i - 1 + N i by omega] at this
      exact this
    · have ef2 : sk_fit2 K N i = sk_fit3 K (K i) (sk_st K i) := if_neg hdz
      rw [ef2] at h0 hJ
      have hd0 : sk_d K N i = 0 := by omega
      have hfin : ∀ (t : Nat) (w0 : Nat → Int32) (x4 : Int32), K i ≠ 29 → ¬ x4 = 4 → t = (sk_st K (i + 1)).length → sk_ar (ym_g K) w0 (sk_st K (i + 1)) → sk_fit3 K (K i) (sk_st K i) → wY_misfit_228 post J (nI t) (nI i) x4 g_place g_culprit g_listed g_units g_taken g_used g_depth g_waiting g_held g_fault g_steps g_result g_given g_gift g_has b_kind b_value b_size b_list b_library b_places b_memory w0 b_pc b_base b_locals b_waits b_got b_values := by
        intro t w0 x4 hne hx et har0 hf
        have hb1 := sk_B_le K (i + 1)
        refine ym_228 hi hx hK hP hN (by omega) (fun w' a b => ?_)
        have ed : sk_d K N (i + 1) = N i := by rw [hd1, if_neg hne, hd0]; omega
        have := hJ hf w' ⟨sk_ar_ext _ har0 (fun j hj => a j (by omega)), fun j c d => by
          rw [if_neg (by rw [Nat.add_sub_cancel]; omega)]
          exact b j (by omega) (by omega)⟩
        rw [ed, ← et] at this
        exact this
      cases es : sk_st K i with
      | nil =>
        rw [es] at h0 hJ hfin
        rw [hd0]
        refine br_t rfl (br_t rfl (pk_lt (K i) 28 (fun hz => br_t rfl (h0 (fun z => by rcases z with z | z <;> omega))) (fun hz => ?_)))
        refine br_f (by decide) (br_f (by decide) (br_f (by decide) (br_f (ba_ne (b := 27) (by omega) (by omega) (by omega)) (br_f (ba_ne (b := 23) (by omega) (by omega) (by omega)) (pk_eq (K i) 28 (fun e => ?_) (fun e => ?_))))))
        · refine nm_r (e' := nI 1) (by decide) ⟨pk_in 0 200 (by omega) rfl, nm_r (e' := upd w 0 2) (congrArg (upd w 0) (ba_nb (n := 2) (by omega))) ?_⟩
          refine br_f (ba_ne (b := 22) (by omega) (by omega) (by omega)) (br_f (ba_ne (b := 29) (by omega) (by omega) (by omega)) ?_)
          have es2 : sk_st K (i + 1) = [i] := by rw [sk_st_push (Or.inl e), es]
          exact hfin 1 _ 0 (by omega) (by decide) (by rw [es2]; rfl) (by rw [es2]; exact ⟨by rw [show ([] : List Nat).length = 0 from rfl, pk_us]; exact (if_neg (by omega)).symm, trivial⟩) (Or.inl e)
        · have e29 : K i = 29 := by omega
          refine br_f (ba_ne (b := 24) (by omega) (by omega) (by omega)) (br_f (ba_ne (b := 22) (by omega) (by omega) (by omega)) (br_t (by rw [e29]; rfl) (nm_r (e' := nI 1) (by decide) ⟨pk_in 0 200 (by omega) rfl, nm_r (e' := upd w 0 4) (congrArg (upd w 0) (ba_nb (n := 4) (by omega))) ?_⟩)))
          have hn0 : N i = 0 := by rw [hN, e29]; rfl
          refine ym_228 hi (by decide) hK hP hN (by omega) (fun w' a b => ?_)
          have es2 : sk_st K (i + 1) = [] := by rw [sk_st_same (by omega) (by omega) (by omega) (by omega) (by omega), es]
          have ed : sk_d K N (i + 1) = 1 := by rw [hd1, if_pos e29, hd0]
          have := hJ (Or.inr e29) w' ⟨by rw [es2]; exact trivial, fun j c d => by
            rw [es2, ed] at d
            rw [if_pos ⟨by omega, by rw [Nat.add_sub_cancel]; exact e29⟩, a j (by simpa using d), show j = 0 from by have : j < 0 + 1 := d; omega, pk_us]⟩
          rw [es2, ed] at this
          rw [hn0]
          exact this
      | cons o l =>
        rw [es] at h0 hJ hfin hop hb
        have hl : l.length + 1 ≤ i := hb
        have ho : o < i := hop.1.1
        have har := hI.1
        rw [es] at har
        rw [hd0]
        have e1 : nI ((o :: l).length + 0) - 1 = nI l.length := nI_pred _
        have ew : w (nI ((o :: l).length + 0) - 1).toNatClampNeg = ym_g K o := by
          rw [e1, nI_clamp (by omega)]; exact har.1
        refine br_f (nI_ne0 (Nat.succ_pos _) (by show l.length + 1 < _; omega)) ⟨pk_in l.length 200 (by omega) e1, ?_⟩
        rw [ew]
        have eg : ym_g K o = 2 ∧ K o ≠ 22 ∨ ym_g K o = 3 ∧ K o = 22 := by
          unfold ym_g
          by_cases z : K o = 22
          · rw [if_pos z]; exact Or.inr ⟨rfl, z⟩
          · rw [if_neg z]; exact Or.inl ⟨rfl, z⟩
        have g0 : ¬ ym_g K o = 0 := by rcases eg with e | e <;> rw [e.1] <;> decide
        have g1 : ¬ ym_g K o = 1 := by rcases eg with e | e <;> rw [e.1] <;> decide
        have g4 : ¬ ym_g K o = 4 := by rcases eg with e | e <;> rw [e.1] <;> decide
        have e3 : ∀ z : K i ≠ 23, sk_fit3 K (K i) (o :: l) = (20 ≤ K i ∧ K i ≤ 27) := fun z => if_neg z
        have hyes : sk_fit3 K (K i) (o :: l) → wY_misfit_124 post J (nI ((o :: l).length + 0)) (nI i) (nI (K i)) (ym_g K o) g_place g_culprit g_listed g_units g_taken g_used g_depth g_waiting g_held g_fault g_steps g_result g_given g_gift g_has b_kind b_value b_size b_list b_library b_places b_memory w b_pc b_base b_locals b_waits b_got b_values := by
          intro hf
          have hr : 20 ≤ K i ∧ K i ≤ 27 := by
            by_cases z : K i = 23
            · omega
            · rw [e3 z] at hf; exact hf
          refine br_f (by decide) (br_f g1 (br_f g4 (pk_eq (K i) 27 (fun e => ?_) (fun e => ?_))))
          · refine nm_r (e' := nI l.length) (by rw [← e1]; exact (Int32.sub_eq_add_neg _ _).symm) ?_
            refine ym_159n h9 (by omega) (by omega) (by omega) (by omega) (by omega) ?_
            have es2 : sk_st K (i + 1) = l := by rw [sk_st_end e, es]; rfl
            exact hfin l.length w _ (by omega) g4 (by rw [es2]) (by rw [es2]; exact har.2) hf
          · by_cases z23 : K i = 23
            · have es2 : sk_st K (i + 1) = i :: l := by rw [sk_st_else z23, es]; rfl
              refine br_t (by rw [z23]; rfl) ⟨pk_in l.length 200 (by omega) e1, nm_r (e' := upd w l.length 2) (by rw [e1, nI_clamp (by omega)]; exact congrArg (upd w l.length) (ba_nb (n := 2) (by omega))) ?_⟩
              refine br_f (ba_ne (b := 28) (by omega) (by omega) (by omega)) (br_f (ba_ne (b := 24) (by omega) (by omega) (by omega)) (br_f (ba_ne (b := 22) (by omega) (by omega) (by omega)) (br_f (ba_ne (b := 29) (by omega) (by omega) (by omega)) ?_)))
              exact hfin (l.length + 1) _ _ (by omega) g4 (by rw [es2]; rfl) (by rw [es2]; exact ⟨by rw [pk_us]; exact (if_neg (by omega)).symm, sk_ar_upd har.2⟩) hf
            · refine br_f (ba_ne (b := 23) (by omega) (by omega) z23) (br_f (ba_ne (b := 28) (by omega) (by omega) (by omega)) (pk_eq (K i) 24 (fun z24 => ?_) (fun z24 => pk_eq (K i) 22 (fun z22 => ?_) (fun z22 => br_f (ba_ne (b := 29) (by omega) (by omega) (by omega)) ?_))))
              · have es2 : sk_st K (i + 1) = i :: o :: l := by rw [sk_st_push (by omega), es]
                refine nm_r (e' := nI (l.length + 2)) (nI_1 _) ⟨pk_in (l.length + 1) 200 (by omega) rfl, nm_r (e' := upd w (l.length + 1) 2) (by rw [nI_clamp (by show l.length + 1 < _; omega)]; exact congrArg (upd w (l.length + 1)) (ba_nb (n := 2) (by omega))) ?_⟩
                refine br_f (ba_ne (b := 22) (by omega) (by omega) (by omega)) (br_f (ba_ne (b := 29) (by omega) (by omega) (by omega)) ?_)
                exact hfin (l.length + 2) _ _ (by omega) g4 (by rw [es2]; rfl) (by rw [es2]; exact ⟨by rw [show (o :: l).length = l.length + 1 from rfl, pk_us]; exact (if_neg (by omega)).symm, sk_ar_upd (l := o :: l) har⟩) hf
              · have es2 : sk_st K (i + 1) = i :: o :: l := by rw [sk_st_push (by omega), es]
                refine nm_r (e' := nI (l.length + 2)) (nI_1 _) ⟨pk_in (l.length + 1) 200 (by omega) rfl, nm_r (e' := upd w (l.length + 1) 3) (by rw [nI_clamp (by show l.length + 1 < _; omega)]; exact congrArg (upd w (l.length + 1)) (ba_nb (n := 3) (by omega))) ?_⟩
                refine br_f (ba_ne (b := 29) (by omega) (by omega) (by omega)) ?_
                exact hfin (l.length + 2) _ _ (by omega) g4 (by rw [es2]; rfl) (by rw [es2]; exact ⟨by rw [show (o :: l).length = l.length + 1 from rfl, pk_us]; exact (if_pos z22).symm, sk_ar_upd (l := o :: l) har⟩) hf
              · have es2 : sk_st K (i + 1) = o :: l := by rw [sk_st_same (by omega) z22 z24 z23 e, es]
                exact hfin (l.length + 1) w _ (by omega) g4 (by rw [es2]; rfl) (by rw [es2]; exact har) hf
        have hno : ¬ sk_fit3 K (K i) (o :: l) → wY_misfit_128 post J (nI ((o :: l).length + 0)) (nI i) (nI (K i)) (ym_g K o) g_place g_culprit g_listed g_units g_taken g_used g_depth g_waiting g_held g_fault g_steps g_result g_given g_gift g_has b_kind b_value b_size b_list b_library b_places b_memory w b_pc b_base b_locals b_waits b_got b_values := fun hf => br_t rfl (h0 hf)
        refine br_f g0 (br_f g1 (br_f g4 (pk_lt (K i) 20 (fun z => hno ?_) (fun z => pk_le 28 (K i) (fun z2 => hno ?_) (fun z2 => pk_eq (K i) 23 (fun z3 => ?_) (fun z3 => hyes ?_))))))
        · rw [e3 (by omega)]; omega
        · rw [e3 (by omega)]; omega
        · have e4 : sk_fit3 K (K i) (o :: l) = (K o = 22) := if_pos z3
          rcases eg with e | e
          · refine br_f (by rw [e.1]; decide) (hno (by rw [e4]; exact e.2))
          · refine br_t e.1 (hyes (by rw [e4]; exact e.2))
        · rw [e3 z3]; omega
end
