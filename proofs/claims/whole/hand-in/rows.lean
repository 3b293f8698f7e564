section
theorem pk_us {f : Nat → Int32} {k : Nat} {x : Int32} : upd f k x k = x := if_pos rfl
theorem pk_un {f : Nat → Int32} {k j : Nat} {x : Int32} (h : j ≠ k) : upd f k x j = f j := if_neg h
theorem pk_sub {a b : Nat} (h : b ≤ a) : nI a - nI b = nI (a - b) := by
  obtain ⟨c, rfl⟩ : ∃ c, a = c + b := ⟨a - b, by omega⟩
  rw [← nI_add, Int32.add_sub_cancel, Nat.add_sub_cancel]
theorem pk_m1 (n : Nat) : nI (n + 1) + (-1) = nI n := by
  rw [← nI_1, Int32.add_assoc, show (1 : Int32) + (-1) = 0 from rfl, Int32.add_zero]
theorem pk_mul (a b : Nat) : nI a * nI b = nI (a * b) := (Int32.ofNat_mul a b).symm
theorem pk_div {a d : Nat} (ha : a < 2 ^ 31) (h0 : 0 < d) (hd : d < 2 ^ 31) : nI a / nI d = nI (a / d) := by
  apply Int32.toInt_inj.mp
  rw [lg_idiv_nonneg (by rw [nI_toInt ha]; omega) (by rw [nI_toInt hd]; omega), nI_toInt ha, nI_toInt hd, nI_toInt (Nat.lt_of_le_of_lt (Nat.div_le_self a d) ha)]
  first | rfl | exact (Int.natCast_ediv _ _).symm
theorem pk_rem {a d : Nat} (ha : a < 2 ^ 31) (h0 : 0 < d) (hd : d < 2 ^ 31) : nI a - nI a / nI d * nI d = nI (a % d) := by
  rw [pk_div ha h0 hd, pk_mul, pk_sub (Nat.div_mul_le_self a d)]
  exact congrArg nI (by have := Nat.div_add_mod' a d; omega)
theorem pk_ix (x : Int32) {n : Nat} (hn : n < 2 ^ 31) : x < 0 ∨ nI n ≤ x ∨ ∃ j : Nat, j < n ∧ x = nI j := by
  by_cases h : x < 0
  · exact Or.inl h
  · obtain ⟨j, hj, rfl⟩ := nI_of h
    by_cases h2 : j < n
    · exact Or.inr (Or.inr ⟨j, h2, rfl⟩)
    · exact Or.inr (Or.inl (nI_le (by omega) hj))
theorem pk_le {x y : Int32} {A B : Prop} (a b : Nat) (f : a ≤ b → A) (g : b < a → B) (hx : x = nI a := by rfl) (hy : y = nI b := by rfl) (ha : a < 2 ^ 31 := by omega) (hb : b < 2 ^ 31 := by omega) : (x ≤ y → A) ∧ (¬ x ≤ y → B) := by
  subst hx hy
  rw [nI_leI ha hb]
  exact ⟨f, fun z => g (by omega)⟩
theorem pk_lt {x y : Int32} {A B : Prop} (a b : Nat) (f : a < b → A) (g : b ≤ a → B) (hx : x = nI a := by rfl) (hy : y = nI b := by rfl) (ha : a < 2 ^ 31 := by omega) (hb : b < 2 ^ 31 := by omega) : (x < y → A) ∧ (¬ x < y → B) := by
  subst hx hy
  rw [nI_ltI ha hb]
  exact ⟨f, fun z => g (by omega)⟩
theorem pk_eq {x y : Int32} {A B : Prop} (a b : Nat) (f : a = b → A) (g : a ≠ b → B) (hx : x = nI a := by rfl) (hy : y = nI b := by rfl) (ha : a < 2 ^ 31 := by omega) (hb : b < 2 ^ 31 := by omega) : (x = y → A) ∧ (¬ x = y → B) := by
  subst hx hy
  rw [nI_eq ha hb]
  exact ⟨f, g⟩
theorem pk_in {x : Int32} (n N : Nat) (h : n < N) (hx : x = nI n := by rfl) (hN : N < 2 ^ 31 := by omega) : vp_in x N := by
  subst hx
  exact vp_in_nI h hN
theorem pk_cl {x : Int32} (n : Nat) (hx : x = nI n := by rfl) (h : n < 2 ^ 31 := by omega) : x.toNatClampNeg = n := by
  subst hx
  exact nI_clamp h
theorem pk_tn {n : Nat} (h : n < 2 ^ 32) : (nI n).toBitVec.toNat = n := Nat.mod_eq_of_lt h
theorem pk_and (x : Int32) {m : Int32} (k : Nat) (hm : m.toBitVec.toNat = 2 ^ k - 1) : x &&& m = nI (x.toBitVec.toNat % 2 ^ k) := by
  apply Int32.toBitVec_inj.mp
  apply BitVec.eq_of_toNat_eq
  rw [Int32.toBitVec_and, BitVec.toNat_and, hm, Nat.and_two_pow_sub_one_eq_mod]
  show _ = (BitVec.ofNat 32 _).toNat
  rw [BitVec.toNat_ofNat]
  exact (Nat.mod_eq_of_lt (Nat.lt_of_le_of_lt (Nat.mod_le _ _) x.toBitVec.isLt)).symm
theorem pk_andN {n : Nat} (h : n < 2 ^ 32) {m : Int32} (k : Nat) (hm : m.toBitVec.toNat = 2 ^ k - 1) : nI n &&& m = nI (n % 2 ^ k) := by
  rw [pk_and _ k hm, pk_tn h]
theorem pk_andE (x : Int32) {m : Int32} (k : Nat) (hm : m.toBitVec.toNat = 2 ^ k - 1) : ∃ j : Nat, j < 2 ^ k ∧ x &&& m = nI j := ⟨_, Nat.mod_lt _ (Nat.two_pow_pos k), pk_and x k hm⟩
theorem pk_andIn (x : Int32) {m : Int32} (k : Nat) (hm : m.toBitVec.toNat = 2 ^ k - 1) (hk : k ≤ 30) : vp_in (x &&& m) (2 ^ k) := by
  obtain ⟨j, hj, e⟩ := pk_andE x k hm
  rw [e]
  exact vp_in_nI hj (Nat.lt_of_le_of_lt (Nat.pow_le_pow_right (by decide) hk) (by decide))
theorem pk_shl (a s : Int32) (k : Nat) (hs : (s.toBitVec.smod 32).toNat = k) : (a <<< s).toBitVec.toNat = a.toBitVec.toNat * 2 ^ k % 2 ^ 32 := by
  show (a.toBitVec <<< (s.toBitVec.smod 32).toNat).toNat = _
  rw [hs, BitVec.toNat_shiftLeft, Nat.shiftLeft_eq]
theorem pk_shlN {n : Nat} (s : Int32) (k : Nat) (hs : (s.toBitVec.smod 32).toNat = k) (h : n * 2 ^ k < 2 ^ 32) : nI n <<< s = nI (n * 2 ^ k) := by
  apply Int32.toBitVec_inj.mp
  apply BitVec.eq_of_toNat_eq
  have hn : n < 2 ^ 32 := Nat.lt_of_le_of_lt (Nat.le_mul_of_pos_right n (Nat.two_pow_pos k)) h
  rw [pk_shl _ _ k hs, pk_tn hn, pk_tn h, Nat.mod_eq_of_lt h]
theorem pk_shr (a s : Int32) (k : Nat) (hs : (s.toBitVec.smod 32).toNat = k) : (a >>> s).toInt = a.toInt >>> k := by
  show (a.toBitVec.sshiftRight (s.toBitVec.smod 32).toNat).toInt = _
  rw [hs, BitVec.toInt_sshiftRight]
  rfl
theorem pk_shrN {n : Nat} (h : n < 2 ^ 31) (s : Int32) (k : Nat) (hs : (s.toBitVec.smod 32).toNat = k) : nI n >>> s = nI (n / 2 ^ k) := by
  apply Int32.toInt_inj.mp
  have h2 : n / 2 ^ k ≤ n := Nat.div_le_self _ _
  rw [pk_shr _ _ k hs, nI_toInt h, nI_toInt (by omega), Int.shiftRight_eq_div_pow]
  rfl
theorem pk_nb (z : Int32) : narrow .byte (.int z.toInt8.toInt32) = .int z.toInt8.toInt32 := congrArg Value.int (by simp)
theorem pk_ns (z : Int32) : narrow .short (.int z.toInt16.toInt32) = .int z.toInt16.toInt32 := congrArg Value.int (by simp)
theorem pk_vb (z : Int32) : vp_nar .byte z.toInt8.toInt32 = z.toInt8.toInt32 := by rw [vp_nar_byte]; simp
theorem pk_vs (z : Int32) : vp_nar .short z.toInt16.toInt32 = z.toInt16.toInt32 := by rw [vp_nar_short]; simp
theorem pk_least (P : Nat → Prop) (h : ∃ k, P k) : ∃ k, P k ∧ ∀ j, j < k → ¬ P j := by
  obtain ⟨k, hk⟩ := h
  induction k using Nat.strongRecOn with
  | ind k ih =>
    by_cases e : ∃ j, j < k ∧ P j
    · obtain ⟨j, hj, pj⟩ := e
      exact ih j hj pj
    · exact ⟨k, hk, fun j hj pj => e ⟨j, hj, pj⟩⟩
/-! own small rows -/
theorem ba_b {n : Nat} (h : n < 128) : (nI n).toInt8.toInt32 = nI n := lg_i2b_small (by rw [nI_toInt (by omega)]; omega) (by rw [nI_toInt (by omega)]; omega)
theorem ba_s {n : Nat} (h : n < 32768) : (nI n).toInt16.toInt32 = nI n := lg_i2s_small (by rw [nI_toInt (by omega)]; omega) (by rw [nI_toInt (by omega)]; omega)
theorem ba_nb {n : Nat} (h : n < 128) : vp_nar .byte (nI n) = nI n := by rw [vp_nar_byte, ba_b h]
theorem ba_nbb {n : Nat} (h : n < 128) : vp_nar .byte ((nI n).toInt8.toInt32) = nI n := by rw [ba_b h, ba_nb h]
theorem ba_ns {n : Nat} (h : n < 32768) : vp_nar .short (nI n) = nI n := by rw [vp_nar_short, ba_s h]
theorem ba_nss {n : Nat} (h : n < 32768) : vp_nar .short ((nI n).toInt16.toInt32) = nI n := by rw [ba_s h, ba_ns h]
theorem ba_bm1 : vp_nar .byte (-1) = -1 := by rw [vp_nar_byte]; decide
theorem ba_z1 : vp_nar .boolean 1 = 1 := by decide
theorem ba_z0 : vp_nar .boolean 0 = 0 := by decide
theorem ba_nz1 : narrow .boolean (.int 1) = .int 1 := by rfl
theorem ba_nz0 : narrow .boolean (.int 0) = .int 0 := by rfl
theorem ba_m1 {n : Nat} (h : n < 2 ^ 31) : ¬ nI n = -1 := by
  intro e
  have h1 := nI_toInt h
  rw [e] at h1
  have h2 : (-1 : Int32).toInt = -1 := by decide
  omega
theorem ba_inj {a b : Nat} (ha : a < 2 ^ 31) (hb : b < 2 ^ 31) (h : nI a = nI b) : a = b := (nI_eq ha hb).mp h
theorem ba_ne {a b : Nat} (ha : a < 2 ^ 31) (hb : b < 2 ^ 31) (h : a ≠ b) : ¬ nI a = nI b := fun e => h ((nI_eq ha hb).mp e)
theorem ba_1 (n : Nat) : nI n + 1 = nI (n + 1) := nI_1 n
theorem ba_s1 {n : Nat} (h : 0 < n) : nI n - 1 = nI (n - 1) := by
  obtain ⟨m, rfl⟩ : ∃ m, n = m + 1 := ⟨n - 1, by omega⟩
  exact nI_pred m
theorem ba_and15 {n : Nat} (h : n < 2 ^ 31) : nI n &&& 15 = nI (n % 16) := pk_andN (by omega) 4 (by decide)
theorem ba_and3 {n : Nat} (h : n < 2 ^ 31) : nI n &&& 3 = nI (n % 4) := pk_andN (by omega) 2 (by decide)
theorem ba_and7 {n : Nat} (h : n < 2 ^ 31) : nI n &&& 7 = nI (n % 8) := pk_andN (by omega) 3 (by decide)
theorem ba_and1 {n : Nat} (h : n < 2 ^ 31) : nI n &&& 1 = nI (n % 2) := pk_andN (by omega) 1 (by decide)
theorem ba_shr4 {n : Nat} (h : n < 2 ^ 31) : nI n >>> ((4 : Int32) &&& 31) = nI (n / 16) := pk_shrN h _ 4 (by decide)
theorem ba_shr6 {n : Nat} (h : n < 2 ^ 31) : nI n >>> ((6 : Int32) &&& 31) = nI (n / 64) := pk_shrN h _ 6 (by decide)
theorem ba_shr7 {n : Nat} (h : n < 2 ^ 31) : nI n >>> ((7 : Int32) &&& 31) = nI (n / 128) := pk_shrN h _ 7 (by decide)
theorem ba_cnt {n : Nat} (h : n < 2 ^ 31) : (nI n >>> ((4 : Int32) &&& 31)) &&& 3 = nI (n / 16 % 4) := by
  rw [ba_shr4 h, ba_and3 (by omega)]
theorem ba_sz {n : Nat} (h : n < 2 ^ 31) : (nI n >>> ((4 : Int32) &&& 31)) &&& 7 = nI (n / 16 % 8) := by
  rw [ba_shr4 h, ba_and7 (by omega)]
theorem ba_addL (a n : Nat) : nI a + nI n = nI (a + n) := nI_add a n
theorem ba_upd_eq {f g : Nat → Int32} {k : Nat} {x : Int32} (h : f k = x) : upd f k x = f := by
  funext j
  by_cases e : j = k
  · rw [e, pk_us, h]
  · rw [pk_un e]
/-- a loop with a counter and a spec that comes out: the continuation as a hypothesis at the end -/
theorem ba_cl {x : Int32} {n : Nat} (h : x = nI n) (hn : n < 2 ^ 31) : x.toNatClampNeg = n := by rw [h]; exact nI_clamp hn
/-- tokens that may be kept: kind c, value v -/
def tk_P (c : Nat) (v : Int32) : Prop := c ≤ 29 ∧ c ≠ 19 ∧ ((c = 1 ∨ c = 20) → ∃ m : Nat, m < 6 ∧ v = nI m) ∧ ((c = 2 ∨ c = 3) → ∃ m : Nat, m < 12 ∧ v = nI m) ∧ (c = 5 → ∃ m : Nat, m < 64 ∧ m % 16 < 12 ∧ v = nI m) ∧ (c = 28 → ∃ m : Nat, m < 128 ∧ m % 16 < 12 ∧ v = nI m) ∧ (c = 29 → ∃ m : Nat, m < 256 ∧ m % 16 < 12 ∧ v = nI m)
theorem tk_P0 : tk_P 0 0 := ⟨by omega, by omega, by omega, by omega, by omega, by omega, by omega⟩
/-- the operands of a token, as the reference counts them -/
def tk_n (c v : Nat) : Nat := if c < 4 then 0 else if c = 5 then v / 16 else if c < 18 ∧ 5 < c then 2 else if c = 21 then 2 else if c = 23 then 0 else if c ≤ 26 then 1 else 0
theorem tk_n3 {c : Nat} {v : Int32} (h : tk_P c v) : tk_n c v.toNatClampNeg ≤ 3 := by
  obtain ⟨h1, h2, h3, h4, h5, h6, h7⟩ := h
  unfold tk_n
  by_cases e : c = 5
  · obtain ⟨m, hm, _, rfl⟩ := h5 e
    rw [nI_clamp (by omega), e]
    simp
    omega
  · split <;> try omega
    split <;> try omega
    split <;> try omega
    split <;> try omega
    split <;> try omega
/-- every kind by its number -/
theorem tk_30 {P : Nat → Prop} (h : ∀ c, c < 10 → P c) (h' : ∀ c, c < 10 → P (10 + c)) (h'' : ∀ c, c < 10 → P (20 + c)) {c : Nat} (hc : c ≤ 29) : P c := by
  by_cases a : c < 10
  · exact h c a
  · by_cases b : c < 20
    · have := h' (c - 10) (by omega); rwa [show 10 + (c - 10) = c by omega] at this
    · have := h'' (c - 20) (by omega); rwa [show 20 + (c - 20) = c by omega] at this
theorem tk_ten {P : Nat → Prop} (h0 : P 0) (h1 : P 1) (h2 : P 2) (h3 : P 3) (h4 : P 4) (h5 : P 5) (h6 : P 6) (h7 : P 7) (h8 : P 8) (h9 : P 9) : ∀ c, c < 10 → P c := by
  intro c hc
  match c, hc with
  | 0, _ => exact h0
  | 1, _ => exact h1
  | 2, _ => exact h2
  | 3, _ => exact h3
  | 4, _ => exact h4
  | 5, _ => exact h5
  | 6, _ => exact h6
  | 7, _ => exact h7
  | 8, _ => exact h8
  | 9, _ => exact h9
end
section
/-! the grammar as a pure machine over kinds K and operand counts N: blocks not yet closed (a list, innermost first) and operands due -/
def sk_st (K : Nat → Nat) : Nat → List Nat
  | 0 => []
  | p + 1 => if K p = 28 ∨ K p = 22 ∨ K p = 24 then p :: sk_st K p else if K p = 23 then p :: (sk_st K p).tail else if K p = 27 then (sk_st K p).tail else sk_st K p
def sk_d (K N : Nat → Nat) : Nat → Nat
  | 0 => 0
  | p + 1 => sk_d K N p - 1 + (if K p = 29 then 1 else N p)
def sk_B (K : Nat → Nat) (p : Nat) : Nat := (sk_st K p).length
def sk_fit3 (K : Nat → Nat) (k : Nat) : List Nat → Prop
  | [] => k = 28 ∨ k = 29
  | o :: _ => if k = 23 then K o = 22 else 20 ≤ k ∧ k ≤ 27
def sk_fit2 (K N : Nat → Nat) (p : Nat) : Prop := if 0 < sk_d K N p then K p ≤ 18 else sk_fit3 K (K p) (sk_st K p)
def sk_fit (K N : Nat → Nat) (p : Nat) : Prop := if 0 < p ∧ K (p - 1) = 29 then K p = 0 else sk_fit2 K N p
theorem sk_st_push {K : Nat → Nat} {p : Nat} (h : K p = 28 ∨ K p = 22 ∨ K p = 24) : sk_st K (p + 1) = p :: sk_st K p := if_pos h
theorem sk_st_else {K : Nat → Nat} {p : Nat} (h : K p = 23) : sk_st K (p + 1) = p :: (sk_st K p).tail := by
  show (if _ then _ else _) = _
  rw [if_neg (by omega), if_pos h]
theorem sk_st_end {K : Nat → Nat} {p : Nat} (h : K p = 27) : sk_st K (p + 1) = (sk_st K p).tail := by
  show (if _ then _ else _) = _
  rw [if_neg (by omega), if_neg (by omega), if_pos h]
theorem sk_st_same {K : Nat → Nat} {p : Nat} (h1 : K p ≠ 28) (h2 : K p ≠ 22) (h3 : K p ≠ 24) (h4 : K p ≠ 23) (h5 : K p ≠ 27) : sk_st K (p + 1) = sk_st K p := by
  show (if _ then _ else _) = _
  rw [if_neg (by omega), if_neg h4, if_neg h5]
theorem sk_B_le (K : Nat → Nat) : ∀ p, (sk_st K p).length ≤ p := by
  intro p
  induction p with
  | zero => exact Nat.le_refl _
  | succ p ih =>
    show (if _ then _ else _ : List Nat).length ≤ _
    split
    · show (sk_st K p).length + 1 ≤ _; omega
    · split
      · show (sk_st K p).tail.length + 1 ≤ _; rw [List.length_tail]; omega
      · split
        · rw [List.length_tail]; omega
        · omega
theorem sk_d_le {K N : Nat → Nat} : ∀ p, (∀ j, j < p → N j ≤ 3) → sk_d K N p ≤ 3 * p := by
  intro p
  induction p with
  | zero => exact fun _ => Nat.le_refl _
  | succ p ih =>
    intro h
    have h1 := ih (fun j hj => h j (by omega))
    have h2 := h p (by omega)
    show sk_d K N p - 1 + _ ≤ _
    split <;> omega
theorem sk_after {K N : Nat → Nat} {p : Nat} (h : sk_fit K N p) (e : K p = 29) : sk_st K p = [] ∧ sk_d K N p = 0 := by
  unfold sk_fit at h
  split at h
  · omega
  · unfold sk_fit2 at h
    split at h
    · omega
    · rename_i hd
      cases es : sk_st K p with
      | nil => exact ⟨rfl, by omega⟩
      | cons o l =>
        rw [es] at h
        change (if K p = 23 then K o = 22 else 20 ≤ K p ∧ K p ≤ 27) at h
        split at h <;> omega
theorem sk_after1 {K N : Nat → Nat} {p : Nat} (h : sk_fit K N p) (e : K p = 29) : sk_st K (p + 1) = [] ∧ sk_d K N (p + 1) = 1 := by
  obtain ⟨a, b⟩ := sk_after h e
  refine ⟨by rw [sk_st_same (by omega) (by omega) (by omega) (by omega) (by omega), a], ?_⟩
  show sk_d K N p - 1 + _ = 1
  rw [b, if_pos e]
/-- inside a block the place before is no DATA -/
theorem sk_fit_in {K N : Nat → Nat} {p : Nat} (hall : ∀ j, j < p → sk_fit K N j) (h : sk_fit K N p) (hb : 1 ≤ sk_B K p) : sk_fit2 K N p := by
  unfold sk_fit at h
  split at h
  · rename_i hc
    have := sk_after1 (hall (p - 1) (by omega)) hc.2
    rw [show p - 1 + 1 = p by omega] at this
    unfold sk_B at hb
    rw [this.1] at hb
    exact absurd hb (by decide)
  · exact h
theorem sk_in {K N : Nat → Nat} {p : Nat} (h : sk_fit2 K N p) (hb : 1 ≤ sk_B K p) : (0 < sk_d K N p → K p ≤ 18) ∧ (sk_d K N p = 0 → 20 ≤ K p ∧ K p ≤ 27 ∧ ∃ o l, sk_st K p = o :: l ∧ (K p = 23 → K o = 22)) := by
  unfold sk_fit2 at h
  split at h
  · exact ⟨fun _ => h, fun e => by omega⟩
  · refine ⟨fun e => by omega, fun _ => ?_⟩
    unfold sk_B at hb
    cases es : sk_st K p with
    | nil => rw [es] at hb; exact absurd hb (by decide)
    | cons o l =>
      rw [es] at h
      change (if K p = 23 then K o = 22 else 20 ≤ K p ∧ K p ≤ 27) at h
      split at h
      · exact ⟨by omega, by omega, o, l, rfl, fun _ => h⟩
      · exact ⟨h.1, h.2, o, l, rfl, fun e => by omega⟩
/-- what is known of the blocks not yet closed -/
def sk_o1 (K : Nat → Nat) (i o n : Nat) : Prop := o < i ∧ (K o = 22 ∨ K o = 23 ∨ K o = 24 ∨ K o = 28) ∧ sk_B K (o + 1) = n + 1 ∧ (∀ q, o < q → q ≤ i → n + 1 ≤ sk_B K q) ∧ (K o = 22 → ∀ q, o < q → q < i → K q = 23 → sk_B K q ≠ n + 1) ∧ (∃ f, f ≤ o ∧ (K o = 23 → K f = 22) ∧ (K o ≠ 23 → f = o) ∧ sk_B K f = n ∧ ∀ q, f < q → q ≤ i → n + 1 ≤ sk_B K q)
def sk_op (K : Nat → Nat) (i : Nat) : List Nat → Prop
  | [] => True
  | o :: l => sk_o1 K i o l.length ∧ (∀ o', o' ∈ l → o' < o) ∧ sk_op K i l
theorem sk_op_ext {K : Nat → Nat} {i : Nat} : ∀ l : List Nat, sk_op K i l → l.length ≤ sk_B K (i + 1) → (K i = 23 → l.length < sk_B K i) → sk_op K (i + 1) l := by
  intro l
  induction l with
  | nil => exact fun _ _ _ => trivial
  | cons o l ih =>
    intro h hl h3
    have hl' : l.length + 1 ≤ sk_B K (i + 1) := hl
    obtain ⟨⟨a, b, c, d, e, f, f1, f2, f3, f4, f5⟩, g, h⟩ := h
    refine ⟨⟨by omega, b, c, ?_, ?_, f, f1, f2, f3, f4, ?_⟩, g, ih h (by omega) (fun z => by have : l.length + 1 < _ := h3 z; omega)⟩
    · intro q q1 q2
      by_cases z : q = i + 1
      · rw [z]; exact hl'
      · exact d q q1 (by omega)
    · intro k q q1 q2 q3
      by_cases z : q = i
      · have : l.length + 1 < _ := h3 (by rw [← z]; exact q3)
        rw [z]; omega
      · exact e k q q1 (by omega) q3
    · intro q q1 q2
      by_cases z : q = i + 1
      · rw [z]; exact hl'
      · exact f5 q q1 (by omega)
theorem sk_op_lt {K : Nat → Nat} {i : Nat} : ∀ l : List Nat, sk_op K i l → ∀ o, o ∈ l → o < i ∧ (K o = 22 ∨ K o = 23 ∨ K o = 24 ∨ K o = 28) := by
  intro l
  induction l with
  | nil => exact fun _ o h => nomatch h
  | cons o l ih =>
    intro h o' ho
    cases ho with
    | head => exact ⟨h.1.1, h.1.2.1⟩
    | tail _ ho => exact ih h.2.2 o' ho
/-- what is known of the closed ones -/
def sk_c1 (K : Nat → Nat) (pa : Nat → Int32) (i o e : Nat) : Prop := o < e ∧ e < i ∧ pa o = nI e ∧ (K e = 27 ∨ (K o = 22 ∧ K e = 23)) ∧ sk_B K (o + 1) = sk_B K e ∧ (∀ q, o < q → q ≤ e → sk_B K e ≤ sk_B K q) ∧ (K o = 22 → ∀ q, o < q → q < e → K q = 23 → sk_B K q ≠ sk_B K e)
def sk_c2 (K : Nat → Nat) (pa : Nat → Int32) (e o f : Nat) : Prop := f ≤ o ∧ o < e ∧ pa e = nI o ∧ (K o = 22 ∨ K o = 23 ∨ K o = 24 ∨ K o = 28) ∧ (K o = 23 → K f = 22) ∧ (K o ≠ 23 → f = o) ∧ sk_B K f + 1 = sk_B K e ∧ ∀ q, f < q → q ≤ e → sk_B K e ≤ sk_B K q
def sk_cl (K : Nat → Nat) (pa : Nat → Int32) (i : Nat) : Prop := (∀ o, o < i → (K o = 22 ∨ K o = 23 ∨ K o = 24) → ¬ o ∈ sk_st K i → ∃ e, sk_c1 K pa i o e) ∧ (∀ e, e < i → K e = 27 → ∃ o f, sk_c2 K pa e o f)
theorem sk_c1_up {K : Nat → Nat} {pa pa' : Nat → Int32} {i o e : Nat} (h : sk_c1 K pa i o e) (hp : pa' o = pa o) : sk_c1 K pa' (i + 1) o e := by
  obtain ⟨a, b, c, d⟩ := h
  exact ⟨a, by omega, by rw [hp, c], d⟩
theorem sk_c2_up {K : Nat → Nat} {pa pa' : Nat → Int32} {e o f : Nat} (h : sk_c2 K pa e o f) (hp : pa' e = pa e) : sk_c2 K pa' e o f := by
  obtain ⟨a, b, c, d⟩ := h
  exact ⟨a, b, by rw [hp, c], d⟩
theorem sk_stepA {K : Nat → Nat} {pa : Nat → Int32} {i : Nat} (ho : sk_op K i (sk_st K i)) (hc : sk_cl K pa i) (h1 : K i ≠ 28) (h2 : K i ≠ 22) (h3 : K i ≠ 24) (h4 : K i ≠ 23) (h5 : K i ≠ 27) : sk_op K (i + 1) (sk_st K (i + 1)) ∧ sk_cl K pa (i + 1) := by
  have es := sk_st_same h1 h2 h3 h4 h5
  constructor
  · rw [es]
    exact sk_op_ext _ ho (by unfold sk_B; rw [es]; exact Nat.le_refl _) (fun z => absurd z h4)
  · constructor
    · intro o a b c
      rw [es] at c
      by_cases z : o = i
      · subst z; omega
      · obtain ⟨e, he⟩ := hc.1 o (by omega) b c
        exact ⟨e, sk_c1_up he rfl⟩
    · intro e a b
      by_cases z : e = i
      · subst z; omega
      · exact hc.2 e (by omega) b
theorem sk_stepB {K : Nat → Nat} {pa : Nat → Int32} {i : Nat} (ho : sk_op K i (sk_st K i)) (hc : sk_cl K pa i) (h : K i = 28 ∨ K i = 22 ∨ K i = 24) : sk_op K (i + 1) (sk_st K (i + 1)) ∧ sk_cl K pa (i + 1) := by
  have es := sk_st_push h
  have eb : sk_B K (i + 1) = (sk_st K i).length + 1 := by unfold sk_B; rw [es]; rfl
  constructor
  · rw [es]
    refine ⟨⟨by omega, by omega, eb, ?_, ?_, i, by omega, by omega, fun _ => rfl, rfl, ?_⟩, fun o ho' => (sk_op_lt _ ho o ho').1, ?_⟩
    · intro q q1 q2
      rw [show q = i + 1 by omega, eb]; exact Nat.le_refl _
    · intro _ q q1 q2; omega
    · intro q q1 q2
      rw [show q = i + 1 by omega, eb]; exact Nat.le_refl _
    · exact sk_op_ext _ ho (by rw [eb]; omega) (fun z => by omega)
  · constructor
    · intro o a b c
      rw [es] at c
      have z : o ≠ i := fun e => c (by rw [e]; exact List.mem_cons_self ..)
      obtain ⟨e, he⟩ := hc.1 o (by omega) b (fun m => c (List.mem_cons_of_mem _ m))
      exact ⟨e, sk_c1_up he rfl⟩
    · intro e a b
      by_cases z : e = i
      · subst z; omega
      · exact hc.2 e (by omega) b
theorem sk_stepC {K : Nat → Nat} {pa : Nat → Int32} {i o : Nat} {l : List Nat} (ho : sk_op K i (sk_st K i)) (hc : sk_cl K pa i) (hs : sk_st K i = o :: l) (h : K i = 27) : sk_op K (i + 1) (sk_st K (i + 1)) ∧ sk_cl K (upd (upd pa o (nI i)) i (nI o)) (i + 1) := by
  have es := sk_st_end h
  rw [hs] at es ho
  have eb : sk_B K (i + 1) = l.length := by unfold sk_B; rw [es]; rfl
  have ei : sk_B K i = l.length + 1 := by unfold sk_B; rw [hs]; rfl
  obtain ⟨⟨a, b, c, d, e, f, f1, f2, f3, f4, f5⟩, g, ho⟩ := ho
  constructor
  · rw [es]
    exact sk_op_ext _ ho (by rw [eb]; exact Nat.le_refl _) (fun z => by omega)
  · constructor
    · intro x a' b' c'
      have z : x ≠ i := fun z => by subst z; omega
      by_cases y : x = o
      · subst y
        refine ⟨i, a, by omega, by rw [pk_un (by omega), pk_us], Or.inl h, by rw [c, ei], fun q q1 q2 => by rw [ei]; exact d q q1 q2, fun k q q1 q2 q3 => by rw [ei]; exact e k q q1 q2 q3⟩
      · obtain ⟨e', he⟩ := hc.1 x (by omega) b' (fun m => by
          rw [hs] at m
          cases m with
          | head => exact y rfl
          | tail _ m => exact c' (by rw [es]; exact m))
        exact ⟨e', sk_c1_up he (by rw [pk_un z, pk_un y])⟩
    · intro x a' b'
      by_cases z : x = i
      · subst z
        exact ⟨o, f, f1, a, pk_us, b, f2, f3, by rw [f4, ei], fun q q1 q2 => by rw [ei]; exact f5 q q1 q2⟩
      · obtain ⟨o', f', hf⟩ := hc.2 x (by omega) b'
        exact ⟨o', f', sk_c2_up hf (by rw [pk_un z, pk_un (fun y => by subst y; omega)])⟩
theorem sk_stepD {K : Nat → Nat} {pa : Nat → Int32} {i o : Nat} {l : List Nat} (ho : sk_op K i (sk_st K i)) (hc : sk_cl K pa i) (hs : sk_st K i = o :: l) (h : K i = 23) (hko : K o = 22) : sk_op K (i + 1) (sk_st K (i + 1)) ∧ sk_cl K (upd (upd pa o (nI i)) i (nI o)) (i + 1) := by
  have es := sk_st_else h
  rw [hs] at es ho
  have es' : sk_st K (i + 1) = i :: l := es
  have eb : sk_B K (i + 1) = l.length + 1 := by unfold sk_B; rw [es']; rfl
  have ei : sk_B K i = l.length + 1 := by unfold sk_B; rw [hs]; rfl
  obtain ⟨⟨a, b, c, d, e, f, f1, f2, f3, f4, f5⟩, g, ho⟩ := ho
  have ef : f = o := f3 (by omega)
  subst ef
  constructor
  · rw [es']
    refine ⟨⟨by omega, by omega, eb, ?_, fun z => by omega, f, by omega, fun _ => hko, fun z => absurd h z, f4, ?_⟩, fun o' ho' => Nat.lt_trans (g o' ho') a, ?_⟩
    · intro q q1 q2
      rw [show q = i + 1 by omega, eb]; exact Nat.le_refl _
    · intro q q1 q2
      by_cases z : q = i + 1
      · rw [z, eb]; exact Nat.le_refl _
      · exact f5 q q1 (by omega)
    · exact sk_op_ext _ ho (by rw [eb]; omega) (fun z => by omega)
  · constructor
    · intro x a' b' c'
      have z : x ≠ i := fun z => c' (by rw [es', z]; exact List.mem_cons_self ..)
      by_cases y : x = f
      · subst y
        refine ⟨i, a, by omega, by rw [pk_un (by omega), pk_us], Or.inr ⟨hko, h⟩, by rw [c, ei], fun q q1 q2 => by rw [ei]; exact d q q1 q2, fun k q q1 q2 q3 => by rw [ei]; exact e k q q1 q2 q3⟩
      · obtain ⟨e', he⟩ := hc.1 x (by omega) b' (fun m => by
          rw [hs] at m
          cases m with
          | head => exact y rfl
          | tail _ m => exact c' (by rw [es']; exact List.mem_cons_of_mem _ m))
        exact ⟨e', sk_c1_up he (by rw [pk_un z, pk_un y])⟩
    · intro x a' b'
      by_cases z : x = i
      · subst z; omega
      · obtain ⟨o', f', hf⟩ := hc.2 x (by omega) b'
        exact ⟨o', f', sk_c2_up hf (by rw [pk_un z, pk_un (fun y => by subst y; omega)])⟩
/-- a well formed row: what linking and running need of it -/
def wf_J (K : Nat → Nat) (c : Nat) (P : Nat → Int32) (b : Nat) (B pr : Nat → Nat) : Prop := (∀ o, o < c → 1 ≤ B o → (K o = 22 ∨ K o = 23 ∨ K o = 24) → o < pr o ∧ pr o < c ∧ P o = nI (b + pr o) ∧ (K (pr o) = 27 ∨ (K o = 22 ∧ K (pr o) = 23)) ∧ B (o + 1) = B (pr o) ∧ (∀ q, o < q → q ≤ pr o → B (pr o) ≤ B q) ∧ (K o = 22 → ∀ q, o < q → q < pr o → K q = 23 → B q ≠ B (pr o)))
  ∧ (∀ e, e < c → 1 ≤ B e → K e = 27 → ∃ f, f ≤ pr e ∧ pr e < e ∧ P e = nI (b + pr e) ∧ (K (pr e) = 22 ∨ K (pr e) = 23 ∨ K (pr e) = 24 ∨ K (pr e) = 28) ∧ (K (pr e) = 23 → K f = 22) ∧ (K (pr e) ≠ 23 → f = pr e) ∧ B f + 1 = B e ∧ ∀ q, f < q → q ≤ e → B e ≤ B q)
def wf_S (K N : Nat → Nat) (c : Nat) (D B : Nat → Nat) : Prop := B c = 0 ∧ (∀ p, p < c → 20 ≤ K p → K p ≤ 27 → 1 ≤ B p ∧ (K p = 23 → 2 ≤ B p)) ∧ (∀ p, p < c → K p = 28 → B (p + 1) = 1 ∧ D (p + 1) = 0) ∧ (∀ p, p < c → 1 ≤ B p → D (p + 1) = D p - 1 + N p ∧ (0 < D p → K p ≤ 18) ∧ (D p = 0 → 20 ≤ K p ∧ K p ≤ 27) ∧ ((K p = 22 ∨ K p = 24) → B (p + 1) = B p + 1) ∧ (K p = 27 → B (p + 1) + 1 = B p) ∧ (K p ≠ 22 → K p ≠ 24 → K p ≠ 27 → B (p + 1) = B p))
def wf_U (K N : Nat → Nat) (c : Nat) (P : Nat → Int32) (b : Nat) : Prop := ∃ D B pr : Nat → Nat, wf_S K N c D B ∧ wf_J K c P b B pr
theorem sk_wf {K N : Nat → Nat} {c : Nat} {pa P : Nat → Int32} {b : Nat} (hall : ∀ j, j < c → sk_fit K N j) (hs : sk_st K c = []) (hcl : sk_cl K pa c) (hP : ∀ i, i < c → P i = nI b + pa i) (h9 : ∀ i, i < c → K i = 28 → N i = 0) (hopa : ∀ p, p ≤ c → sk_op K p (sk_st K p)) : wf_U K N c P b := by
  have hex : ∃ pr : Nat → Nat, (∀ o, o < c → (K o = 22 ∨ K o = 23 ∨ K o = 24) → sk_c1 K pa c o (pr o)) ∧ (∀ e, e < c → K e = 27 → ∃ f, sk_c2 K pa e (pr e) f) := by
    have hx : ∀ o, ∃ e, (o < c → (K o = 22 ∨ K o = 23 ∨ K o = 24) → sk_c1 K pa c o e) ∧ (o < c → K o = 27 → ∃ f, sk_c2 K pa o e f) := by
      intro o
      by_cases ho : o < c
      · by_cases h1 : K o = 22 ∨ K o = 23 ∨ K o = 24
        · obtain ⟨e, he⟩ := hcl.1 o ho h1 (by rw [hs]; exact fun m => nomatch m)
          exact ⟨e, fun _ _ => he, fun _ z => by omega⟩
        · by_cases h2 : K o = 27
          · obtain ⟨e, f, he⟩ := hcl.2 o ho h2
            exact ⟨e, fun _ z => absurd z h1, fun _ _ => ⟨f, he⟩⟩
          · exact ⟨0, fun _ z => absurd z h1, fun _ z => absurd z h2⟩
      · exact ⟨0, fun z => absurd z ho, fun z => absurd z ho⟩
    obtain ⟨pr, hpr⟩ := Classical.skolem.mp hx
    exact ⟨pr, fun o a b => (hpr o).1 a b, fun e a b => (hpr e).2 a b⟩
  obtain ⟨pr, hp1, hp2⟩ := hex
  refine ⟨sk_d K N, sk_B K, pr, ⟨by unfold sk_B; rw [hs]; rfl, ?_, ?_, ?_⟩, ?_, ?_⟩
  · intro p hp hk1 hk2
    have hf := hall p hp
    unfold sk_fit at hf
    split at hf
    · omega
    · unfold sk_fit2 at hf
      split at hf
      · omega
      · unfold sk_B
        cases es : sk_st K p with
        | nil =>
          rw [es] at hf
          change K p = 28 ∨ K p = 29 at hf
          omega
        | cons o l =>
          refine ⟨Nat.succ_pos _, fun e23 => ?_⟩
          rw [es] at hf
          change (if K p = 23 then K o = 22 else 20 ≤ K p ∧ K p ≤ 27) at hf
          rw [if_pos e23] at hf
          have hop := hopa p (by omega)
          rw [es] at hop
          have h1 : sk_B K (o + 1) = l.length + 1 := hop.1.2.2.1
          have h2 : sk_B K (o + 1) = (sk_st K o).length + 1 := by unfold sk_B; rw [sk_st_push (by omega)]; rfl
          have hfo := hall o (by have := hop.1.1; omega)
          unfold sk_fit at hfo
          split at hfo
          · omega
          · unfold sk_fit2 at hfo
            split at hfo
            · omega
            · cases eo : sk_st K o with
              | nil =>
                rw [eo] at hfo
                change K o = 28 ∨ K o = 29 at hfo
                omega
              | cons o' l' =>
                rw [eo] at h2
                show 2 ≤ l.length + 1
                rw [← h1, h2]
                exact Nat.succ_le_succ (Nat.succ_le_succ (Nat.zero_le _))
  · intro p hp hk
    have hf := hall p hp
    unfold sk_fit at hf
    split at hf
    · omega
    · unfold sk_fit2 at hf
      split at hf
      · omega
      · rename_i hd
        cases es : sk_st K p with
        | nil =>
          refine ⟨by unfold sk_B; rw [sk_st_push (Or.inl hk), es]; rfl, ?_⟩
          show sk_d K N p - 1 + _ = 0
          rw [if_neg (by omega), h9 p hp hk]
          omega
        | cons o l =>
          rw [es] at hf
          change (if K p = 23 then K o = 22 else 20 ≤ K p ∧ K p ≤ 27) at hf
          split at hf <;> omega
  · intro p hp hb
    have h2 := sk_in (sk_fit_in (fun j hj => hall j (by omega)) (hall p hp) hb) hb
    have hne : K p ≠ 29 := fun z => by
      have := sk_after (hall p hp) z
      unfold sk_B at hb
      rw [this.1] at hb
      exact absurd hb (by decide)
    refine ⟨?_, h2.1, fun z => ⟨(h2.2 z).1, (h2.2 z).2.1⟩, ?_, ?_, ?_⟩
    · show sk_d K N p - 1 + _ = _
      rw [if_neg hne]
    · intro z
      unfold sk_B
      rw [sk_st_push (by omega)]; rfl
    · intro z
      unfold sk_B at hb ⊢
      rw [sk_st_end z, List.length_tail]; omega
    · intro z1 z2 z3
      unfold sk_B at hb ⊢
      by_cases z4 : K p = 23
      · rw [sk_st_else z4]
        show (sk_st K p).tail.length + 1 = _
        rw [List.length_tail]; omega
      · by_cases z5 : K p = 28
        · exfalso
          by_cases zd : sk_d K N p = 0
          · have := (h2.2 zd).2.1; omega
          · have := h2.1 (by omega); omega
        · rw [sk_st_same z5 z1 z2 z4 z3]
  · intro o ho _ hk
    obtain ⟨a, b', c', d⟩ := hp1 o ho hk
    exact ⟨a, b', by rw [hP o ho, c', nI_add], d⟩
  · intro e he _ hk
    obtain ⟨f, a, b', c', d⟩ := hp2 e he hk
    exact ⟨f, a, b', by rw [hP e he, c', nI_add], d⟩
end
section
/-! the component's parse -/
theorem xo_ops {post : Int32 → Prop} {c : Nat} {v : Int32} (h : tk_P c v) (hp : post (nI (if c = 29 then 1 else tk_n c v.toNatClampNeg))) : wpX_operandsOf post (nI c) v := by
  by_cases e : c = 5
  · obtain ⟨m, hm, _, rfl⟩ := h.2.2.2.2.1 e
    subst e
    rw [if_neg (by decide), nI_clamp (by omega), show tk_n 5 m = m / 16 from rfl] at hp
    refine br_t (by decide) (br_f (by decide) (br_f (by decide) (br_f (by decide) (br_t (by decide) ?_))))
    show post _
    rw [ba_cnt (by omega), show m / 16 % 4 = m / 16 by omega]
    exact hp
  · have h19 := h.2.1
    have h9 := h.1
    clear h
    revert hp e h19
    refine tk_30 (P := fun c => post (nI (if c = 29 then 1 else tk_n c v.toNatClampNeg)) → ¬ c = 5 → c ≠ 19 → wpX_operandsOf post (nI c) v) ?_ ?_ ?_ h9
    · refine tk_ten ?_ ?_ ?_ ?_ ?_ ?_ ?_ ?_ ?_ ?_ <;> intro hp e h19 <;> first | exact absurd rfl e | (repeat (first | exact hp | refine br_t (by decide) ?_ | refine br_f (by decide) ?_))
    · refine tk_ten ?_ ?_ ?_ ?_ ?_ ?_ ?_ ?_ ?_ ?_ <;> intro hp e h19 <;> first | exact absurd rfl h19 | (repeat (first | exact hp | refine br_t (by decide) ?_ | refine br_f (by decide) ?_))
    · refine tk_ten ?_ ?_ ?_ ?_ ?_ ?_ ?_ ?_ ?_ ?_ <;> intro hp e h19 <;> (repeat (first | exact hp | refine br_t (by decide) ?_ | refine br_f (by decide) ?_))
/-- a stack in an array -/
def sk_ar (g : Nat → Int32) (a : Nat → Int32) : List Nat → Prop
  | [] => True
  | o :: l => a l.length = g o ∧ sk_ar g a l
theorem sk_ar_ext {g a b : Nat → Int32} : ∀ l : List Nat, sk_ar g a l → (∀ j, j < l.length → b j = a j) → sk_ar g b l := by
  intro l
  induction l with
  | nil => exact fun _ _ => trivial
  | cons o l ih => exact fun h hb => ⟨by rw [hb _ (Nat.lt_succ_self _)]; exact h.1, ih h.2 (fun j hj => hb j (Nat.lt_succ_of_lt hj))⟩
theorem sk_ar_upd {g a : Nat → Int32} {x : Int32} {l : List Nat} (h : sk_ar g a l) : sk_ar g (upd a l.length x) l := sk_ar_ext l h (fun j hj => pk_un (by omega))
theorem sk_fit_close {K N : Nat → Nat} {i : Nat} (h : sk_fit K N i) (hk : K i = 23 ∨ K i = 27) : ∃ o l, sk_st K i = o :: l ∧ (K i = 23 → K o = 22) := by
  unfold sk_fit at h
  split at h
  · omega
  · unfold sk_fit2 at h
    split at h
    · omega
    · cases es : sk_st K i with
      | nil =>
        rw [es] at h
        change K i = 28 ∨ K i = 29 at h
        omega
      | cons o l =>
        rw [es] at h
        change (if K i = 23 then K o = 22 else 20 ≤ K i ∧ K i ≤ 27) at h
        refine ⟨o, l, rfl, fun e => ?_⟩
        rw [if_pos e] at h
        exact h
section
variable {f_draftCount f_openCount f_operandsDue f_faultPlace f_listCount f_takenCount f_culpritName f_memorySize f_operandCount f_pendingCount f_frameCount f_next f_outcome f_lastResult f_stepCount : Int32} {a_draftKind a_draftValue a_draftPartner a_openBlock a_unitKind a_unitValue a_unitPartner a_unitLength a_listedUnit a_listedAsLibrary a_takenUnit a_definition a_isDuplicate a_isWanted a_codeKind a_codeValue a_codePartner a_functionOf a_placeOf a_memory a_operands a_pendingToken a_pendingDue a_locals a_returnTo : Nat → Int32}
variable {K N : Nat → Nat}
theorem xf_34 {post : Int32 → Prop} {i : Nat} (hi : i < 50) (hK : ∀ j, j < 50 → a_draftKind j = nI (K j)) (h9 : ∀ j, j < 50 → K j ≤ 29) (hdb : sk_d K N i < 1000) (har : sk_ar nI a_openBlock (sk_st K i)) (hop : sk_op K i (sk_st K i)) (h1 : sk_fit2 K N i → post 1) (h0 : ¬ sk_fit2 K N i → post 0) : wX_fits_34 post (nI (K i)) f_draftCount (nI (sk_st K i).length) (nI (sk_d K N i)) f_faultPlace f_listCount f_takenCount f_culpritName f_memorySize f_operandCount f_pendingCount f_frameCount f_next f_outcome f_lastResult f_stepCount a_draftKind a_draftValue a_draftPartner a_openBlock a_unitKind a_unitValue a_unitPartner a_unitLength a_listedUnit a_listedAsLibrary a_takenUnit a_definition a_isDuplicate a_isWanted a_codeKind a_codeValue a_codePartner a_functionOf a_placeOf a_memory a_operands a_pendingToken a_pendingDue a_locals a_returnTo := by
  have hb := sk_B_le K i
  have h9i := h9 i hi
  refine pk_le (sk_d K N i) 0 (fun hz => ?_) (fun hz => ?_)
  · have e2 : sk_fit2 K N i = sk_fit3 K (K i) (sk_st K i) := if_neg (by omega)
    rw [e2] at h1 h0
    cases es : sk_st K i with
    | nil =>
      rw [es] at h1 h0
      exact br_t rfl (pk_eq (K i) 28 (fun e => ⟨rfl, h1 (Or.inl e)⟩) (fun e => pk_eq (K i) 29 (fun e2 => ⟨rfl, h1 (Or.inr e2)⟩) (fun e2 => ⟨rfl, h0 (by intro z; rcases z with z | z <;> omega)⟩)))
    | cons o l =>
      rw [es] at h1 h0 har hop hb
      have hl : l.length + 1 ≤ i := hb
      have ho : o < i := hop.1.1
      refine br_f (nI_ne0 (Nat.succ_pos _) (by show l.length + 1 < _; omega)) ?_
      have e1 : nI (o :: l).length - 1 = nI l.length := nI_pred _
      have e3 : (nI (o :: l).length - 1).toNatClampNeg = l.length := by rw [e1, nI_clamp (by omega)]
      have e4 : a_openBlock (nI (o :: l).length - 1).toNatClampNeg = nI o := by rw [e3]; exact har.1
      have e5 : a_draftKind (a_openBlock (nI (o :: l).length - 1).toNatClampNeg).toNatClampNeg = nI (K o) := by
        rw [e4, nI_clamp (by omega)]; exact hK o (by omega)
      have h9o := h9 o (by omega)
      refine pk_eq (K i) 23 (fun e => ⟨pk_in l.length 50 (by omega) e1, pk_in o 50 (by omega) e4, pk_eq (K o) 22 (fun z => h1 ?_) (fun z => h0 ?_) e5⟩) (fun e => pk_lt (K i) 20 (fun z => h0 ?_) (fun z => pk_lt 27 (K i) (fun z2 => h0 ?_) (fun z2 => h1 ?_)))
      · show if _ then _ else _
        rw [if_pos e]; exact z
      · show ¬ if _ then _ else _
        rw [if_pos e]; exact z
      · show ¬ if _ then _ else _
        rw [if_neg e]; omega
      · show ¬ if _ then _ else _
        rw [if_neg e]; omega
      · show if _ then _ else _
        rw [if_neg e]; omega
  · have e2 : sk_fit2 K N i = (K i ≤ 18) := if_pos (by omega)
    rw [e2] at h1 h0
    exact pk_lt 18 (K i) (fun z => h0 (by omega)) (fun z => h1 z)
theorem xf_fits {post : Int32 → Prop} {i : Nat} (hi : i < 50) (hK : ∀ j, j < 50 → a_draftKind j = nI (K j)) (h9 : ∀ j, j < 50 → K j ≤ 29) (hdb : sk_d K N i < 1000) (har : sk_ar nI a_openBlock (sk_st K i)) (hop : sk_op K i (sk_st K i)) (h1 : sk_fit K N i → post 1) (h0 : ¬ sk_fit K N i → post 0) : wpX_fits post (f_draftCount, nI (sk_st K i).length, nI (sk_d K N i), f_faultPlace, f_listCount, f_takenCount, f_culpritName, f_memorySize, f_operandCount, f_pendingCount, f_frameCount, f_next, f_outcome, f_lastResult, f_stepCount, a_draftKind, a_draftValue, a_draftPartner, a_openBlock, a_unitKind, a_unitValue, a_unitPartner, a_unitLength, a_listedUnit, a_listedAsLibrary, a_takenUnit, a_definition, a_isDuplicate, a_isWanted, a_codeKind, a_codeValue, a_codePartner, a_functionOf, a_placeOf, a_memory, a_operands, a_pendingToken, a_pendingDue, a_locals, a_returnTo) (nI i) := by
  have h9i := h9 i hi
  refine ⟨pk_in i 50 hi, nm_r (e' := nI (K i)) (by rw [nI_clamp (by omega), hK i hi]) (pk_le i 0 (fun hz => ?_) (fun hz => ?_))⟩
  · have e2 : sk_fit K N i = sk_fit2 K N i := if_neg (by omega)
    rw [e2] at h1 h0
    exact xf_34 hi hK h9 hdb har hop h1 h0
  · have e1 : nI i - 1 = nI (i - 1) := ba_s1 hz
    have e3 : a_draftKind (nI i - 1).toNatClampNeg = nI (K (i - 1)) := by rw [e1, nI_clamp (by omega)]; exact hK _ (by omega)
    have h9j := h9 (i - 1) (by omega)
    refine ⟨pk_in (i - 1) 50 (by omega) e1, pk_eq (K (i - 1)) 29 (fun e => ?_) (fun e => ?_) e3⟩
    · have e2 : sk_fit K N i = (K i = 0) := if_pos ⟨hz, e⟩
      rw [e2] at h1 h0
      exact pk_eq (K i) 0 h1 h0
    · have e2 : sk_fit K N i = sk_fit2 K N i := if_neg (by omega)
      rw [e2] at h1 h0
      exact xf_34 hi hK h9 hdb har hop h1 h0
theorem xf_accept {post : SX → Prop} {i : Nat} (hi : i < 50) (hK : ∀ j, j < 50 → a_draftKind j = nI (K j)) (hP : ∀ j, j < 50 → tk_P (K j) (a_draftValue j)) (hN : ∀ j, j < 50 → N j = tk_n (K j) (a_draftValue j).toNatClampNeg) (hdb : sk_d K N i < 1000) (har : sk_ar nI a_openBlock (sk_st K i)) (hop : sk_op K i (sk_st K i)) (hcl : sk_cl K a_draftPartner i) (hf : sk_fit K N i)
    (hp : ∀ ob pa, sk_ar nI ob (sk_st K (i + 1)) → sk_op K (i + 1) (sk_st K (i + 1)) → sk_cl K pa (i + 1) → post (f_draftCount, nI (sk_st K (i + 1)).length, nI (sk_d K N (i + 1)), f_faultPlace, f_listCount, f_takenCount, f_culpritName, f_memorySize, f_operandCount, f_pendingCount, f_frameCount, f_next, f_outcome, f_lastResult, f_stepCount, a_draftKind, a_draftValue, pa, ob, a_unitKind, a_unitValue, a_unitPartner, a_unitLength, a_listedUnit, a_listedAsLibrary, a_takenUnit, a_definition, a_isDuplicate, a_isWanted, a_codeKind, a_codeValue, a_codePartner, a_functionOf, a_placeOf, a_memory, a_operands, a_pendingToken, a_pendingDue, a_locals, a_returnTo)) : wpX_accept post (f_draftCount, nI (sk_st K i).length, nI (sk_d K N i), f_faultPlace, f_listCount, f_takenCount, f_culpritName, f_memorySize, f_operandCount, f_pendingCount, f_frameCount, f_next, f_outcome, f_lastResult, f_stepCount, a_draftKind, a_draftValue, a_draftPartner, a_openBlock, a_unitKind, a_unitValue, a_unitPartner, a_unitLength, a_listedUnit, a_listedAsLibrary, a_takenUnit, a_definition, a_isDuplicate, a_isWanted, a_codeKind, a_codeValue, a_codePartner, a_functionOf, a_placeOf, a_memory, a_operands, a_pendingToken, a_pendingDue, a_locals, a_returnTo) (nI i) := by
  have hb := sk_B_le K i
  have h9i := (hP i hi).1
  have hn3 := tk_n3 (hP i hi)
  rw [← hN i hi] at hn3
  have hops : sk_d K N (i + 1) = sk_d K N i - 1 + (if K i = 29 then 1 else N i) := rfl
  have h24 : wX_accept_24 post (nI i) (nI (K i)) f_draftCount (nI (sk_st K i).length) (nI (sk_d K N i - 1)) f_faultPlace f_listCount f_takenCount f_culpritName f_memorySize f_operandCount f_pendingCount f_frameCount f_next f_outcome f_lastResult f_stepCount a_draftKind a_draftValue a_draftPartner a_openBlock a_unitKind a_unitValue a_unitPartner a_unitLength a_listedUnit a_listedAsLibrary a_takenUnit a_definition a_isDuplicate a_isWanted a_codeKind a_codeValue a_codePartner a_functionOf a_placeOf a_memory a_operands a_pendingToken a_pendingDue a_locals a_returnTo := by
    refine ⟨pk_in i 50 hi, ?_⟩
    rw [nI_clamp (show i < 2 ^ 31 by omega)]
    refine xo_ops (hP i hi) ?_
    rw [← hN i hi]
    refine nm_r (e' := nI (sk_d K N (i + 1))) (by rw [hops, nI_add]) ?_
    have h60 : ∀ pa, ¬ (K i = 23 ∨ K i = 27) → sk_cl K pa i → wX_accept_60 post (nI i) (nI (K i)) f_draftCount (nI (sk_st K i).length) (nI (sk_d K N (i + 1))) f_faultPlace f_listCount f_takenCount f_culpritName f_memorySize f_operandCount f_pendingCount f_frameCount f_next f_outcome f_lastResult f_stepCount a_draftKind a_draftValue pa a_openBlock a_unitKind a_unitValue a_unitPartner a_unitLength a_listedUnit a_listedAsLibrary a_takenUnit a_definition a_isDuplicate a_isWanted a_codeKind a_codeValue a_codePartner a_functionOf a_placeOf a_memory a_operands a_pendingToken a_pendingDue a_locals a_returnTo := by
      intro pa hne hcl
      have hpush : (K i = 28 ∨ K i = 22 ∨ K i = 24) → wX_accept_84 post (nI i) f_draftCount (nI (sk_st K i).length) (nI (sk_d K N (i + 1))) f_faultPlace f_listCount f_takenCount f_culpritName f_memorySize f_operandCount f_pendingCount f_frameCount f_next f_outcome f_lastResult f_stepCount a_draftKind a_draftValue pa a_openBlock a_unitKind a_unitValue a_unitPartner a_unitLength a_listedUnit a_listedAsLibrary a_takenUnit a_definition a_isDuplicate a_isWanted a_codeKind a_codeValue a_codePartner a_functionOf a_placeOf a_memory a_operands a_pendingToken a_pendingDue a_locals a_returnTo := by
        intro hk
        have h2 := sk_stepB hop hcl hk
        refine ⟨pk_in (sk_st K i).length 50 (by omega), nm_r (e' := upd a_openBlock (sk_st K i).length (nI i)) (by rw [nI_clamp (by omega)]) (nm_r (e' := nI (sk_st K (i + 1)).length) (by rw [sk_st_push hk, nI_1]; rfl) ?_)⟩
        refine hp _ _ ?_ h2.1 h2.2
        rw [sk_st_push hk]
        exact ⟨pk_us, sk_ar_upd har⟩
      refine pk_eq (K i) 28 (fun z => hpush (by omega)) (fun z1 => pk_eq (K i) 22 (fun z => hpush (by omega)) (fun z2 => pk_eq (K i) 23 (fun z => by omega) (fun z3 => pk_eq (K i) 24 (fun z => hpush (by omega)) (fun z4 => ?_))))
      have h2 := sk_stepA hop hcl z1 z2 z4 z3 (by omega)
      have es := sk_st_same z1 z2 z4 z3 (show K i ≠ 27 by omega)
      have := hp a_openBlock pa (by rw [es]; exact har) h2.1 h2.2
      rw [es] at this
      exact this
    have h55 : (K i = 23 ∨ K i = 27) → wX_accept_55 post (nI i) (nI (K i)) f_draftCount (nI (sk_st K i).length) (nI (sk_d K N (i + 1))) f_faultPlace f_listCount f_takenCount f_culpritName f_memorySize f_operandCount f_pendingCount f_frameCount f_next f_outcome f_lastResult f_stepCount a_draftKind a_draftValue a_draftPartner a_openBlock a_unitKind a_unitValue a_unitPartner a_unitLength a_listedUnit a_listedAsLibrary a_takenUnit a_definition a_isDuplicate a_isWanted a_codeKind a_codeValue a_codePartner a_functionOf a_placeOf a_memory a_operands a_pendingToken a_pendingDue a_locals a_returnTo := by
      intro hk
      obtain ⟨o, l, es, hko⟩ := sk_fit_close hf hk
      have hlt := hop
      rw [es] at hlt
      have ho : o < i := hlt.1.1
      have hbl : l.length + 1 ≤ i := by rw [es] at hb; exact hb
      have har2 := har
      rw [es] at har2
      unfold wX_accept_55
      refine nm_r (e' := nI l.length) (by rw [es]; exact nI_pred _) ⟨pk_in l.length 50 (by omega), nm_r (e' := nI o) (by rw [nI_clamp (by omega)]; exact har2.1) ⟨pk_in o 50 (by omega), nm_r (e' := upd a_draftPartner o (nI i)) (by rw [nI_clamp (by omega)]) ⟨pk_in i 50 hi, nm_r (e' := upd (upd a_draftPartner o (nI i)) i (nI o)) (by rw [nI_clamp (by omega)]) ?_⟩⟩⟩
      rcases hk with hk | hk
      · have h2 := sk_stepD hop hcl es hk (hko hk)
        refine br_f (ba_ne (b := 28) (by omega) (by omega) (by omega)) (br_f (ba_ne (b := 22) (by omega) (by omega) (by omega)) (br_t (by rw [hk]; rfl) ?_))
        have es2 : sk_st K (i + 1) = i :: l := by rw [sk_st_else hk, es]; rfl
        refine ⟨pk_in l.length 50 (by omega), nm_r (e' := upd a_openBlock l.length (nI i)) (by rw [nI_clamp (by omega)]) (nm_r (e' := nI (sk_st K (i + 1)).length) (by rw [es2, nI_1]; rfl) ?_)⟩
        refine hp _ _ ?_ h2.1 h2.2
        rw [es2]
        exact ⟨pk_us, sk_ar_upd har2.2⟩
      · have h2 := sk_stepC hop hcl es hk
        refine br_f (ba_ne (b := 28) (by omega) (by omega) (by omega)) (br_f (ba_ne (b := 22) (by omega) (by omega) (by omega)) (br_f (ba_ne (b := 23) (by omega) (by omega) (by omega)) (br_f (ba_ne (b := 24) (by omega) (by omega) (by omega)) ?_)))
        have es2 : sk_st K (i + 1) = l := by rw [sk_st_end hk, es]; rfl
        have := hp a_openBlock _ (by rw [es2]; exact har2.2) h2.1 h2.2
        rw [es2] at this
        exact this
    exact pk_eq (K i) 23 (fun z => h55 (Or.inl z)) (fun z => pk_eq (K i) 27 (fun z2 => h55 (Or.inr z2)) (fun z2 => h60 _ (by omega) hcl))
  refine ⟨pk_in i 50 hi, nm_r (e' := nI (K i)) (by rw [nI_clamp (by omega), hK i hi]) (pk_le (sk_d K N i) 0 (fun hz => ?_) (fun hz => ?_))⟩
  · rw [show sk_d K N i - 1 = sk_d K N i by omega] at h24
    exact h24
  · exact nm_r (e' := nI (sk_d K N i - 1)) (ba_s1 hz) h24
/-- the answer of the parse -/
def sk_SF (K N : Nat → Nat) (c : Nat) (r : Int32) : Prop := (∃ i, i < c ∧ r = nI i ∧ (∀ j, j < i → sk_fit K N j) ∧ ¬ sk_fit K N i) ∨ ((∀ j, j < c → sk_fit K N j) ∧ ((sk_st K c = [] ∧ sk_d K N c = 0 ∧ r = -1) ∨ (¬ (sk_st K c = [] ∧ sk_d K N c = 0) ∧ r = nI c)))
theorem xf_loop {post : Int32 → SX → Prop} {c : Nat} (hc : c ≤ 50) (hK : ∀ j, j < 50 → a_draftKind j = nI (K j)) (hP : ∀ j, j < 50 → tk_P (K j) (a_draftValue j)) (hN : ∀ j, j < 50 → N j = tk_n (K j) (a_draftValue j).toNatClampNeg)
    (hp : ∀ r oc od ob pa, sk_SF K N c r → (r = -1 → sk_cl K pa c) → post r (nI c, oc, od, f_faultPlace, f_listCount, f_takenCount, f_culpritName, f_memorySize, f_operandCount, f_pendingCount, f_frameCount, f_next, f_outcome, f_lastResult, f_stepCount, a_draftKind, a_draftValue, pa, ob, a_unitKind, a_unitValue, a_unitPartner, a_unitLength, a_listedUnit, a_listedAsLibrary, a_takenUnit, a_definition, a_isDuplicate, a_isWanted, a_codeKind, a_codeValue, a_codePartner, a_functionOf, a_placeOf, a_memory, a_operands, a_pendingToken, a_pendingDue, a_locals, a_returnTo)) :
    ∀ m i ob pa, i + m = c → sk_ar nI ob (sk_st K i) → sk_op K i (sk_st K i) → sk_cl K pa i → (∀ j, j < i → sk_fit K N j) → wX_syntaxFault_12 post (m + 1) (nI i) (nI c) (nI (sk_st K i).length) (nI (sk_d K N i)) f_faultPlace f_listCount f_takenCount f_culpritName f_memorySize f_operandCount f_pendingCount f_frameCount f_next f_outcome f_lastResult f_stepCount a_draftKind a_draftValue pa ob a_unitKind a_unitValue a_unitPartner a_unitLength a_listedUnit a_listedAsLibrary a_takenUnit a_definition a_isDuplicate a_isWanted a_codeKind a_codeValue a_codePartner a_functionOf a_placeOf a_memory a_operands a_pendingToken a_pendingDue a_locals a_returnTo := by
  have hN3 : ∀ j, j < 50 → N j ≤ 3 := fun j hj => by rw [hN j hj]; exact tk_n3 (hP j hj)
  intro m
  induction m with
  | zero =>
    intro i ob pa hi har hop hcl hall
    have hic : i = c := by omega
    subst hic
    have hdb : sk_d K N i ≤ 3 * i := sk_d_le i (fun j hj => hN3 j (by omega))
    have hb := sk_B_le K i
    refine br_t (nI_le (Nat.le_refl _) (by omega)) ?_
    refine pk_eq (sk_d K N i) 0 (fun hz => pk_eq (sk_st K i).length 0 (fun hl => ?_) (fun hl => ?_)) (fun hz => ?_)
    · exact hp _ _ _ _ _ (Or.inr ⟨hall, Or.inl ⟨List.eq_nil_of_length_eq_zero hl, hz, rfl⟩⟩) (fun _ => hcl)
    · exact hp _ _ _ _ _ (Or.inr ⟨hall, Or.inr ⟨fun z => hl (by rw [z.1]; rfl), rfl⟩⟩) (fun z => absurd z (ba_m1 (by omega)))
    · exact hp _ _ _ _ _ (Or.inr ⟨hall, Or.inr ⟨fun z => hz z.2, rfl⟩⟩) (fun z => absurd z (ba_m1 (by omega)))
  | succ m ih =>
    intro i ob pa hi har hop hcl hall
    have hdb : sk_d K N i ≤ 3 * i := sk_d_le i (fun j hj => hN3 j (by omega))
    refine br_f (nI_ge (by omega) (by omega)) ?_
    refine xf_fits (by omega) hK (fun j hj => (hP j hj).1) (by omega) har hop (fun hf => br_f (by decide) ?_) (fun hf => br_t rfl ?_)
    · refine xf_accept (by omega) hK hP hN (by omega) har hop hcl hf (fun ob' pa' har' hop' hcl' => ?_)
      refine nm_r (nI_1 i) ?_
      exact ih (i + 1) ob' pa' (by omega) har' hop' hcl' (fun j hj => by
        by_cases z : j = i
        · rw [z]; exact hf
        · exact hall j (by omega))
    · exact hp _ _ _ _ _ (Or.inl ⟨i, by omega, rfl, hall, hf⟩) (fun z => absurd z (ba_m1 (by omega)))
theorem xf_syntax {post : Int32 → SX → Prop} {c : Nat} (hc : c ≤ 50) (hK : ∀ j, j < 50 → a_draftKind j = nI (K j)) (hP : ∀ j, j < 50 → tk_P (K j) (a_draftValue j)) (hN : ∀ j, j < 50 → N j = tk_n (K j) (a_draftValue j).toNatClampNeg)
    (hp : ∀ r oc od ob pa, sk_SF K N c r → (r = -1 → sk_cl K pa c) → post r (nI c, oc, od, f_faultPlace, f_listCount, f_takenCount, f_culpritName, f_memorySize, f_operandCount, f_pendingCount, f_frameCount, f_next, f_outcome, f_lastResult, f_stepCount, a_draftKind, a_draftValue, pa, ob, a_unitKind, a_unitValue, a_unitPartner, a_unitLength, a_listedUnit, a_listedAsLibrary, a_takenUnit, a_definition, a_isDuplicate, a_isWanted, a_codeKind, a_codeValue, a_codePartner, a_functionOf, a_placeOf, a_memory, a_operands, a_pendingToken, a_pendingDue, a_locals, a_returnTo)) : wpX_syntaxFault post (nI c, f_openCount, f_operandsDue, f_faultPlace, f_listCount, f_takenCount, f_culpritName, f_memorySize, f_operandCount, f_pendingCount, f_frameCount, f_next, f_outcome, f_lastResult, f_stepCount, a_draftKind, a_draftValue, a_draftPartner, a_openBlock, a_unitKind, a_unitValue, a_unitPartner, a_unitLength, a_listedUnit, a_listedAsLibrary, a_takenUnit, a_definition, a_isDuplicate, a_isWanted, a_codeKind, a_codeValue, a_codePartner, a_functionOf, a_placeOf, a_memory, a_operands, a_pendingToken, a_pendingDue, a_locals, a_returnTo) :=
  ⟨c + 1, xf_loop hc hK hP hN hp c 0 a_openBlock a_draftPartner (by omega) trivial trivial ⟨fun o h => absurd h (by omega), fun o h => absurd h (by omega)⟩ (fun j h => absurd h (by omega))⟩
end
end
section
/-! the reference's parse -/
section
variable {g_place g_culprit g_listed g_units g_taken g_used g_depth g_waiting g_held g_fault g_steps g_result g_given g_gift g_has : Int32} {b_kind b_value b_size b_list b_library b_places b_memory b_wanted b_pc b_base b_locals b_waits b_got b_values : Nat → Int32}
variable {K N : Nat → Nat}
theorem yo_ops {post : Int32 → Prop} {p c : Nat} (hp : p < 800) (hk : b_kind p = nI c) (h : tk_P c (b_value p)) (hpost : post (nI (tk_n c (b_value p).toNatClampNeg))) : wpY_operands post (g_place, g_culprit, g_listed, g_units, g_taken, g_used, g_depth, g_waiting, g_held, g_fault, g_steps, g_result, g_given, g_gift, g_has, b_kind, b_value, b_size, b_list, b_library, b_places, b_memory, b_wanted, b_pc, b_base, b_locals, b_waits, b_got, b_values) (nI p) := by
  have h9 := h.1
  have ec : (nI p).toNatClampNeg = p := nI_clamp (by omega)
  refine ⟨pk_in p 800 hp, nm_r (e' := nI c) (by rw [ec, hk]) ?_⟩
  have h39 : ¬ c < 4 → c ≠ 5 → ¬ (c < 18 ∧ 5 < c) → wY_operands_39 post (nI c) g_place g_culprit g_listed g_units g_taken g_used g_depth g_waiting g_held g_fault g_steps g_result g_given g_gift g_has b_kind b_value b_size b_list b_library b_places b_memory b_wanted b_pc b_base b_locals b_waits b_got b_values := by
    intro a1 a2 a3
    have e0 : tk_n c (b_value p).toNatClampNeg = if c = 21 then 2 else if c = 23 then 0 else if c ≤ 26 then 1 else 0 := by
      unfold tk_n
      rw [if_neg a1, if_neg a2, if_neg a3]
    rw [e0] at hpost
    refine pk_eq c 21 (fun e => ?_) (fun e => pk_eq c 23 (fun e2 => ?_) (fun e2 => pk_le c 26 (fun e3 => ?_) (fun e3 => ?_)))
    · rw [if_pos e] at hpost; exact hpost
    · rw [if_neg e, if_pos e2] at hpost; exact hpost
    · rw [if_neg e, if_neg e2, if_pos e3] at hpost; exact hpost
    · rw [if_neg e, if_neg e2, if_neg (by omega)] at hpost; exact hpost
  refine pk_le 4 c (fun h4 => pk_eq c 5 (fun e => ⟨pk_in p 800 hp, ?_⟩) (fun e => pk_le 18 c (fun h18 => h39 (by omega) e (by omega)) (fun h18 => pk_lt 5 c (fun h5 => ?_) (fun h5 => h39 (by omega) e (by omega))))) (fun h4 => ?_)
  · obtain ⟨m, hm, _, ev⟩ := h.2.2.2.2.1 e
    rw [ec, ev, ba_shr4 (by omega)]
    rw [ev, nI_clamp (by omega), e] at hpost
    exact hpost
  · have e0 : tk_n c (b_value p).toNatClampNeg = 2 := by
      unfold tk_n
      rw [if_neg (by omega), if_neg e, if_pos (by omega)]
    rw [e0] at hpost; exact hpost
  · have e0 : tk_n c (b_value p).toNatClampNeg = 0 := by
      unfold tk_n
      rw [if_pos (by omega)]
    rw [e0] at hpost; exact hpost
theorem ym_252 {post : Int32 → SY → Prop} {J : Int32 → Int32 → (Nat → Int32) → (Nat → Int32) → (Nat → Int32) → (Nat → Int32) → (Nat → Int32) → (Nat → Int32) → (Nat → Int32) → (Nat → Int32) → (Nat → Int32) → (Nat → Int32) → (Nat → Int32) → (Nat → Int32) → (Nat → Int32) → (Nat → Int32) → Prop} {i n t : Nat} (ht : t + n ≤ 200) : ∀ m k w, k + m = n → (∀ j, j < t → w j = b_wanted j) → (∀ j, t ≤ j → j < t + k → w j = 1)
    → (∀ w', (∀ j, j < t → w' j = b_wanted j) → (∀ j, t ≤ j → j < t + n → w' j = 1) → J (nI (t + n)) (nI (i + 1)) b_kind b_value b_size b_list b_library b_places b_memory w' b_pc b_base b_locals b_waits b_got b_values) → wY_misfit_252 post J (nI i) (nI n) g_place g_culprit g_listed g_units g_taken g_used g_depth g_waiting g_held g_fault g_steps g_result g_given g_gift g_has (m + 1) (nI (t + k)) (nI k) b_kind b_value b_size b_list b_library b_places b_memory w b_pc b_base b_locals b_waits b_got b_values := by
  intro m
  induction m with
  | zero =>
    intro k w hk h1 h2 hJ
    have e : k = n := by omega
    subst e
    exact br_t (nI_le (Nat.le_refl _) (by omega)) (nm_r (nI_1 i) (hJ w h1 h2))
  | succ m ih =>
    intro k w hk h1 h2 hJ
    refine br_f (nI_ge (by omega) (by omega)) (nm_r (nI_1 _) ⟨pk_in (t + k) 200 (by omega), nm_r (e' := upd w (t + k) 1) (by rw [nI_clamp (by omega)]; exact congrArg _ (ba_nb (n := 1) (by omega))) (nm_r (nI_1 k) ?_)⟩)
    have := ih (k + 1) (upd w (t + k) 1) (by omega) (fun j hj => by rw [pk_un (by omega), h1 j hj]) (fun j hj hj2 => by
      by_cases z : j = t + k
      · rw [z, pk_us]
      · rw [pk_un z, h2 j hj (by omega)]) hJ
    exact this
/-- what the stack of wants holds -/
def ym_g (K : Nat → Nat) (o : Nat) : Int32 := if K o = 22 then 3 else 2
def ym_I (K N : Nat → Nat) (i : Nat) (w : Nat → Int32) : Prop := sk_ar (ym_g K) w (sk_st K i) ∧ ∀ j, (sk_st K i).length ≤ j → j < (sk_st K i).length + sk_d K N i → w j = if 0 < i ∧ K (i - 1) = 29 then 4 else 1
theorem ym_228 {post : Int32 → SY → Prop} {J : Int32 → Int32 → (Nat → Int32) → (Nat → Int32) → (Nat → Int32) → (Nat → Int32) → (Nat → Int32) → (Nat → Int32) → (Nat → Int32) → (Nat → Int32) → (Nat → Int32) → (Nat → Int32) → (Nat → Int32) → (Nat → Int32) → (Nat → Int32) → (Nat → Int32) → Prop} {i t : Nat} {x4 : Int32} {w : Nat → Int32} (hi : i < 50) (hx : ¬ x4 = 4) (hK : b_kind (250 + i) = nI (K i)) (hP : tk_P (K i) (b_value (250 + i))) (hN : N i = tk_n (K i) (b_value (250 + i)).toNatClampNeg) (ht : t + N i ≤ 200)
    (hJ : ∀ w', (∀ j, j < t → w' j = w j) → (∀ j, t ≤ j → j < t + N i → w' j = 1) → J (nI (t + N i)) (nI (i + 1)) b_kind b_value b_size b_list b_library b_places b_memory w' b_pc b_base b_locals b_waits b_got b_values) : wY_misfit_228 post J (nI t) (nI i) x4 g_place g_culprit g_listed g_units g_taken g_used g_depth g_waiting g_held g_fault g_steps g_result g_given g_gift g_has b_kind b_value b_size b_list b_library b_places b_memory w b_pc b_base b_locals b_waits b_got b_values := by
  refine br_f hx ?_
  rw [show (250 : Int32) + nI i = nI (250 + i) from nI_add 250 i]
  refine yo_ops (by omega) hK hP ?_
  rw [← hN]
  exact ⟨N i + 1, ym_252 ht (N i) 0 w (by omega) (fun j _ => rfl) (fun j a b => absurd a (by omega)) hJ⟩
theorem ym_159n {post : Int32 → SY → Prop} {J : Int32 → Int32 → (Nat → Int32) → (Nat → Int32) → (Nat → Int32) → (Nat → Int32) → (Nat → Int32) → (Nat → Int32) → (Nat → Int32) → (Nat → Int32) → (Nat → Int32) → (Nat → Int32) → (Nat → Int32) → (Nat → Int32) → (Nat → Int32) → (Nat → Int32) → Prop} {x1 x2 x4 : Int32} {k : Nat} (h9 : k ≤ 29) (h1 : k ≠ 23) (h2 : k ≠ 28) (h3 : k ≠ 24) (h4 : k ≠ 22) (h5 : k ≠ 29) (h : wY_misfit_228 post J x1 x2 x4 g_place g_culprit g_listed g_units g_taken g_used g_depth g_waiting g_held g_fault g_steps g_result g_given g_gift g_has b_kind b_value b_size b_list b_library b_places b_memory b_wanted b_pc b_base b_locals b_waits b_got b_values) : wY_misfit_159 post J x1 x2 (nI k) x4 g_place g_culprit g_listed g_units g_taken g_used g_depth g_waiting g_held g_fault g_steps g_result g_given g_gift g_has b_kind b_value b_size b_list b_library b_places b_memory b_wanted b_pc b_base b_locals b_waits b_got b_values :=
  br_f (ba_ne (b := 23) (by omega) (by omega) h1) (br_f (ba_ne (b := 28) (by omega) (by omega) h2) (br_f (ba_ne (b := 24) (by omega) (by omega) h3) (br_f (ba_ne (b := 22) (by omega) (by omega) h4) (br_f (ba_ne (b := 29) (by omega) (by omega) h5) h))))
theorem ym_body {post : Int32 → SY → Prop} {J : Int32 → Int32 → (Nat → Int32) → (Nat → Int32) → (Nat → Int32) → (Nat → Int32) → (Nat → Int32) → (Nat → Int32) → (Nat → Int32) → (Nat → Int32) → (Nat → Int32) → (Nat → Int32) → (Nat → Int32) → (Nat → Int32) → (Nat → Int32) → (Nat → Int32) → Prop} {i : Nat} {w : Nat → Int32} (hi : i < 50) (hK : b_kind (250 + i) = nI (K i)) (hP : tk_P (K i) (b_value (250 + i))) (hN : N i = tk_n (K i) (b_value (250 + i)).toNatClampNeg) (hd : sk_d K N i ≤ 3 * i) (hI : ym_I K N i w) (hop : sk_op K i (sk_st K i)) (hall : ∀ j, j < i → sk_fit K N j)
    (hJ : sk_fit K N i → ∀ w', ym_I K N (i + 1) w' → J (nI ((sk_st K (i + 1)).length + sk_d K N (i + 1))) (nI (i + 1)) b_kind b_value b_size b_list b_library b_places b_memory w' b_pc b_base b_locals b_waits b_got b_values) (h0 : ¬ sk_fit K N i → post (nI i) (g_place, g_culprit, g_listed, g_units, g_taken, g_used, g_depth, g_waiting, g_held, g_fault, g_steps, g_result, g_given, g_gift, g_has, b_kind, b_value, b_size, b_list, b_library, b_places, b_memory, w, b_pc, b_base, b_locals, b_waits, b_got, b_values)) :
    ((nI ((sk_st K i).length + sk_d K N i) = 0 → wY_misfit_41 post J (nI ((sk_st K i).length + sk_d K N i)) (nI i) (nI (K i)) 0 g_place g_culprit g_listed g_units g_taken g_used g_depth g_waiting g_held g_fault g_steps g_result g_given g_gift g_has b_kind b_value b_size b_list b_library b_places b_memory w b_pc b_base b_locals b_waits b_got b_values) ∧ (¬ nI ((sk_st K i).length + sk_d K N i) = 0 → (vp_in (nI ((sk_st K i).length + sk_d K N i) - 1) 200 ∧ wY_misfit_41 post J (nI ((sk_st K i).length + sk_d K N i)) (nI i) (nI (K i)) (w (nI ((sk_st K i).length + sk_d K N i) - 1).toNatClampNeg) g_place g_culprit g_listed g_units g_taken g_used g_depth g_waiting g_held g_fault g_steps g_result g_given g_gift g_has b_kind b_value b_size b_list b_library b_places b_memory w b_pc b_base b_locals b_waits b_got b_values))) := by
  have hb := sk_B_le K i
  have h9 := hP.1
  have hn3 := tk_n3 hP
  rw [← hN] at hn3
  have hd1 : sk_d K N (i + 1) = sk_d K N i - 1 + (if K i = 29 then 1 else N i) := rfl
  by_cases ha : 0 < i ∧ K (i - 1) = 29
  · -- behind DATA
    have hs := sk_after1 (hall (i - 1) (by omega)) ha.2
    rw [show i - 1 + 1 = i by omega] at hs
    have ef : sk_fit K N i = (K i = 0) := if_pos ha
    rw [ef] at h0 hJ
    have e1 : (sk_st K i).length + sk_d K N i = 1 := by rw [hs.1, hs.2]; rfl
    have hw := hI.2 0 (by rw [hs.1]; exact Nat.le_refl _) (by omega)
    rw [if_pos ha] at hw
    rw [e1]
    refine br_f (by decide) ⟨pk_in 0 200 (by omega) (by decide), ?_⟩
    have ew : w ((nI 1 - 1 : Int32)).toNatClampNeg = 4 := by rw [show (nI 1 - 1 : Int32).toNatClampNeg = 0 by decide]; exact hw
    rw [ew]
    refine br_f (by decide) (br_f (by decide) (br_t rfl (pk_eq (K i) 0 (fun hz => ?_) (fun hz => ?_))))
    · refine br_f (by decide) (br_f (by decide) (br_t rfl (nm_r (e' := nI 0) (by decide) ?_)))
      refine ym_159n h9 (by omega) (by omega) (by omega) (by omega) (by omega) (br_t rfl ⟨1, ?_⟩)
      refine ym_252 (t := 0) (n := 0) (by omega) 0 0 w (by omega) (fun j _ => rfl) (fun j a b => absurd a (by omega)) (fun w' a b => ?_)
      have hn0 : N i = 0 := by rw [hN, hz]; rfl
      have es : sk_st K (i + 1) = [] := by rw [sk_st_same (by omega) (by omega) (by omega) (by omega) (by omega), hs.1]
      have ed : sk_d K N (i + 1) = 0 := by rw [hd1, if_neg (by omega), hs.2, hn0]
      have := hJ hz w' ⟨by rw [es]; exact trivial, fun j c d => by rw [es, ed] at d; exact absurd d (Nat.not_lt_zero _)⟩
      rw [es, ed] at this
      exact this
    · exact br_t rfl (h0 hz)
  · have ef : sk_fit K N i = sk_fit2 K N i := if_neg ha
    rw [ef] at h0 hJ
    have hw1 : ∀ j, (sk_st K i).length ≤ j → j < (sk_st K i).length + sk_d K N i → w j = 1 := fun j a b => by rw [hI.2 j a b, if_neg ha]
    by_cases hdz : 0 < sk_d K N i
    · -- an operand is due
      have ef2 : sk_fit2 K N i = (K i ≤ 18) := if_pos hdz
      rw [ef2] at h0 hJ
      have e1 : nI ((sk_st K i).length + sk_d K N i) - 1 = nI ((sk_st K i).length + sk_d K N i - 1) := ba_s1 (by omega)
      refine br_f (nI_ne0 (by omega) (by omega)) ⟨pk_in ((sk_st K i).length + sk_d K N i - 1) 200 (by omega) e1, ?_⟩
      have ew : w (nI ((sk_st K i).length + sk_d K N i) - 1).toNatClampNeg = 1 := by
        rw [e1, nI_clamp (by omega)]
        exact hw1 _ (by omega) (by omega)
      rw [ew]
      refine br_f (by decide) (br_t rfl (pk_lt 18 (K i) (fun hz => br_t rfl (h0 (by omega))) (fun hz => ?_)))
      refine br_f (by decide) (br_t rfl (nm_r (e' := nI ((sk_st K i).length + sk_d K N i - 1)) (by rw [← e1]; exact (Int32.sub_eq_add_neg _ _).symm) ?_))
      have es : sk_st K (i + 1) = sk_st K i := sk_st_same (by omega) (by omega) (by omega) (by omega) (by omega)
      have ed : sk_d K N (i + 1) = sk_d K N i - 1 + N i := by rw [hd1, if_neg (by omega)]
      refine ym_159n h9 (by omega) (by omega) (by omega) (by omega) (by omega) (ym_228 hi (by decide) hK hP hN (by omega) (fun w' a b => ?_))
      have := hJ hz w' ⟨by rw [es]; exact sk_ar_ext _ hI.1 (fun j hj => a j (by omega)), fun j c d => by
        rw [es] at c d
        rw [if_neg (by rw [Nat.add_sub_cancel]; omega)]
        by_cases z : j < (sk_st K i).length + sk_d K N i - 1
        · rw [a j z, hw1 j c (by omega)]
        · exact b j (by omega) (by omega)⟩
      rw [es, ed, show (sk_st K i).length + (sk_d K N i - 1 + N i) = (sk_st K i).length + sk_d K N i - 1 + N i by omega] at this
      exact this
    · have ef2 : sk_fit2 K N i = sk_fit3 K (K i) (sk_st K i) := if_neg hdz
      rw [ef2] at h0 hJ
      have hd0 : sk_d K N i = 0 := by omega
      have hfin : ∀ (t : Nat) (w0 : Nat → Int32) (x4 : Int32), K i ≠ 29 → ¬ x4 = 4 → t = (sk_st K (i + 1)).length → sk_ar (ym_g K) w0 (sk_st K (i + 1)) → sk_fit3 K (K i) (sk_st K i) → wY_misfit_228 post J (nI t) (nI i) x4 g_place g_culprit g_listed g_units g_taken g_used g_depth g_waiting g_held g_fault g_steps g_result g_given g_gift g_has b_kind b_value b_size b_list b_library b_places b_memory w0 b_pc b_base b_locals b_waits b_got b_values := by
        intro t w0 x4 hne hx et har0 hf
        have hb1 := sk_B_le K (i + 1)
        refine ym_228 hi hx hK hP hN (by omega) (fun w' a b => ?_)
        have ed : sk_d K N (i + 1) = N i := by rw [hd1, if_neg hne, hd0]; omega
        have := hJ hf w' ⟨sk_ar_ext _ har0 (fun j hj => a j (by omega)), fun j c d => by
          rw [if_neg (by rw [Nat.add_sub_cancel]; omega)]
          exact b j (by omega) (by omega)⟩
        rw [ed, ← et] at this
        exact this
      cases es : sk_st K i with
      | nil =>
        rw [es] at h0 hJ hfin
        rw [hd0]
        refine br_t rfl (br_t rfl (pk_lt (K i) 28 (fun hz => br_t rfl (h0 (fun z => by rcases z with z | z <;> omega))) (fun hz => ?_)))
        refine br_f (by decide) (br_f (by decide) (br_f (by decide) (br_f (ba_ne (b := 27) (by omega) (by omega) (by omega)) (br_f (ba_ne (b := 23) (by omega) (by omega) (by omega)) (pk_eq (K i) 28 (fun e => ?_) (fun e => ?_))))))
        · refine nm_r (e' := nI 1) (by decide) ⟨pk_in 0 200 (by omega) rfl, nm_r (e' := upd w 0 2) (congrArg (upd w 0) (ba_nb (n := 2) (by omega))) ?_⟩
          refine br_f (ba_ne (b := 22) (by omega) (by omega) (by omega)) (br_f (ba_ne (b := 29) (by omega) (by omega) (by omega)) ?_)
          have es2 : sk_st K (i + 1) = [i] := by rw [sk_st_push (Or.inl e), es]
          exact hfin 1 _ 0 (by omega) (by decide) (by rw [es2]; rfl) (by rw [es2]; exact ⟨by rw [show ([] : List Nat).length = 0 from rfl, pk_us]; exact (if_neg (by omega)).symm, trivial⟩) (Or.inl e)
        · have e29 : K i = 29 := by omega
          refine br_f (ba_ne (b := 24) (by omega) (by omega) (by omega)) (br_f (ba_ne (b := 22) (by omega) (by omega) (by omega)) (br_t (by rw [e29]; rfl) (nm_r (e' := nI 1) (by decide) ⟨pk_in 0 200 (by omega) rfl, nm_r (e' := upd w 0 4) (congrArg (upd w 0) (ba_nb (n := 4) (by omega))) ?_⟩)))
          have hn0 : N i = 0 := by rw [hN, e29]; rfl
          refine ym_228 hi (by decide) hK hP hN (by omega) (fun w' a b => ?_)
          have es2 : sk_st K (i + 1) = [] := by rw [sk_st_same (by omega) (by omega) (by omega) (by omega) (by omega), es]
          have ed : sk_d K N (i + 1) = 1 := by rw [hd1, if_pos e29, hd0]
          have := hJ (Or.inr e29) w' ⟨by rw [es2]; exact trivial, fun j c d => by
            rw [es2, ed] at d
            rw [if_pos ⟨by omega, by rw [Nat.add_sub_cancel]; exact e29⟩, a j (by simpa using d), show j = 0 from by have : j < 0 + 1 := d; omega, pk_us]⟩
          rw [es2, ed] at this
          rw [hn0]
          exact this
      | cons o l =>
        rw [es] at h0 hJ hfin hop hb
        have hl : l.length + 1 ≤ i := hb
        have ho : o < i := hop.1.1
        have har := hI.1
        rw [es] at har
        rw [hd0]
        have e1 : nI ((o :: l).length + 0) - 1 = nI l.length := nI_pred _
        have ew : w (nI ((o :: l).length + 0) - 1).toNatClampNeg = ym_g K o := by
          rw [e1, nI_clamp (by omega)]; exact har.1
        refine br_f (nI_ne0 (Nat.succ_pos _) (by show l.length + 1 < _; omega)) ⟨pk_in l.length 200 (by omega) e1, ?_⟩
        rw [ew]
        have eg : ym_g K o = 2 ∧ K o ≠ 22 ∨ ym_g K o = 3 ∧ K o = 22 := by
          unfold ym_g
          by_cases z : K o = 22
          · rw [if_pos z]; exact Or.inr ⟨rfl, z⟩
          · rw [if_neg z]; exact Or.inl ⟨rfl, z⟩
        have g0 : ¬ ym_g K o = 0 := by rcases eg with e | e <;> rw [e.1] <;> decide
        have g1 : ¬ ym_g K o = 1 := by rcases eg with e | e <;> rw [e.1] <;> decide
        have g4 : ¬ ym_g K o = 4 := by rcases eg with e | e <;> rw [e.1] <;> decide
        have e3 : ∀ z : K i ≠ 23, sk_fit3 K (K i) (o :: l) = (20 ≤ K i ∧ K i ≤ 27) := fun z => if_neg z
        have hyes : sk_fit3 K (K i) (o :: l) → wY_misfit_124 post J (nI ((o :: l).length + 0)) (nI i) (nI (K i)) (ym_g K o) g_place g_culprit g_listed g_units g_taken g_used g_depth g_waiting g_held g_fault g_steps g_result g_given g_gift g_has b_kind b_value b_size b_list b_library b_places b_memory w b_pc b_base b_locals b_waits b_got b_values := by
          intro hf
          have hr : 20 ≤ K i ∧ K i ≤ 27 := by
            by_cases z : K i = 23
            · omega
            · rw [e3 z] at hf; exact hf
          refine br_f (by decide) (br_f g1 (br_f g4 (pk_eq (K i) 27 (fun e => ?_) (fun e => ?_))))
          · refine nm_r (e' := nI l.length) (by rw [← e1]; exact (Int32.sub_eq_add_neg _ _).symm) ?_
            refine ym_159n h9 (by omega) (by omega) (by omega) (by omega) (by omega) ?_
            have es2 : sk_st K (i + 1) = l := by rw [sk_st_end e, es]; rfl
            exact hfin l.length w _ (by omega) g4 (by rw [es2]) (by rw [es2]; exact har.2) hf
          · by_cases z23 : K i = 23
            · have es2 : sk_st K (i + 1) = i :: l := by rw [sk_st_else z23, es]; rfl
              refine br_t (by rw [z23]; rfl) ⟨pk_in l.length 200 (by omega) e1, nm_r (e' := upd w l.length 2) (by rw [e1, nI_clamp (by omega)]; exact congrArg (upd w l.length) (ba_nb (n := 2) (by omega))) ?_⟩
              refine br_f (ba_ne (b := 28) (by omega) (by omega) (by omega)) (br_f (ba_ne (b := 24) (by omega) (by omega) (by omega)) (br_f (ba_ne (b := 22) (by omega) (by omega) (by omega)) (br_f (ba_ne (b := 29) (by omega) (by omega) (by omega)) ?_)))
              exact hfin (l.length + 1) _ _ (by omega) g4 (by rw [es2]; rfl) (by rw [es2]; exact ⟨by rw [pk_us]; exact (if_neg (by omega)).symm, sk_ar_upd har.2⟩) hf
            · refine br_f (ba_ne (b := 23) (by omega) (by omega) z23) (br_f (ba_ne (b := 28) (by omega) (by omega) (by omega)) (pk_eq (K i) 24 (fun z24 => ?_) (fun z24 => pk_eq (K i) 22 (fun z22 => ?_) (fun z22 => br_f (ba_ne (b := 29) (by omega) (by omega) (by omega)) ?_))))
              · have es2 : sk_st K (i + 1) = i :: o :: l := by rw [sk_st_push (by omega), es]
                refine nm_r (e' := nI (l.length + 2)) (nI_1 _) ⟨pk_in (l.length + 1) 200 (by omega) rfl, nm_r (e' := upd w (l.length + 1) 2) (by rw [nI_clamp (by show l.length + 1 < _; omega)]; exact congrArg (upd w (l.length + 1)) (ba_nb (n := 2) (by omega))) ?_⟩
                refine br_f (ba_ne (b := 22) (by omega) (by omega) (by omega)) (br_f (ba_ne (b := 29) (by omega) (by omega) (by omega)) ?_)
                exact hfin (l.length + 2) _ _ (by omega) g4 (by rw [es2]; rfl) (by rw [es2]; exact ⟨by rw [show (o :: l).length = l.length + 1 from rfl, pk_us]; exact (if_neg (by omega)).symm, sk_ar_upd (l := o :: l) har⟩) hf
              · have es2 : sk_st K (i + 1) = i :: o :: l := by rw [sk_st_push (by omega), es]
                refine nm_r (e' := nI (l.length + 2)) (nI_1 _) ⟨pk_in (l.length + 1) 200 (by omega) rfl, nm_r (e' := upd w (l.length + 1) 3) (by rw [nI_clamp (by show l.length + 1 < _; omega)]; exact congrArg (upd w (l.length + 1)) (ba_nb (n := 3) (by omega))) ?_⟩
                refine br_f (ba_ne (b := 29) (by omega) (by omega) (by omega)) ?_
                exact hfin (l.length + 2) _ _ (by omega) g4 (by rw [es2]; rfl) (by rw [es2]; exact ⟨by rw [show (o :: l).length = l.length + 1 from rfl, pk_us]; exact (if_pos z22).symm, sk_ar_upd (l := o :: l) har⟩) hf
              · have es2 : sk_st K (i + 1) = o :: l := by rw [sk_st_same (by omega) z22 z24 z23 e, es]
                exact hfin (l.length + 1) w _ (by omega) g4 (by rw [es2]; rfl) (by rw [es2]; exact har) hf
        have hno : ¬ sk_fit3 K (K i) (o :: l) → wY_misfit_128 post J (nI ((o :: l).length + 0)) (nI i) (nI (K i)) (ym_g K o) g_place g_culprit g_listed g_units g_taken g_used g_depth g_waiting g_held g_fault g_steps g_result g_given g_gift g_has b_kind b_value b_size b_list b_library b_places b_memory w b_pc b_base b_locals b_waits b_got b_values := fun hf => br_t rfl (h0 hf)
        refine br_f g0 (br_f g1 (br_f g4 (pk_lt (K i) 20 (fun z => hno ?_) (fun z => pk_le 28 (K i) (fun z2 => hno ?_) (fun z2 => pk_eq (K i) 23 (fun z3 => ?_) (fun z3 => hyes ?_))))))
        · rw [e3 (by omega)]; omega
        · rw [e3 (by omega)]; omega
        · have e4 : sk_fit3 K (K i) (o :: l) = (K o = 22) := if_pos z3
          rcases eg with e | e
          · refine br_f (by rw [e.1]; decide) (hno (by rw [e4]; exact e.2))
          · refine br_t e.1 (hyes (by rw [e4]; exact e.2))
        · rw [e3 z3]; omega
end
end
section
/-! compiling a unit -/
theorem sk_all {K N : Nat → Nat} : ∀ i, (∀ j, j < i → sk_fit K N j) → ∃ pa, sk_op K i (sk_st K i) ∧ sk_cl K pa i := by
  intro i
  induction i with
  | zero => exact fun _ => ⟨fun _ => 0, trivial, fun o h => absurd h (by omega), fun o h => absurd h (by omega)⟩
  | succ i ih =>
    intro h
    obtain ⟨pa, h1, h2⟩ := ih (fun j hj => h j (by omega))
    by_cases hB : K i = 28 ∨ K i = 22 ∨ K i = 24
    · exact ⟨pa, sk_stepB h1 h2 hB⟩
    · by_cases hC : K i = 23 ∨ K i = 27
      · obtain ⟨o, l, es, hko⟩ := sk_fit_close (h i (by omega)) hC
        rcases hC with e | e
        · exact ⟨_, sk_stepD h1 h2 es e (hko e)⟩
        · exact ⟨_, sk_stepC h1 h2 es e⟩
      · exact ⟨pa, sk_stepA h1 h2 (by omega) (by omega) (by omega) (by omega) (by omega)⟩
theorem sk_SF_no {K N : Nat → Nat} {c i : Nat} {r : Int32} (h : sk_SF K N c r) (hi : i < c) (hall : ∀ j, j < i → sk_fit K N j) (hn : ¬ sk_fit K N i) : r = nI i := by
  rcases h with ⟨i', h1, h2, h3, h4⟩ | ⟨h1, _⟩
  · by_cases a : i' < i
    · exact absurd (hall i' a) h4
    · by_cases b : i < i'
      · exact absurd (h3 i b) hn
      · rw [h2, show i' = i by omega]
  · exact absurd (h1 i hi) hn
theorem sk_SF_end {K N : Nat → Nat} {c : Nat} {r : Int32} (h : sk_SF K N c r) (hall : ∀ j, j < c → sk_fit K N j) : (sk_st K c = [] ∧ sk_d K N c = 0 → r = -1) ∧ (¬ (sk_st K c = [] ∧ sk_d K N c = 0) → r = nI c) := by
  rcases h with ⟨i', h1, h2, h3, h4⟩ | ⟨_, h⟩
  · exact absurd (hall i' h1) h4
  · rcases h with h | h
    · exact ⟨fun _ => h.2.2, fun z => absurd ⟨h.1, h.2.1⟩ z⟩
    · exact ⟨fun z => absurd z h.1, fun _ => h.2⟩
theorem sk_SF_m1 {K N : Nat → Nat} {c : Nat} (hc : c ≤ 50) (h : sk_SF K N c (-1)) : (∀ j, j < c → sk_fit K N j) ∧ sk_st K c = [] := by
  rcases h with ⟨i', h1, h2, h3, h4⟩ | ⟨h1, h⟩
  · exact absurd h2.symm (ba_m1 (by omega))
  · rcases h with h | h
    · exact ⟨h1, h.1⟩
    · exact absurd h.2.symm (ba_m1 (by omega))
theorem sk_SF_r {K N : Nat → Nat} {c : Nat} {r : Int32} (h : sk_SF K N c r) : r = -1 ∨ ∃ i, i ≤ c ∧ r = nI i := by
  rcases h with ⟨i', h1, h2, _⟩ | ⟨_, h⟩
  · exact Or.inr ⟨i', by omega, h2⟩
  · rcases h with h | h
    · exact Or.inl h.2.2
    · exact Or.inr ⟨c, Nat.le_refl _, h.2⟩
section
variable {g_place g_culprit g_listed g_units g_taken g_used g_depth g_waiting g_held g_fault g_steps g_result g_given g_gift g_has : Int32} {b_kind b_value b_size b_list b_library b_places b_memory b_wanted b_pc b_base b_locals b_waits b_got b_values : Nat → Int32}
variable {K N : Nat → Nat}
theorem ym_loop {post : Int32 → SY → Prop} {c : Nat} {r : Int32} (hc : c ≤ 50) (hs : b_size 5 = nI c) (hK : ∀ j, j < 50 → b_kind (250 + j) = nI (K j)) (hP : ∀ j, j < 50 → tk_P (K j) (b_value (250 + j))) (hN : ∀ j, j < 50 → N j = tk_n (K j) (b_value (250 + j)).toNatClampNeg) (hSF : sk_SF K N c r) (hp : ∀ w, post r (g_place, g_culprit, g_listed, g_units, g_taken, g_used, g_depth, g_waiting, g_held, g_fault, g_steps, g_result, g_given, g_gift, g_has, b_kind, b_value, b_size, b_list, b_library, b_places, b_memory, w, b_pc, b_base, b_locals, b_waits, b_got, b_values)) :
    ∀ m i w, i + m = c → ym_I K N i w → (∀ j, j < i → sk_fit K N j) → wY_misfit_4 post g_place g_culprit g_listed g_units g_taken g_used g_depth g_waiting g_held g_fault g_steps g_result g_given g_gift g_has (m + 1) (nI ((sk_st K i).length + sk_d K N i)) (nI i) b_kind b_value b_size b_list b_library b_places b_memory w b_pc b_base b_locals b_waits b_got b_values := by
  have hN3 : ∀ j, j < 50 → N j ≤ 3 := fun j hj => by rw [hN j hj]; exact tk_n3 (hP j hj)
  intro m
  induction m with
  | zero =>
    intro i w hi hI hall
    have hic : i = c := by omega
    subst hic
    have hdb : sk_d K N i ≤ 3 * i := sk_d_le i (fun j hj => hN3 j (by omega))
    have hb := sk_B_le K i
    have he := sk_SF_end hSF hall
    refine br_t (by rw [hs]; exact nI_le (Nat.le_refl _) (by omega)) (pk_le ((sk_st K i).length + sk_d K N i) 0 (fun hz => ?_) (fun hz => ?_))
    · rw [← he.1 ⟨List.eq_nil_of_length_eq_zero (by omega), by omega⟩]
      exact hp w
    · rw [hs, ← he.2 (fun z => by rw [z.1, z.2] at hz; exact absurd hz (by decide))]
      exact hp w
  | succ m ih =>
    intro i w hi hI hall
    have hdb : sk_d K N i ≤ 3 * i := sk_d_le i (fun j hj => hN3 j (by omega))
    obtain ⟨_, hop, _⟩ := sk_all i hall
    have e1 : (250 : Int32) + nI i = nI (250 + i) := nI_add 250 i
    refine br_f (by rw [hs]; exact nI_ge (by omega) (by omega)) ⟨pk_in (250 + i) 800 (by omega) e1, nm_r (e' := nI (K i)) (by rw [e1, nI_clamp (by omega), hK i (by omega)]) ?_⟩
    refine ym_body (by omega) (hK i (by omega)) (hP i (by omega)) (hN i (by omega)) hdb hI hop hall (fun hf w' hI' => ?_) (fun hf => ?_)
    · exact ih (i + 1) w' (by omega) hI' (fun j hj => by
        by_cases z : j = i
        · rw [z]; exact hf
        · exact hall j (by omega))
    · rw [← sk_SF_no hSF (by omega) hall hf]
      exact hp w
theorem ym_misfit {post : Int32 → SY → Prop} {c : Nat} {r : Int32} (hc : c ≤ 50) (hs : b_size 5 = nI c) (hK : ∀ j, j < 50 → b_kind (250 + j) = nI (K j)) (hP : ∀ j, j < 50 → tk_P (K j) (b_value (250 + j))) (hN : ∀ j, j < 50 → N j = tk_n (K j) (b_value (250 + j)).toNatClampNeg) (hSF : sk_SF K N c r) (hp : ∀ w, post r (g_place, g_culprit, g_listed, g_units, g_taken, g_used, g_depth, g_waiting, g_held, g_fault, g_steps, g_result, g_given, g_gift, g_has, b_kind, b_value, b_size, b_list, b_library, b_places, b_memory, w, b_pc, b_base, b_locals, b_waits, b_got, b_values)) : wpY_misfit post (g_place, g_culprit, g_listed, g_units, g_taken, g_used, g_depth, g_waiting, g_held, g_fault, g_steps, g_result, g_given, g_gift, g_has, b_kind, b_value, b_size, b_list, b_library, b_places, b_memory, b_wanted, b_pc, b_base, b_locals, b_waits, b_got, b_values) :=
  ⟨c + 1, ym_loop hc hs hK hP hN hSF hp c 0 b_wanted (by omega) ⟨trivial, fun j _ h => absurd h (Nat.not_lt_zero _)⟩ (fun j h => absurd h (by omega))⟩
end
/-! a name defined twice -/
def tw_d (K : Nat → Nat) (i : Nat) : Prop := K i = 28 ∨ K i = 29
def tw_b (K V : Nat → Nat) (i : Nat) : Prop := ∃ j, j < i ∧ tw_d K j ∧ V j % 16 = V i % 16
def tw_S (K V : Nat → Nat) (c : Nat) (r : Int32) : Prop := (∃ i, i < c ∧ r = nI i ∧ tw_d K i ∧ tw_b K V i ∧ ∀ j, j < i → tw_d K j → ¬ tw_b K V j) ∨ (r = -1 ∧ ∀ j, j < c → tw_d K j → ¬ tw_b K V j)
theorem tw_V {c : Nat} {v : Int32} (h : tk_P c v) (hc : c = 28 ∨ c = 29) : v = nI v.toNatClampNeg ∧ v.toNatClampNeg < 256 ∧ v.toNatClampNeg % 16 < 12 := by
  rcases hc with e | e
  · obtain ⟨m, a, b, rfl⟩ := h.2.2.2.2.2.1 e
    rw [nI_clamp (by omega)]
    exact ⟨rfl, by omega, b⟩
  · obtain ⟨m, a, b, rfl⟩ := h.2.2.2.2.2.2 e
    rw [nI_clamp (by omega)]
    exact ⟨rfl, by omega, b⟩
theorem tw_V16 {c : Nat} {v : Int32} (h : tk_P c v) (hc : c = 28 ∨ c = 29) : v &&& 15 = nI (v.toNatClampNeg % 16) := by
  obtain ⟨a, b, _⟩ := tw_V h hc
  have := ba_and15 (n := v.toNatClampNeg) (by omega)
  rw [← a] at this
  exact this
theorem xd_isdef {post : Int32 → Prop} {k : Nat} (hk : k ≤ 29) (h1 : (k = 28 ∨ k = 29) → post 1) (h0 : ¬ (k = 28 ∨ k = 29) → post 0) : wpX_isDefinition post (nI k) :=
  pk_eq k 28 (fun e => h1 (Or.inl e)) (fun e => pk_eq k 29 (fun e2 => h1 (Or.inr e2)) (fun e2 => h0 (by omega)))
theorem yd_isdef {post : Int32 → Prop} {k : Nat} (hk : k ≤ 29) (h1 : (k = 28 ∨ k = 29) → post 1) (h0 : ¬ (k = 28 ∨ k = 29) → post 0) : wpY_defines post (nI k) :=
  pk_eq k 28 (fun e => h1 (Or.inl e)) (fun e => pk_eq k 29 (fun e2 => h1 (Or.inr e2)) (fun e2 => h0 (by omega)))
section
variable {f_draftCount f_openCount f_operandsDue f_faultPlace f_listCount f_takenCount f_culpritName f_memorySize f_operandCount f_pendingCount f_frameCount f_next f_outcome f_lastResult f_stepCount : Int32} {a_draftKind a_draftValue a_draftPartner a_openBlock a_unitKind a_unitValue a_unitPartner a_unitLength a_listedUnit a_listedAsLibrary a_takenUnit a_definition a_isDuplicate a_isWanted a_codeKind a_codeValue a_codePartner a_functionOf a_placeOf a_memory a_operands a_pendingToken a_pendingDue a_locals a_returnTo : Nat → Int32}
variable {K V : Nat → Nat}
theorem xd_before {post : Int32 → Prop} {i : Nat} (hi : i < 50) (hK : ∀ j, j < 50 → a_draftKind j = nI (K j)) (hP : ∀ j, j < 50 → tk_P (K j) (a_draftValue j)) (hV : ∀ j, j < 50 → V j = (a_draftValue j).toNatClampNeg) (hd : tw_d K i) (h1 : tw_b K V i → post 1) (h0 : ¬ tw_b K V i → post 0) : wpX_isDefinedBefore post (f_draftCount, f_openCount, f_operandsDue, f_faultPlace, f_listCount, f_takenCount, f_culpritName, f_memorySize, f_operandCount, f_pendingCount, f_frameCount, f_next, f_outcome, f_lastResult, f_stepCount, a_draftKind, a_draftValue, a_draftPartner, a_openBlock, a_unitKind, a_unitValue, a_unitPartner, a_unitLength, a_listedUnit, a_listedAsLibrary, a_takenUnit, a_definition, a_isDuplicate, a_isWanted, a_codeKind, a_codeValue, a_codePartner, a_functionOf, a_placeOf, a_memory, a_operands, a_pendingToken, a_pendingDue, a_locals, a_returnTo) (nI i) := by
  have key : ∀ m j, j + m = i → (∀ j', j' < j → tw_d K j' → V j' % 16 ≠ V i % 16) → wX_isDefinedBefore_12 post (nI i) (nI (V i % 16)) f_draftCount f_openCount f_operandsDue f_faultPlace f_listCount f_takenCount f_culpritName f_memorySize f_operandCount f_pendingCount f_frameCount f_next f_outcome f_lastResult f_stepCount a_draftKind a_draftValue a_draftPartner a_openBlock a_unitKind a_unitValue a_unitPartner a_unitLength a_listedUnit a_listedAsLibrary a_takenUnit a_definition a_isDuplicate a_isWanted a_codeKind a_codeValue a_codePartner a_functionOf a_placeOf a_memory a_operands a_pendingToken a_pendingDue a_locals a_returnTo (m + 1) (nI j) := by
    intro m
    induction m with
    | zero =>
      intro j hj hno
      refine br_t (nI_le (by omega) (by omega)) (h0 (fun ⟨j', a, b, c⟩ => hno j' (by omega) b c))
    | succ m ih =>
      intro j hj hno
      have hPj := hP j (by omega)
      have hnext : (tw_d K j → V j % 16 ≠ V i % 16) → wX_isDefinedBefore_12 post (nI i) (nI (V i % 16)) f_draftCount f_openCount f_operandsDue f_faultPlace f_listCount f_takenCount f_culpritName f_memorySize f_operandCount f_pendingCount f_frameCount f_next f_outcome f_lastResult f_stepCount a_draftKind a_draftValue a_draftPartner a_openBlock a_unitKind a_unitValue a_unitPartner a_unitLength a_listedUnit a_listedAsLibrary a_takenUnit a_definition a_isDuplicate a_isWanted a_codeKind a_codeValue a_codePartner a_functionOf a_placeOf a_memory a_operands a_pendingToken a_pendingDue a_locals a_returnTo (m + 1) (nI j + 1) := by
        intro hj'
        rw [nI_1]
        exact ih (j + 1) (by omega) (fun j' a b => by
          by_cases z : j' = j
          · subst z; exact hj' b
          · exact hno j' (by omega) b)
      refine br_f (nI_ge (by omega) (by omega)) ⟨pk_in j 50 (by omega), ?_⟩
      rw [nI_clamp (show j < 2 ^ 31 by omega), hK j (by omega)]
      refine xd_isdef hPj.1 (fun hdj => br_f (by decide) ⟨pk_in j 50 (by omega), ?_⟩) (fun hdj => br_t rfl (nm_e (hnext (fun z => absurd z hdj))))
      show (_ → _) ∧ (_ → _)
      rw [tw_V16 hPj hdj, ← hV j (by omega)]
      refine pk_eq (V j % 16) (V i % 16) (fun e => h1 ⟨j, by omega, hdj, e⟩) (fun e => nm_e (hnext (fun _ => e)))
  refine ⟨pk_in i 50 hi, ?_⟩
  rw [nI_clamp (show i < 2 ^ 31 by omega)]
  show ∃ n, _
  rw [tw_V16 (hP i hi) hd, ← hV i hi]
  exact ⟨i + 1, key i 0 (by omega) (fun j h => absurd h (by omega))⟩
theorem xd_second {post : Int32 → Prop} {c : Nat} (hc : c ≤ 50) (hK : ∀ j, j < 50 → a_draftKind j = nI (K j)) (hP : ∀ j, j < 50 → tk_P (K j) (a_draftValue j)) (hV : ∀ j, j < 50 → V j = (a_draftValue j).toNatClampNeg) (hp : ∀ r, tw_S K V c r → post r) : wpX_secondDefinition post (nI c, f_openCount, f_operandsDue, f_faultPlace, f_listCount, f_takenCount, f_culpritName, f_memorySize, f_operandCount, f_pendingCount, f_frameCount, f_next, f_outcome, f_lastResult, f_stepCount, a_draftKind, a_draftValue, a_draftPartner, a_openBlock, a_unitKind, a_unitValue, a_unitPartner, a_unitLength, a_listedUnit, a_listedAsLibrary, a_takenUnit, a_definition, a_isDuplicate, a_isWanted, a_codeKind, a_codeValue, a_codePartner, a_functionOf, a_placeOf, a_memory, a_operands, a_pendingToken, a_pendingDue, a_locals, a_returnTo) := by
  have key : ∀ m i, i + m = c → (∀ j, j < i → tw_d K j → ¬ tw_b K V j) → wX_secondDefinition_2 post (nI c) f_openCount f_operandsDue f_faultPlace f_listCount f_takenCount f_culpritName f_memorySize f_operandCount f_pendingCount f_frameCount f_next f_outcome f_lastResult f_stepCount a_draftKind a_draftValue a_draftPartner a_openBlock a_unitKind a_unitValue a_unitPartner a_unitLength a_listedUnit a_listedAsLibrary a_takenUnit a_definition a_isDuplicate a_isWanted a_codeKind a_codeValue a_codePartner a_functionOf a_placeOf a_memory a_operands a_pendingToken a_pendingDue a_locals a_returnTo (m + 1) (nI i) := by
    intro m
    induction m with
    | zero =>
      intro i hi hno
      exact br_t (nI_le (by omega) (by omega)) (hp _ (Or.inr ⟨rfl, fun j hj => hno j (by omega)⟩))
    | succ m ih =>
      intro i hi hno
      have hnext : (tw_d K i → ¬ tw_b K V i) → wX_secondDefinition_2 post (nI c) f_openCount f_operandsDue f_faultPlace f_listCount f_takenCount f_culpritName f_memorySize f_operandCount f_pendingCount f_frameCount f_next f_outcome f_lastResult f_stepCount a_draftKind a_draftValue a_draftPartner a_openBlock a_unitKind a_unitValue a_unitPartner a_unitLength a_listedUnit a_listedAsLibrary a_takenUnit a_definition a_isDuplicate a_isWanted a_codeKind a_codeValue a_codePartner a_functionOf a_placeOf a_memory a_operands a_pendingToken a_pendingDue a_locals a_returnTo (m + 1) (nI i + 1) := by
        intro hj'
        rw [nI_1]
        exact ih (i + 1) (by omega) (fun j' a b => by
          by_cases z : j' = i
          · subst z; exact hj' b
          · exact hno j' (by omega) b)
      refine br_f (nI_ge (by omega) (by omega)) ⟨pk_in i 50 (by omega), ?_⟩
      rw [nI_clamp (show i < 2 ^ 31 by omega), hK i (by omega)]
      refine xd_isdef (hP i (by omega)).1 (fun hd => br_f (by decide) ?_) (fun hd => br_t rfl (nm_e (hnext (fun z => absurd z hd))))
      refine xd_before (by omega) hK hP hV hd (fun hb => br_f (by decide) (hp _ (Or.inl ⟨i, by omega, rfl, hd, hb, hno⟩))) (fun hb => br_t rfl (nm_e (hnext (fun _ => hb))))
  exact ⟨c + 1, key c 0 (by omega) (fun j h => absurd h (by omega))⟩
end
/-- an array with a row written over -/
def kd_w (a b : Nat → Int32) (u c : Nat) : Nat → Int32 := fun j => if 50 * u ≤ j ∧ j < 50 * u + c then b (j - 50 * u) else a j
theorem kd_0 {a b : Nat → Int32} {u : Nat} : kd_w a b u 0 = a := by
  funext j
  exact if_neg (by omega)
theorem kd_s {a b : Nat → Int32} {u c : Nat} : upd (kd_w a b u c) (50 * u + c) (b c) = kd_w a b u (c + 1) := by
  funext j
  by_cases e : j = 50 * u + c
  · rw [e, pk_us]
    unfold kd_w
    rw [if_pos (by omega), Nat.add_sub_cancel_left]
  · rw [pk_un e]
    unfold kd_w
    by_cases h : 50 * u ≤ j ∧ j < 50 * u + c
    · rw [if_pos h, if_pos (by omega)]
    · rw [if_neg h, if_neg (by omega)]
theorem kd_in {a b : Nat → Int32} {u c i : Nat} (h : i < c) : kd_w a b u c (50 * u + i) = b i := by
  unfold kd_w
  rw [if_pos (by omega), Nat.add_sub_cancel_left]
theorem kd_out {a b : Nat → Int32} {u c j : Nat} (h : ¬ (50 * u ≤ j ∧ j < 50 * u + c)) : kd_w a b u c j = a j := if_neg h
section
variable {f_draftCount f_openCount f_operandsDue f_faultPlace f_listCount f_takenCount f_culpritName f_memorySize f_operandCount f_pendingCount f_frameCount f_next f_outcome f_lastResult f_stepCount : Int32} {a_draftKind a_draftValue a_draftPartner a_openBlock a_unitKind a_unitValue a_unitPartner a_unitLength a_listedUnit a_listedAsLibrary a_takenUnit a_definition a_isDuplicate a_isWanted a_codeKind a_codeValue a_codePartner a_functionOf a_placeOf a_memory a_operands a_pendingToken a_pendingDue a_locals a_returnTo : Nat → Int32}
theorem xu_keep {post : SX → Prop} {u c : Nat} (hu : u < 5) (hc : c ≤ 50)
    (hp : post (nI c, f_openCount, f_operandsDue, f_faultPlace, f_listCount, f_takenCount, f_culpritName, f_memorySize, f_operandCount, f_pendingCount, f_frameCount, f_next, f_outcome, f_lastResult, f_stepCount, a_draftKind, a_draftValue, a_draftPartner, a_openBlock, kd_w a_unitKind a_draftKind u c, kd_w a_unitValue a_draftValue u c, kd_w a_unitPartner (fun i => nI (50 * u) + a_draftPartner i) u c, upd a_unitLength u (nI c), a_listedUnit, a_listedAsLibrary, a_takenUnit, a_definition, a_isDuplicate, a_isWanted, a_codeKind, a_codeValue, a_codePartner, a_functionOf, a_placeOf, a_memory, a_operands, a_pendingToken, a_pendingDue, a_locals, a_returnTo)) : wpX_keepDraft post (nI c, f_openCount, f_operandsDue, f_faultPlace, f_listCount, f_takenCount, f_culpritName, f_memorySize, f_operandCount, f_pendingCount, f_frameCount, f_next, f_outcome, f_lastResult, f_stepCount, a_draftKind, a_draftValue, a_draftPartner, a_openBlock, a_unitKind, a_unitValue, a_unitPartner, a_unitLength, a_listedUnit, a_listedAsLibrary, a_takenUnit, a_definition, a_isDuplicate, a_isWanted, a_codeKind, a_codeValue, a_codePartner, a_functionOf, a_placeOf, a_memory, a_operands, a_pendingToken, a_pendingDue, a_locals, a_returnTo) (nI u) := by
  have key : ∀ m i, i + m = c → wX_keepDraft_7 post (nI u) (nI (50 * u)) (nI c) f_openCount f_operandsDue f_faultPlace f_listCount f_takenCount f_culpritName f_memorySize f_operandCount f_pendingCount f_frameCount f_next f_outcome f_lastResult f_stepCount (m + 1) (nI i) a_draftKind a_draftValue a_draftPartner a_openBlock (kd_w a_unitKind a_draftKind u i) (kd_w a_unitValue a_draftValue u i) (kd_w a_unitPartner (fun i => nI (50 * u) + a_draftPartner i) u i) a_unitLength a_listedUnit a_listedAsLibrary a_takenUnit a_definition a_isDuplicate a_isWanted a_codeKind a_codeValue a_codePartner a_functionOf a_placeOf a_memory a_operands a_pendingToken a_pendingDue a_locals a_returnTo := by
    intro m
    induction m with
    | zero =>
      intro i hi
      have e : i = c := by omega
      subst e
      exact br_t (nI_le (Nat.le_refl _) (by omega)) ⟨pk_in u 5 hu, nm_r (e' := upd a_unitLength u (nI i)) (by rw [nI_clamp (by omega)]) hp⟩
    | succ m ih =>
      intro i hi
      have e1 : nI (50 * u) + nI i = nI (50 * u + i) := nI_add _ _
      have e2 : (nI (50 * u) + nI i).toNatClampNeg = 50 * u + i := by rw [e1, nI_clamp (by omega)]
      have e3 : (nI i).toNatClampNeg = i := nI_clamp (by omega)
      have hin := pk_in (x := nI (50 * u) + nI i) (50 * u + i) 250 (by omega) e1
      refine br_f (nI_ge (by omega) (by omega)) ⟨pk_in i 50 (by omega), hin, nm_r (e' := kd_w a_unitKind a_draftKind u (i + 1)) (by rw [e2, e3, kd_s]) ⟨pk_in i 50 (by omega), hin, nm_r (e' := kd_w a_unitValue a_draftValue u (i + 1)) (by rw [e2, e3, kd_s]) ⟨pk_in i 50 (by omega), hin, nm_r (e' := kd_w a_unitPartner (fun i => nI (50 * u) + a_draftPartner i) u (i + 1)) (by rw [e2, e3]; exact kd_s (b := fun i => nI (50 * u) + a_draftPartner i)) (nm_r (nI_1 i) (ih (i + 1) (by omega)))⟩⟩⟩
  refine nm_r (e' := nI (50 * u)) (by rw [show (50 : Int32) = nI 50 from rfl, pk_mul, Nat.mul_comm]) ⟨c + 1, ?_⟩
  have := key c 0 (by omega)
  rw [kd_0, kd_0, kd_0] at this
  exact this
end
section
variable {g_place g_culprit g_listed g_units g_taken g_used g_depth g_waiting g_held g_fault g_steps g_result g_given g_gift g_has : Int32} {b_kind b_value b_size b_list b_library b_places b_memory b_wanted b_pc b_base b_locals b_waits b_got b_values : Nat → Int32}
theorem yu_copy {post : SY → Prop} {f t c : Nat} (hf : f < 16) (ht : t < 16) (hft : f ≠ t) (hk : ∀ i, i < 50 → ∃ k, k ≤ 29 ∧ b_kind (50 * f + i) = nI k) (hs : b_size f = nI c) (hc : c ≤ 50)
    (hp : post (g_place, g_culprit, g_listed, g_units, g_taken, g_used, g_depth, g_waiting, g_held, g_fault, g_steps, g_result, g_given, g_gift, g_has, kd_w b_kind (fun i => b_kind (50 * f + i)) t 50, kd_w b_value (fun i => b_value (50 * f + i)) t 50, upd b_size t (nI c), b_list, b_library, b_places, b_memory, b_wanted, b_pc, b_base, b_locals, b_waits, b_got, b_values)) : wpY_copy post (g_place, g_culprit, g_listed, g_units, g_taken, g_used, g_depth, g_waiting, g_held, g_fault, g_steps, g_result, g_given, g_gift, g_has, b_kind, b_value, b_size, b_list, b_library, b_places, b_memory, b_wanted, b_pc, b_base, b_locals, b_waits, b_got, b_values) (nI f) (nI t) := by
  have key : ∀ m i, i + m = 50 → wY_copy_2 post (nI f) (nI t) g_place g_culprit g_listed g_units g_taken g_used g_depth g_waiting g_held g_fault g_steps g_result g_given g_gift g_has (m + 1) (nI i) (kd_w b_kind (fun i => b_kind (50 * f + i)) t i) (kd_w b_value (fun i => b_value (50 * f + i)) t i) b_size b_list b_library b_places b_memory b_wanted b_pc b_base b_locals b_waits b_got b_values := by
    intro m
    induction m with
    | zero =>
      intro i hi
      have e : i = 50 := by omega
      subst e
      exact br_t (nI_le (a := 50) (b := 50) (Nat.le_refl _) (by omega)) ⟨pk_in f 16 hf, pk_in t 16 ht, nm_r (e' := upd b_size t (nI c)) (by rw [nI_clamp (by omega), nI_clamp (by omega), hs, ba_nb (by omega)]) hp⟩
    | succ m ih =>
      intro i hi
      have e50 : ∀ r : Nat, (50 : Int32) * nI r + nI i = nI (50 * r + i) := fun r => by rw [show (50 : Int32) = nI 50 from rfl, pk_mul, nI_add]
      have e2 : ∀ r : Nat, r < 16 → ((50 : Int32) * nI r + nI i).toNatClampNeg = 50 * r + i := fun r hr => by rw [e50, nI_clamp (by omega)]
      have hin : ∀ r : Nat, r < 16 → vp_in ((50 : Int32) * nI r + nI i) 800 := fun r hr => pk_in (50 * r + i) 800 (by omega) (e50 r)
      obtain ⟨k, hk9, hki⟩ := hk i (by omega)
      have eo : ∀ a : Nat → Int32, kd_w a (fun i => a (50 * f + i)) t i (50 * f + i) = a (50 * f + i) := fun a => kd_out (by omega)
      refine br_f (nI_ge (b := 50) (by omega) (by omega)) ⟨hin f hf, hin t ht, nm_r (e' := kd_w b_kind (fun i => b_kind (50 * f + i)) t (i + 1)) (by rw [e2 f hf, e2 t ht, eo, hki, ba_nb (by omega), ← hki]; exact kd_s (b := fun i => b_kind (50 * f + i))) ⟨hin f hf, hin t ht, nm_r (e' := kd_w b_value (fun i => b_value (50 * f + i)) t (i + 1)) (by rw [e2 f hf, e2 t ht, eo]; exact kd_s (b := fun i => b_value (50 * f + i))) (nm_r (nI_1 i) (ih (i + 1) (by omega)))⟩⟩
  refine ⟨51, ?_⟩
  have := key 50 0 (by omega)
  rw [kd_0, kd_0] at this
  exact this
end
end
section
/-! unit, both sides -/
theorem tb_sh : ∀ l, l < 32 → ((1 : Int32) <<< (nI l &&& 31)).toBitVec = BitVec.twoPow 32 l := by decide +kernel
theorem tb_tp : ∀ l, l < 32 → BitVec.twoPow 32 l ≠ 0#32 := by decide +kernel
theorem tb_and {x : Int32} {l : Nat} (hl : l < 16) : (x &&& ((1 : Int32) <<< (nI l &&& 31))) = 0 ↔ x.toBitVec.getLsbD l = false := by
  rw [← Int32.toBitVec_inj, Int32.toBitVec_and, tb_sh l (by omega), BitVec.and_twoPow]
  show _ = 0#32 ↔ _
  cases hb : x.toBitVec.getLsbD l
  · exact ⟨fun _ => rfl, fun _ => by simp⟩
  · exact ⟨fun z => absurd ((if_pos rfl).symm.trans z) (tb_tp l (by omega)), fun z => nomatch z⟩
theorem tb_or {x : Int32} {l n : Nat} (hl : l < 16) (hn : n < 16) : (x ||| ((1 : Int32) <<< (nI l &&& 31))).toBitVec.getLsbD n = (x.toBitVec.getLsbD n || decide (l = n)) := by
  rw [Int32.toBitVec_or, tb_sh l (by omega), BitVec.getLsbD_or, BitVec.getLsbD_twoPow]
  rw [decide_eq_true (show l < 32 by omega), Bool.true_and]
/-- the set of names seen -/
def tw_I (K V : Nat → Nat) (i : Nat) (s : Int32) : Prop := ∀ n, n < 16 → (s.toBitVec.getLsbD n = true ↔ ∃ j, j < i ∧ tw_d K j ∧ V j % 16 = n)
section
variable {f_draftCount f_openCount f_operandsDue f_faultPlace f_listCount f_takenCount f_culpritName f_memorySize f_operandCount f_pendingCount f_frameCount f_next f_outcome f_lastResult f_stepCount : Int32} {a_draftKind a_draftValue a_draftPartner a_openBlock a_unitKind a_unitValue a_unitPartner a_unitLength a_listedUnit a_listedAsLibrary a_takenUnit a_definition a_isDuplicate a_isWanted a_codeKind a_codeValue a_codePartner a_functionOf a_placeOf a_memory a_operands a_pendingToken a_pendingDue a_locals a_returnTo : Nat → Int32}
variable {K N V : Nat → Nat}
theorem xu_unit {post : Int32 → SX → Prop} {u c : Nat} (hu : u < 5) (hc : c ≤ 50) (hK : ∀ j, j < 50 → a_draftKind j = nI (K j)) (hP : ∀ j, j < 50 → tk_P (K j) (a_draftValue j)) (hN : ∀ j, j < 50 → N j = tk_n (K j) (a_draftValue j).toNatClampNeg) (hV : ∀ j, j < 50 → V j = (a_draftValue j).toNatClampNeg)
    (hS : ∀ r oc od ob pa, sk_SF K N c r → r ≠ -1 → post 1 (0, oc, od, r, f_listCount, f_takenCount, f_culpritName, f_memorySize, f_operandCount, f_pendingCount, f_frameCount, f_next, f_outcome, f_lastResult, f_stepCount, a_draftKind, a_draftValue, pa, ob, a_unitKind, a_unitValue, a_unitPartner, a_unitLength, a_listedUnit, a_listedAsLibrary, a_takenUnit, a_definition, a_isDuplicate, a_isWanted, a_codeKind, a_codeValue, a_codePartner, a_functionOf, a_placeOf, a_memory, a_operands, a_pendingToken, a_pendingDue, a_locals, a_returnTo))
    (hT : ∀ r oc od ob pa, sk_SF K N c (-1) → tw_S K V c r → r ≠ -1 → post 2 (0, oc, od, r, f_listCount, f_takenCount, f_culpritName, f_memorySize, f_operandCount, f_pendingCount, f_frameCount, f_next, f_outcome, f_lastResult, f_stepCount, a_draftKind, a_draftValue, pa, ob, a_unitKind, a_unitValue, a_unitPartner, a_unitLength, a_listedUnit, a_listedAsLibrary, a_takenUnit, a_definition, a_isDuplicate, a_isWanted, a_codeKind, a_codeValue, a_codePartner, a_functionOf, a_placeOf, a_memory, a_operands, a_pendingToken, a_pendingDue, a_locals, a_returnTo))
    (hO : ∀ oc od ob pa, sk_SF K N c (-1) → sk_cl K pa c → tw_S K V c (-1) → post 0 (0, oc, od, f_faultPlace, f_listCount, f_takenCount, f_culpritName, f_memorySize, f_operandCount, f_pendingCount, f_frameCount, f_next, f_outcome, f_lastResult, f_stepCount, a_draftKind, a_draftValue, pa, ob, kd_w a_unitKind a_draftKind u c, kd_w a_unitValue a_draftValue u c, kd_w a_unitPartner (fun i => nI (50 * u) + pa i) u c, upd a_unitLength u (nI c), a_listedUnit, a_listedAsLibrary, a_takenUnit, a_definition, a_isDuplicate, a_isWanted, a_codeKind, a_codeValue, a_codePartner, a_functionOf, a_placeOf, a_memory, a_operands, a_pendingToken, a_pendingDue, a_locals, a_returnTo)) :
    wpX_unit post (nI c, f_openCount, f_operandsDue, f_faultPlace, f_listCount, f_takenCount, f_culpritName, f_memorySize, f_operandCount, f_pendingCount, f_frameCount, f_next, f_outcome, f_lastResult, f_stepCount, a_draftKind, a_draftValue, a_draftPartner, a_openBlock, a_unitKind, a_unitValue, a_unitPartner, a_unitLength, a_listedUnit, a_listedAsLibrary, a_takenUnit, a_definition, a_isDuplicate, a_isWanted, a_codeKind, a_codeValue, a_codePartner, a_functionOf, a_placeOf, a_memory, a_operands, a_pendingToken, a_pendingDue, a_locals, a_returnTo) (nI u) := by
  have hU : ∀ P : Int32 → Prop, P 1 → wpX_isUnit P (nI u) := fun P h => br_f (nI_pos (by omega)) (br_f (nI_ge (b := 5) hu (by omega)) h)
  unfold wpX_unit
  refine hU _ (br_f (by decide) ?_)
  unfold wpX_checkDraft
  refine xf_syntax hc hK hP hN (fun r oc od ob pa hSF hcl => ?_)
  refine br_c (fun e => ?_) (fun e => ?_)
  · subst e
    refine xd_second hc hK hP hV (fun r2 hr2 => br_c (fun e2 => ?_) (fun e2 => ?_))
    · subst e2
      refine br_t rfl (xu_keep hu hc ?_)
      exact hO oc od ob pa hSF (hcl rfl) hr2
    · exact br_f (by decide) (hT r2 oc od ob pa hSF hr2 e2)
  · exact br_f (by decide) (hS r oc od ob pa hSF e)
theorem xu_bad {post : Int32 → SX → Prop} {v : Int32} (hv : v < 0 ∨ nI 5 ≤ v) (h : post (-1) (f_draftCount, f_openCount, f_operandsDue, f_faultPlace, f_listCount, f_takenCount, f_culpritName, f_memorySize, f_operandCount, f_pendingCount, f_frameCount, f_next, f_outcome, f_lastResult, f_stepCount, a_draftKind, a_draftValue, a_draftPartner, a_openBlock, a_unitKind, a_unitValue, a_unitPartner, a_unitLength, a_listedUnit, a_listedAsLibrary, a_takenUnit, a_definition, a_isDuplicate, a_isWanted, a_codeKind, a_codeValue, a_codePartner, a_functionOf, a_placeOf, a_memory, a_operands, a_pendingToken, a_pendingDue, a_locals, a_returnTo)) : wpX_unit post (f_draftCount, f_openCount, f_operandsDue, f_faultPlace, f_listCount, f_takenCount, f_culpritName, f_memorySize, f_operandCount, f_pendingCount, f_frameCount, f_next, f_outcome, f_lastResult, f_stepCount, a_draftKind, a_draftValue, a_draftPartner, a_openBlock, a_unitKind, a_unitValue, a_unitPartner, a_unitLength, a_listedUnit, a_listedAsLibrary, a_takenUnit, a_definition, a_isDuplicate, a_isWanted, a_codeKind, a_codeValue, a_codePartner, a_functionOf, a_placeOf, a_memory, a_operands, a_pendingToken, a_pendingDue, a_locals, a_returnTo) v := by
  unfold wpX_unit
  refine br_c (fun _ => br_t rfl h) (fun hn => br_t (hv.resolve_left hn) (br_t rfl h))
end
section
variable {g_place g_culprit g_listed g_units g_taken g_used g_depth g_waiting g_held g_fault g_steps g_result g_given g_gift g_has : Int32} {b_kind b_value b_size b_list b_library b_places b_memory b_wanted b_pc b_base b_locals b_waits b_got b_values : Nat → Int32}
variable {K N V : Nat → Nat}
theorem yu_out {post : Int32 → Prop} {i n : Nat} (hi : i < n) (hn : n < 2 ^ 31) (h : post 0) : wpY_out post (nI i) (nI n) := br_f (nI_pos (by omega)) (br_t (nI_lt hi hn) h)
theorem yu_out1 {post : Int32 → Prop} {v w : Int32} (hv : v < 0 ∨ w ≤ v) (h : post 1) : wpY_out post v w := br_c (fun _ => h) (fun hn => br_f (Int32.not_lt.mpr (hv.resolve_left hn)) h)
theorem yu_bad {post : Int32 → SY → Prop} {v : Int32} (hv : v < 0 ∨ nI 5 ≤ v) (h : post (-1) (g_place, g_culprit, g_listed, g_units, g_taken, g_used, g_depth, g_waiting, g_held, g_fault, g_steps, g_result, g_given, g_gift, g_has, b_kind, b_value, b_size, b_list, b_library, b_places, b_memory, b_wanted, b_pc, b_base, b_locals, b_waits, b_got, b_values)) : wpY_unit post (g_place, g_culprit, g_listed, g_units, g_taken, g_used, g_depth, g_waiting, g_held, g_fault, g_steps, g_result, g_given, g_gift, g_has, b_kind, b_value, b_size, b_list, b_library, b_places, b_memory, b_wanted, b_pc, b_base, b_locals, b_waits, b_got, b_values) v := by
  unfold wpY_unit
  exact yu_out1 hv (br_f (by decide) h)
theorem yu_39 {post : Int32 → SY → Prop} {u c : Nat} {x4 : Int32} {r : Int32} {h : Nat} {fuel : Nat} (i : Nat) (hh : ¬ nI h = 0) (hp : wY_unit_115 post (nI u) r (nI h) g_place g_culprit g_listed g_units g_taken g_used g_depth g_waiting g_held g_fault g_steps g_result g_given g_gift g_has b_kind b_value b_size b_list b_library b_places b_memory b_wanted b_pc b_base b_locals b_waits b_got b_values) (hc : c ≤ 50) (hi : i ≤ 50) : wY_unit_39 post (nI u) (nI c) g_place g_culprit g_listed g_units g_taken g_used g_depth g_waiting g_held g_fault g_steps g_result g_given g_gift g_has b_kind b_value b_size b_list b_library b_places b_memory b_wanted b_pc b_base b_locals b_waits b_got b_values (fuel + 1) r x4 (nI h) (nI i) :=
  br_c (fun _ => hp) (fun _ => br_f hh hp)
theorem yu_S {post : Int32 → SY → Prop} {u c : Nat} {r : Int32} (hu : u < 5) (hc : c ≤ 50) (hs : b_size 5 = nI c) (hK : ∀ j, j < 50 → b_kind (250 + j) = nI (K j)) (hP : ∀ j, j < 50 → tk_P (K j) (b_value (250 + j))) (hN : ∀ j, j < 50 → N j = tk_n (K j) (b_value (250 + j)).toNatClampNeg)
    (hSF : sk_SF K N c r) (hr : r ≠ -1) (hp : ∀ w, post 1 (r, g_culprit, g_listed, g_units, g_taken, g_used, g_depth, g_waiting, g_held, g_fault, g_steps, g_result, g_given, g_gift, g_has, b_kind, b_value, upd b_size 5 0, b_list, b_library, b_places, b_memory, w, b_pc, b_base, b_locals, b_waits, b_got, b_values)) : wpY_unit post (g_place, g_culprit, g_listed, g_units, g_taken, g_used, g_depth, g_waiting, g_held, g_fault, g_steps, g_result, g_given, g_gift, g_has, b_kind, b_value, b_size, b_list, b_library, b_places, b_memory, b_wanted, b_pc, b_base, b_locals, b_waits, b_got, b_values) (nI u) := by
  unfold wpY_unit
  refine yu_out (n := 5) hu (by omega) (br_t rfl ?_)
  refine ym_misfit hc hs hK hP hN hSF (fun w => ?_)
  rcases sk_SF_r hSF with e | ⟨i, hi, e⟩
  · exact absurd e hr
  · refine nm_r hs (br_f (by rw [e]; exact nI_pos (by omega)) ⟨1, ?_⟩)
    exact yu_39 (h := 1) 0 (by decide) (br_f (by decide) (nm_r (e' := upd b_size 5 0) (congrArg (upd b_size 5) (ba_nb (n := 0) (by omega))) (hp w))) hc (by omega)
theorem yu_loop {post : Int32 → SY → Prop} {u c : Nat} {r : Int32} (hc : c ≤ 50) (hK : ∀ j, j < 50 → b_kind (250 + j) = nI (K j)) (hP : ∀ j, j < 50 → tk_P (K j) (b_value (250 + j))) (hV : ∀ j, j < 50 → V j = (b_value (250 + j)).toNatClampNeg)
    (hr : tw_S K V c r) (h0 : r = -1 → wY_unit_115 post (nI u) (-1) 0 g_place g_culprit g_listed g_units g_taken g_used g_depth g_waiting g_held g_fault g_steps g_result g_given g_gift g_has b_kind b_value b_size b_list b_library b_places b_memory b_wanted b_pc b_base b_locals b_waits b_got b_values) (h2 : r ≠ -1 → wY_unit_115 post (nI u) r 2 g_place g_culprit g_listed g_units g_taken g_used g_depth g_waiting g_held g_fault g_steps g_result g_given g_gift g_has b_kind b_value b_size b_list b_library b_places b_memory b_wanted b_pc b_base b_locals b_waits b_got b_values) :
    ∀ m i s, i + m = c → tw_I K V i s → (∀ j, j < i → tw_d K j → ¬ tw_b K V j) → wY_unit_39 post (nI u) (nI c) g_place g_culprit g_listed g_units g_taken g_used g_depth g_waiting g_held g_fault g_steps g_result g_given g_gift g_has b_kind b_value b_size b_list b_library b_places b_memory b_wanted b_pc b_base b_locals b_waits b_got b_values (m + 2) (-1) s 0 (nI i) := by
  intro m
  induction m with
  | zero =>
    intro i s hi hI hno
    refine br_t (nI_le (by omega) (by omega)) (h0 ?_)
    rcases hr with ⟨i', a, b, d, e, f⟩ | ⟨e, _⟩
    · exact absurd e (hno i' (by omega) d)
    · exact e
  | succ m ih =>
    intro i s hi hI hno
    have e1 : (250 : Int32) + nI i = nI (250 + i) := nI_add 250 i
    have e2 : ((250 : Int32) + nI i).toNatClampNeg = 250 + i := by rw [e1, nI_clamp (by omega)]
    have hin : vp_in ((250 : Int32) + nI i) 800 := pk_in (250 + i) 800 (by omega) e1
    have hPi := hP i (by omega)
    refine br_f (nI_ge (by omega) (by omega)) (br_t rfl ⟨hin, ?_⟩)
    rw [e2, hK i (by omega)]
    refine yd_isdef hPi.1 (fun hd => br_f (by decide) ⟨hin, ?_⟩) (fun hd => br_t rfl (nm_r (nI_1 i) ?_))
    · obtain ⟨hv1, hv2, hv3⟩ := tw_V hPi hd
      rw [← hV i (by omega)] at hv2 hv3
      refine nm_r (e' := (1 : Int32) <<< (nI (V i % 16) &&& 31)) (by rw [tw_V16 hPi hd, hV i (by omega)]) ?_
      refine br_c (fun hz => ?_) (fun hz => ?_)
      · rw [tb_and (by omega)] at hz
        have hnb : ¬ tw_b K V i := fun ⟨j, a, b, d⟩ => by
          have := (hI (V i % 16) (by omega)).mpr ⟨j, a, b, d⟩
          rw [hz] at this
          exact nomatch this
        refine nm_e (nm_r (nI_1 i) (ih (i + 1) _ (by omega) ?_ ?_))
        · intro n hn
          rw [tb_or (by omega) hn, Bool.or_eq_true, hI n hn, decide_eq_true_eq]
          constructor
          · rintro (⟨j, a, b, d⟩ | e)
            · exact ⟨j, by omega, b, d⟩
            · exact ⟨i, by omega, hd, e⟩
          · rintro ⟨j, a, b, d⟩
            by_cases z : j = i
            · subst z; exact Or.inr d
            · exact Or.inl ⟨j, by omega, b, d⟩
        · intro j a b
          by_cases z : j = i
          · subst z; exact hnb
          · exact hno j (by omega) b
      · rw [tb_and (by omega)] at hz
        have hb : tw_b K V i := by
          obtain ⟨j, a, b, d⟩ := (hI (V i % 16) (by omega)).mp (by cases h : s.toBitVec.getLsbD (V i % 16) with | false => exact absurd h hz | true => rfl)
          exact ⟨j, a, b, d⟩
        have er : r = nI i := by
          rcases hr with ⟨i', a, b, d, e, f⟩ | ⟨e, f⟩
          · have : i' = i := by
              by_cases x : i' < i
              · exact absurd e (hno i' x d)
              · by_cases y : i < i'
                · exact absurd hb (f i y hd)
                · omega
            rw [b, this]
          · exact absurd hb (f i (by omega) hd)
        refine nm_e (nm_r (nI_1 i) ?_)
        rw [← er]
        exact yu_39 (h := 2) (i + 1) (by decide) (h2 (by rw [er]; exact ba_m1 (by omega))) hc (by omega)
    · refine ih (i + 1) s (by omega) ?_ ?_
      · intro n hn
        rw [hI n hn]
        constructor
        · rintro ⟨j, a, b, d⟩; exact ⟨j, by omega, b, d⟩
        · rintro ⟨j, a, b, d⟩
          by_cases z : j = i
          · subst z; exact absurd b hd
          · exact ⟨j, by omega, b, d⟩
      · intro j a b
        by_cases z : j = i
        · subst z; exact absurd b hd
        · exact hno j (by omega) b
theorem yu_unit {post : Int32 → SY → Prop} {u c : Nat} {r : Int32} (hu : u < 5) (hc : c ≤ 50) (hs : b_size 5 = nI c) (hK : ∀ j, j < 50 → b_kind (250 + j) = nI (K j)) (hP : ∀ j, j < 50 → tk_P (K j) (b_value (250 + j))) (hN : ∀ j, j < 50 → N j = tk_n (K j) (b_value (250 + j)).toNatClampNeg) (hV : ∀ j, j < 50 → V j = (b_value (250 + j)).toNatClampNeg)
    (hSF : sk_SF K N c (-1)) (hr : tw_S K V c r)
    (hT : r ≠ -1 → ∀ w, post 2 (r, g_culprit, g_listed, g_units, g_taken, g_used, g_depth, g_waiting, g_held, g_fault, g_steps, g_result, g_given, g_gift, g_has, b_kind, b_value, upd b_size 5 0, b_list, b_library, b_places, b_memory, w, b_pc, b_base, b_locals, b_waits, b_got, b_values))
    (hO : r = -1 → ∀ w, post 0 (g_place, g_culprit, g_listed, g_units, g_taken, g_used, g_depth, g_waiting, g_held, g_fault, g_steps, g_result, g_given, g_gift, g_has, kd_w b_kind (fun i => b_kind (250 + i)) u 50, kd_w b_value (fun i => b_value (250 + i)) u 50, upd (upd b_size u (nI c)) 5 0, b_list, b_library, b_places, b_memory, w, b_pc, b_base, b_locals, b_waits, b_got, b_values)) : wpY_unit post (g_place, g_culprit, g_listed, g_units, g_taken, g_used, g_depth, g_waiting, g_held, g_fault, g_steps, g_result, g_given, g_gift, g_has, b_kind, b_value, b_size, b_list, b_library, b_places, b_memory, b_wanted, b_pc, b_base, b_locals, b_waits, b_got, b_values) (nI u) := by
  unfold wpY_unit
  refine yu_out (n := 5) hu (by omega) (br_t rfl ?_)
  refine ym_misfit hc hs hK hP hN hSF (fun w => ?_)
  refine nm_r hs (br_t (by decide) ⟨c + 2, ?_⟩)
  refine yu_loop hc hK hP hV hr (fun e => br_t rfl ?_) (fun e => br_f (by decide) (nm_r (e' := upd b_size 5 0) (congrArg (upd b_size 5) (ba_nb (n := 0) (by omega))) (hT e w))) c 0 0 (by omega) ?_ (fun j h => absurd h (by omega))
  · refine yu_copy (f := 5) (by omega) (by omega) (by omega) (fun i hi => ⟨K i, (hP i hi).1, hK i hi⟩) hs hc ?_
    refine nm_r (congrArg (upd (upd b_size u (nI c)) 5) (ba_nb (n := 0) (by omega))) ?_
    exact hO e w
  · intro n hn
    constructor
    · intro z
      exact absurd z (by simp)
    · rintro ⟨j, a, _⟩; exact absurd a (by omega)
end
end
section
/-! linking as pure recursion over rows: K, V kinds and values, L lengths -/
def kn (a : Nat → Int32) (j : Nat) : Nat := (a j).toNatClampNeg
/-- the first definition of a name among the first t tokens of row k -/
def lk_f (K V : Nat → Nat → Nat) (k nm : Nat) : Nat → Option Nat
  | 0 => none
  | t + 1 => match lk_f K V k nm t with
    | some i => some i
    | none => if (K k t = 28 ∨ K k t = 29) ∧ V k t % 16 = nm then some t else none
def lk_w (K V : Nat → Nat → Nat) (k i : Nat) : Bool := if K k i = 28 then decide (64 ≤ V k i) else decide (128 ≤ V k i)
def lk_B1 (K V : Nat → Nat → Nat) (n : Nat) (old o : Option Nat) : Option Nat := match o with
  | none => old
  | some i => match old with
    | none => some (50 * n + i)
    | some c => if lk_w K V (c / 50) (c % 50) = true ∧ lk_w K V n i = false then some (50 * n + i) else some c
def lk_X1 (K V : Nat → Nat → Nat) (n : Nat) (old o : Option Nat) : Option Nat := match o with
  | none => old
  | some i => match old with
    | none => some (50 * n + i)
    | some c => if lk_w K V n i = false then some (50 * n + i) else some c
def lk_U1 (K V : Nat → Nat → Nat) (n : Nat) (du : Bool) (old o : Option Nat) : Bool := match o with
  | none => du
  | some i => match old with
    | none => du
    | some c => if lk_w K V n i = false ∧ lk_w K V (c / 50) (c % 50) = false then true else du
def lk_S1 (K V : Nat → Nat → Nat) (n s : Nat) (o : Option Nat) : Nat := match o with
  | none => s
  | some i => if lk_w K V n i = false then s + 1 else s
def lk_b (K V : Nat → Nat → Nat) (L : Nat → Nat) (nm : Nat) : Nat → Option Nat
  | 0 => none
  | n + 1 => lk_B1 K V n (lk_b K V L nm n) (lk_f K V n nm (L n))
def lk_x (K V : Nat → Nat → Nat) (L : Nat → Nat) (nm : Nat) : Nat → Option Nat
  | 0 => none
  | n + 1 => lk_X1 K V n (lk_x K V L nm n) (lk_f K V n nm (L n))
def lk_u (K V : Nat → Nat → Nat) (L : Nat → Nat) (nm : Nat) : Nat → Bool
  | 0 => false
  | n + 1 => lk_U1 K V n (lk_u K V L nm n) (lk_x K V L nm n) (lk_f K V n nm (L n))
def lk_s (K V : Nat → Nat → Nat) (L : Nat → Nat) (nm : Nat) : Nat → Nat
  | 0 => 0
  | n + 1 => lk_S1 K V n (lk_s K V L nm n) (lk_f K V n nm (L n))
def lk_D (K V : Nat → Nat → Nat) (k nm i : Nat) : Prop := (K k i = 28 ∨ K k i = 29) ∧ V k i % 16 = nm
def lk_Q (K V : Nat → Nat → Nat) (k nm i : Nat) : Prop := (K k i = 2 ∨ K k i = 3 ∨ K k i = 5) ∧ V k i % 16 = nm
def lk_W (K V : Nat → Nat → Nat) (L : Nat → Nat) (nm n : Nat) : Prop := ∃ k, k < n ∧ ∃ i, i < L k ∧ lk_Q K V k nm i
theorem lk_f_some {K V : Nat → Nat → Nat} {k nm : Nat} : ∀ {t i}, lk_f K V k nm t = some i → i < t ∧ lk_D K V k nm i ∧ ∀ j, j < i → ¬ lk_D K V k nm j := by
  intro t
  have hn : ∀ t, lk_f K V k nm t = none → ∀ j, j < t → ¬ lk_D K V k nm j := by
    intro t
    induction t with
    | zero => exact fun _ j h => absurd h (by omega)
    | succ t ih =>
      intro h j hj
      unfold lk_f at h
      split at h
      · exact nomatch h
      · rename_i e
        split at h
        · exact nomatch h
        · rename_i e2
          by_cases z : j = t
          · subst z; exact e2
          · exact ih e j (by omega)
  induction t with
  | zero => exact fun h => nomatch h
  | succ t ih =>
    intro i h
    unfold lk_f at h
    split at h
    · rename_i i' e
      cases h
      obtain ⟨a, b, c⟩ := ih e
      exact ⟨by omega, b, c⟩
    · rename_i e
      split at h
      · rename_i e2
        cases h
        exact ⟨by omega, e2, hn _ e⟩
      · exact nomatch h
theorem lk_f_none {K V : Nat → Nat → Nat} {k nm : Nat} : ∀ {t}, lk_f K V k nm t = none ↔ ∀ j, j < t → ¬ lk_D K V k nm j := by
  intro t
  constructor
  · induction t with
    | zero => exact fun _ j h => absurd h (by omega)
    | succ t ih =>
      intro h j hj
      unfold lk_f at h
      split at h
      · exact nomatch h
      · rename_i e
        split at h
        · exact nomatch h
        · rename_i e2
          by_cases z : j = t
          · subst z; exact e2
          · exact ih e j (by omega)
  · intro h
    cases e : lk_f K V k nm t with
    | none => rfl
    | some i =>
      have := lk_f_some e
      exact absurd this.2.1 (h i this.1)
theorem lk_f_succ_n {K V : Nat → Nat → Nat} {k nm t : Nat} (h : ¬ lk_D K V k nm t) : lk_f K V k nm (t + 1) = lk_f K V k nm t := by
  show (match lk_f K V k nm t with | some i => some i | none => _) = _
  cases e : lk_f K V k nm t with
  | some i => rfl
  | none => exact if_neg h
theorem lk_f_succ_d {K V : Nat → Nat → Nat} {k nm t : Nat} (h : lk_D K V k nm t) (hn : lk_f K V k nm t = none) : lk_f K V k nm (t + 1) = some t := by
  show (match lk_f K V k nm t with | some i => some i | none => _) = _
  rw [hn]
  exact if_pos h
theorem lk_f_cong {K V K' V' : Nat → Nat → Nat} {k k' nm : Nat} : ∀ {t}, (∀ i, i < t → K k i = K' k' i ∧ V k i = V' k' i) → lk_f K V k nm t = lk_f K' V' k' nm t := by
  intro t
  induction t with
  | zero => exact fun _ => rfl
  | succ t ih =>
    intro h
    have e := h t (by omega)
    show (match lk_f K V k nm t with | some i => some i | none => _) = (match lk_f K' V' k' nm t with | some i => some i | none => _)
    rw [ih (fun i hi => h i (by omega)), e.1, e.2]
theorem lk_w_cong {K V K' V' : Nat → Nat → Nat} {k i : Nat} (h : K k i = K' k i ∧ V k i = V' k i) : lk_w K V k i = lk_w K' V' k i := by
  unfold lk_w
  rw [h.1, h.2]
theorem lk_b_in {K V : Nat → Nat → Nat} {L : Nat → Nat} {nm : Nat} : ∀ {n}, (∀ k, k < n → L k ≤ 50) → ∀ {c}, lk_b K V L nm n = some c → c / 50 < n ∧ c % 50 < L (c / 50) ∧ lk_D K V (c / 50) nm (c % 50) := by
  intro n
  induction n with
  | zero => exact fun _ _ h => nomatch h
  | succ n ih =>
    intro hL c h
    have ih' := fun {c} => @ih (fun k hk => hL k (by omega)) c
    have hLn := hL n (by omega)
    change lk_B1 K V n (lk_b K V L nm n) (lk_f K V n nm (L n)) = some c at h
    unfold lk_B1 at h
    split at h
    · have := ih' h; exact ⟨by omega, this.2⟩
    · rename_i i e
      have hi := lk_f_some e
      have h50 : (50 * n + i) / 50 = n ∧ (50 * n + i) % 50 = i := by omega
      split at h
      · cases h
        rw [h50.1, h50.2]
        exact ⟨by omega, hi.1, hi.2.1⟩
      · rename_i c' e2
        split at h
        · cases h
          rw [h50.1, h50.2]
          exact ⟨by omega, hi.1, hi.2.1⟩
        · cases h
          have := ih' e2; exact ⟨by omega, this.2⟩
theorem lk_x_in {K V : Nat → Nat → Nat} {L : Nat → Nat} {nm : Nat} : ∀ {n}, (∀ k, k < n → L k ≤ 50) → ∀ {c}, lk_x K V L nm n = some c → c / 50 < n ∧ c % 50 < L (c / 50) ∧ lk_D K V (c / 50) nm (c % 50) := by
  intro n
  induction n with
  | zero => exact fun _ _ h => nomatch h
  | succ n ih =>
    intro hL c h
    have ih' := fun {c} => @ih (fun k hk => hL k (by omega)) c
    have hLn := hL n (by omega)
    change lk_X1 K V n (lk_x K V L nm n) (lk_f K V n nm (L n)) = some c at h
    unfold lk_X1 at h
    split at h
    · have := ih' h; exact ⟨by omega, this.2⟩
    · rename_i i e
      have hi := lk_f_some e
      have h50 : (50 * n + i) / 50 = n ∧ (50 * n + i) % 50 = i := by omega
      split at h
      · cases h
        rw [h50.1, h50.2]
        exact ⟨by omega, hi.1, hi.2.1⟩
      · rename_i c' e2
        split at h
        · cases h
          rw [h50.1, h50.2]
          exact ⟨by omega, hi.1, hi.2.1⟩
        · cases h
          have := ih' e2; exact ⟨by omega, this.2⟩
/-- the component's choice and the reference's -/
def lk_A (K V : Nat → Nat → Nat) (x b : Option Nat) (u : Bool) (s : Nat) : Prop := (x = none ↔ b = none) ∧ (u = false → x = b) ∧ (x = none → s = 0) ∧ (∀ c, x = some c → (lk_w K V (c / 50) (c % 50) = false ↔ 1 ≤ s)) ∧ (∀ c, b = some c → (lk_w K V (c / 50) (c % 50) = false ↔ 1 ≤ s)) ∧ (u = true ↔ 2 ≤ s)
theorem lk_agree {K V : Nat → Nat → Nat} {L : Nat → Nat} {nm : Nat} : ∀ {n}, (∀ k, k < n → L k ≤ 50) → lk_A K V (lk_x K V L nm n) (lk_b K V L nm n) (lk_u K V L nm n) (lk_s K V L nm n) := by
  intro n
  induction n with
  | zero => exact fun _ => ⟨Iff.rfl, fun _ => rfl, fun _ => rfl, fun c h => (nomatch h), fun c h => (nomatch h), ⟨fun h => (nomatch h), fun h => absurd h (by show ¬ 2 ≤ 0; decide)⟩⟩
  | succ n ih =>
    intro hL
    have h := ih (fun k hk => hL k (by omega))
    have hLn := hL n (by omega)
    show lk_A K V (lk_X1 K V n (lk_x K V L nm n) (lk_f K V n nm (L n))) (lk_B1 K V n (lk_b K V L nm n) (lk_f K V n nm (L n))) (lk_U1 K V n (lk_u K V L nm n) (lk_x K V L nm n) (lk_f K V n nm (L n))) (lk_S1 K V n (lk_s K V L nm n) (lk_f K V n nm (L n)))
    revert h
    generalize lk_x K V L nm n = x
    generalize lk_b K V L nm n = b
    generalize lk_u K V L nm n = u
    generalize lk_s K V L nm n = s
    intro h
    cases e : lk_f K V n nm (L n) with
    | none => exact h
    | some i =>
      have hi := (lk_f_some e).1
      have h1 : (50 * n + i) / 50 = n := by omega
      have h2 : (50 * n + i) % 50 = i := by omega
      obtain ⟨a1, a2, a3, a4, a5, a6⟩ := h
      cases x with
      | none =>
        have eb := a1.mp rfl
        subst eb
        have es := a3 rfl
        subst es
        have eu : u = false := by cases u with | false => rfl | true => exact absurd (a6.mp rfl) (by decide)
        subst eu
        show lk_A K V (some (50 * n + i)) (some (50 * n + i)) false (if lk_w K V n i = false then 0 + 1 else 0)
        refine ⟨⟨fun z => (nomatch z), fun z => (nomatch z)⟩, fun _ => rfl, fun z => (nomatch z), fun c hc => ?_, fun c hc => ?_, ⟨fun z => (nomatch z), fun z => ?_⟩⟩
        · cases hc; rw [h1, h2]; by_cases z : lk_w K V n i = false
          · rw [if_pos z]; exact ⟨fun _ => by decide, fun _ => z⟩
          · rw [if_neg z]; exact ⟨fun y => absurd y z, fun y => absurd y (by decide)⟩
        · cases hc; rw [h1, h2]; by_cases z : lk_w K V n i = false
          · rw [if_pos z]; exact ⟨fun _ => by decide, fun _ => z⟩
          · rw [if_neg z]; exact ⟨fun y => absurd y z, fun y => absurd y (by decide)⟩
        · exfalso; split at z <;> omega
      | some c =>
        cases b with
        | none => exact absurd (a1.mpr rfl) (by intro z; exact nomatch z)
        | some d =>
          have a4 := a4 c rfl
          have a5 := a5 d rfl
          show lk_A K V (if lk_w K V n i = false then some (50 * n + i) else some c) (if lk_w K V (d / 50) (d % 50) = true ∧ lk_w K V n i = false then some (50 * n + i) else some d) (if lk_w K V n i = false ∧ lk_w K V (c / 50) (c % 50) = false then true else u) (if lk_w K V n i = false then s + 1 else s)
          by_cases z : lk_w K V n i = false
          · rw [if_pos z, if_pos z]
            by_cases y : lk_w K V (c / 50) (c % 50) = false
            · have hs := a4.mp y
              have hd := a5.mpr hs
              rw [if_neg (by rw [hd]; exact fun q => nomatch q.1), if_pos ⟨z, y⟩]
              refine ⟨⟨fun q => (nomatch q), fun q => (nomatch q)⟩, fun q => (nomatch q), fun q => (nomatch q), fun c' hc => ?_, fun c' hc => ?_, ⟨fun _ => by omega, fun _ => rfl⟩⟩
              · cases hc; rw [h1, h2]; exact ⟨fun _ => by omega, fun _ => z⟩
              · cases hc; exact ⟨fun _ => by omega, fun _ => hd⟩
            · have hs : ¬ 1 ≤ s := fun q => y (a4.mpr q)
              have hd : lk_w K V (d / 50) (d % 50) = true := by
                cases q : lk_w K V (d / 50) (d % 50) with
                | true => rfl
                | false => exact absurd (a5.mp q) hs
              have eu : u = false := by cases u with | false => rfl | true => exact absurd (a6.mp rfl) (by omega)
              rw [if_pos ⟨hd, z⟩, if_neg (fun q => y q.2), eu]
              refine ⟨⟨fun q => (nomatch q), fun q => (nomatch q)⟩, fun _ => rfl, fun q => (nomatch q), fun c' hc => ?_, fun c' hc => ?_, ⟨fun q => (nomatch q), fun q => by omega⟩⟩
              · cases hc; rw [h1, h2]; exact ⟨fun _ => by omega, fun _ => z⟩
              · cases hc; rw [h1, h2]; exact ⟨fun _ => by omega, fun _ => z⟩
          · rw [if_neg z, if_neg (fun q => z q.2), if_neg (fun q => z q.1), if_neg z]
            refine ⟨⟨fun q => (nomatch q), fun q => (nomatch q)⟩, a2, fun q => (nomatch q), fun c' hc => ?_, fun c' hc => ?_, a6⟩
            · cases hc; exact a4
            · cases hc; exact a5
/-- rows that hold the same -/
def lk_E (K V K' V' : Nat → Nat → Nat) (L L' : Nat → Nat) (n : Nat) : Prop := ∀ k, k < n → L k = L' k ∧ ∀ i, i < L k → K k i = K' k i ∧ V k i = V' k i
theorem lk_cong {K V K' V' : Nat → Nat → Nat} {L L' : Nat → Nat} {nm : Nat} : ∀ {n}, (∀ k, k < n → L k ≤ 50) → lk_E K V K' V' L L' n → lk_b K V L nm n = lk_b K' V' L' nm n ∧ lk_x K V L nm n = lk_x K' V' L' nm n ∧ lk_u K V L nm n = lk_u K' V' L' nm n ∧ lk_s K V L nm n = lk_s K' V' L' nm n := by
  intro n
  induction n with
  | zero => exact fun _ _ => ⟨rfl, rfl, rfl, rfl⟩
  | succ n ih =>
    intro hL hE
    have hL' : ∀ k, k < n → L k ≤ 50 := fun k hk => hL k (by omega)
    obtain ⟨i1, i2, i3, i4⟩ := ih hL' (fun k hk => hE k (by omega))
    have en := hE n (by omega)
    have ef : lk_f K V n nm (L n) = lk_f K' V' n nm (L' n) := by rw [← en.1]; exact lk_f_cong en.2
    have ew : ∀ c, c / 50 < n → c % 50 < L (c / 50) → lk_w K V (c / 50) (c % 50) = lk_w K' V' (c / 50) (c % 50) := fun c h1 h2 => lk_w_cong ((hE (c / 50) (by omega)).2 _ h2)
    have ewn : ∀ i, i < L n → lk_w K V n i = lk_w K' V' n i := fun i h => lk_w_cong (en.2 i h)
    have hb := @lk_b_in K V L nm n hL'
    have hx := @lk_x_in K V L nm n hL'
    show lk_B1 K V n (lk_b K V L nm n) (lk_f K V n nm (L n)) = lk_B1 K' V' n (lk_b K' V' L' nm n) (lk_f K' V' n nm (L' n)) ∧ lk_X1 K V n (lk_x K V L nm n) (lk_f K V n nm (L n)) = lk_X1 K' V' n (lk_x K' V' L' nm n) (lk_f K' V' n nm (L' n)) ∧ lk_U1 K V n (lk_u K V L nm n) (lk_x K V L nm n) (lk_f K V n nm (L n)) = lk_U1 K' V' n (lk_u K' V' L' nm n) (lk_x K' V' L' nm n) (lk_f K' V' n nm (L' n)) ∧ lk_S1 K V n (lk_s K V L nm n) (lk_f K V n nm (L n)) = lk_S1 K' V' n (lk_s K' V' L' nm n) (lk_f K' V' n nm (L' n))
    rw [← ef, ← i1, ← i2, ← i3, ← i4]
    cases e : lk_f K V n nm (L n) with
    | none => exact ⟨rfl, rfl, rfl, rfl⟩
    | some i =>
      have e1 := ewn i (lk_f_some e).1
      refine ⟨?_, ?_, ?_, ?_⟩
      · unfold lk_B1
        cases q : lk_b K V L nm n with
        | none => rfl
        | some c => simp only [e1, ew c (hb q).1 (hb q).2.1]
      · unfold lk_X1
        cases q : lk_x K V L nm n with
        | none => rfl
        | some c => simp only [e1]
      · unfold lk_U1
        cases q : lk_x K V L nm n with
        | none => rfl
        | some c => simp only [e1, ew c (hx q).1 (hx q).2.1]
      · unfold lk_S1
        simp only [e1]
theorem lk_W_cong {K V K' V' : Nat → Nat → Nat} {L L' : Nat → Nat} {nm n : Nat} (hE : lk_E K V K' V' L L' n) : lk_W K V L nm n ↔ lk_W K' V' L' nm n := by
  constructor
  · rintro ⟨k, hk, i, hi, h⟩
    have e := hE k hk
    have e2 := e.2 i hi
    refine ⟨k, hk, i, by rw [← e.1]; exact hi, ?_⟩
    unfold lk_Q at h ⊢
    rw [← e2.1, ← e2.2]; exact h
  · rintro ⟨k, hk, i, hi, h⟩
    have e := hE k hk
    rw [← e.1] at hi
    have e2 := e.2 i hi
    refine ⟨k, hk, i, hi, ?_⟩
    unfold lk_Q at h ⊢
    rw [e2.1, e2.2]; exact h
theorem lk_b_none {K V : Nat → Nat → Nat} {L : Nat → Nat} {nm : Nat} : ∀ {n}, lk_b K V L nm n = none ↔ ∀ k, k < n → lk_f K V k nm (L k) = none := by
  intro n
  induction n with
  | zero => exact ⟨fun _ k h => absurd h (by omega), fun _ => rfl⟩
  | succ n ih =>
    show lk_B1 K V n (lk_b K V L nm n) (lk_f K V n nm (L n)) = none ↔ _
    constructor
    · intro h k hk
      cases e : lk_f K V n nm (L n) with
      | none =>
        rw [e] at h
        by_cases z : k = n
        · rw [z]; exact e
        · exact ih.mp h k (by omega)
      | some i =>
        rw [e] at h
        unfold lk_B1 at h
        split at h
        · rename_i q; exact nomatch q
        · split at h
          · exact nomatch h
          · split at h <;> exact nomatch h
    · intro h
      rw [h n (by omega)]
      exact ih.mpr (fun k hk => h k (by omega))
end
section
/-! the reference's scans -/
def yr_R (yk yv ys : Nat → Int32) (r : Nat) (K V : Nat → Nat) (L : Nat) : Prop := L ≤ 50 ∧ ys r = nI L ∧ ∀ i, i < L → yk (50 * r + i) = nI (K i) ∧ tk_P (K i) (yv (50 * r + i)) ∧ (yv (50 * r + i)).toNatClampNeg = V i
def yl_e (b : Nat) (o : Option Nat) : Int32 := match o with
  | none => -1
  | some i => nI (b + i)
theorem yl_n {b : Nat} : yl_e b none < 0 := by show (-1 : Int32) < 0; decide
theorem tw_U {c : Nat} {v : Int32} (h : tk_P c v) (hc : c = 2 ∨ c = 3 ∨ c = 5) : v = nI v.toNatClampNeg ∧ v.toNatClampNeg < 64 ∧ v.toNatClampNeg % 16 < 12 := by
  by_cases e : c = 5
  · obtain ⟨m, a, b, rfl⟩ := h.2.2.2.2.1 e
    rw [nI_clamp (by omega)]
    exact ⟨rfl, by omega, b⟩
  · obtain ⟨m, a, rfl⟩ := h.2.2.2.1 (by omega)
    rw [nI_clamp (by omega)]
    exact ⟨rfl, by omega, by omega⟩
theorem tw_U16 {c : Nat} {v : Int32} (h : tk_P c v) (hc : c = 2 ∨ c = 3 ∨ c = 5) : v &&& 15 = nI (v.toNatClampNeg % 16) := by
  obtain ⟨a, b, _⟩ := tw_U h hc
  have := ba_and15 (n := v.toNatClampNeg) (by omega)
  rw [← a] at this
  exact this
/-- what a use asks of its definition d -/
def lk_su (K V : Nat → Nat → Nat) (d k i : Nat) : Prop := if K k i = 5 then K (d / 50) (d % 50) = 28 ∧ V (d / 50) (d % 50) / 16 % 4 = V k i / 16 else K (d / 50) (d % 50) = 29
def lk_R (K V : Nat → Nat → Nat) (L : Nat → Nat) (nm n : Nat) (r : Int32) : Prop := (r = 0 ∧ ∀ k, k < n → ∀ i, i < L k → lk_Q K V k nm i → ∃ d, lk_b K V L nm n = some d ∧ lk_su K V d k i) ∨ (r = 4 ∧ lk_W K V L nm n ∧ lk_b K V L nm n = none) ∨ (r = 5 ∧ ∃ d, lk_b K V L nm n = some d ∧ ∃ k, k < n ∧ ∃ i, i < L k ∧ lk_Q K V k nm i ∧ ¬ lk_su K V d k i)
theorem lk_R_one {K V : Nat → Nat → Nat} {L : Nat → Nat} {nm n : Nat} {r r' : Int32} (h : lk_R K V L nm n r) (h' : lk_R K V L nm n r') : r = r' := by
  rcases h with ⟨e, h⟩ | ⟨e, h, h2⟩ | ⟨e, d, h, k, hk, i, hi, hq, hs⟩ <;> rcases h' with ⟨e', h'⟩ | ⟨e', h', h2'⟩ | ⟨e', d', h', k', hk', i', hi', hq', hs'⟩
  · rw [e, e']
  · exfalso
    obtain ⟨k, hk, i, hi, hq⟩ := h'
    obtain ⟨d, a, _⟩ := h k hk i hi hq
    rw [a] at h2'; exact nomatch h2'
  · exfalso
    obtain ⟨d, a, b⟩ := h k' hk' i' hi' hq'
    rw [a] at h'; cases h'; exact hs' b
  · exfalso
    obtain ⟨k, hk, i, hi, hq⟩ := h
    obtain ⟨d, a, _⟩ := h' k hk i hi hq
    rw [a] at h2; exact nomatch h2
  · rw [e, e']
  · exfalso; rw [h2] at h'; exact nomatch h'
  · exfalso
    obtain ⟨d', a, b⟩ := h' k hk i hi hq
    rw [a] at h; cases h; exact hs b
  · exfalso; rw [h2'] at h; exact nomatch h
  · rw [e, e']
/-- a library unit is of use -/
def lk_O (C W : Nat → Nat → Nat) (M : Nat → Nat) (u : Nat) (K V : Nat → Nat → Nat) (L : Nat → Nat) (n : Nat) : Prop := ∃ i, i < M u ∧ (C u i = 28 ∨ C u i = 29) ∧ lk_W K V L (W u i % 16) n ∧ lk_b K V L (W u i % 16) n = none
def lk_dt (K V : Nat → Nat → Nat) (L : Nat → Nat) (n c : Nat) : Bool := decide (c % 50 < L (c / 50) ∧ K (c / 50) (c % 50) = 29 ∧ lk_b K V L (V (c / 50) (c % 50) % 16) n = some c)
section
variable {g_place g_culprit g_listed g_units g_taken g_used g_depth g_waiting g_held g_fault g_steps g_result g_given g_gift g_has : Int32} {b_kind b_value b_size b_list b_library b_places b_memory b_wanted b_pc b_base b_locals b_waits b_got b_values : Nat → Int32}
variable {K V : Nat → Nat → Nat} {L : Nat → Nat}
theorem yl_in {post : Int32 → Prop} {r k nm : Nat} (hr : r < 16) (hnm : nm < 16) (hR : yr_R b_kind b_value b_size r (K k) (V k) (L k)) (hp : post (yl_e (50 * r) (lk_f K V k nm (L k)))) : wpY_definitionIn post (g_place, g_culprit, g_listed, g_units, g_taken, g_used, g_depth, g_waiting, g_held, g_fault, g_steps, g_result, g_given, g_gift, g_has, b_kind, b_value, b_size, b_list, b_library, b_places, b_memory, b_wanted, b_pc, b_base, b_locals, b_waits, b_got, b_values) (nI r) (nI nm) := by
  obtain ⟨hL, hs, hT⟩ := hR
  have e50 : (50 : Int32) * nI r = nI (50 * r) := by rw [show (50 : Int32) = nI 50 from rfl, pk_mul]
  have eb : (50 : Int32) * nI r + b_size (nI r).toNatClampNeg = nI (50 * r + L k) := by rw [nI_clamp (by omega), hs, e50, nI_add]
  have key : ∀ m t, t + m = L k → lk_f K V k nm t = none → wY_definitionIn_5 post (nI r) (nI nm) g_place g_culprit g_listed g_units g_taken g_used g_depth g_waiting g_held g_fault g_steps g_result g_given g_gift g_has b_kind b_value b_size b_list b_library b_places b_memory b_wanted b_pc b_base b_locals b_waits b_got b_values (m + 1) (nI (50 * r + t)) := by
    intro m
    induction m with
    | zero =>
      intro t ht hn
      refine ⟨pk_in r 16 hr, br_t (by rw [eb]; exact nI_le (by omega) (by omega)) ?_⟩
      rw [← ht, show t + 0 = t from rfl, hn] at hp
      exact hp
    | succ m ih =>
      intro t ht hn
      obtain ⟨h1, h2, h3⟩ := hT t (by omega)
      have hin : vp_in (nI (50 * r + t)) 800 := pk_in (50 * r + t) 800 (by omega)
      have ec : (nI (50 * r + t)).toNatClampNeg = 50 * r + t := nI_clamp (by omega)
      refine ⟨pk_in r 16 hr, br_f (by rw [eb]; exact nI_ge (by omega) (by omega)) ⟨hin, ?_⟩⟩
      rw [ec, h1]
      have hnext : ¬ lk_D K V k nm t → wY_definitionIn_5 post (nI r) (nI nm) g_place g_culprit g_listed g_units g_taken g_used g_depth g_waiting g_held g_fault g_steps g_result g_given g_gift g_has b_kind b_value b_size b_list b_library b_places b_memory b_wanted b_pc b_base b_locals b_waits b_got b_values (m + 1) (nI (50 * r + t) + 1) := by
        intro hd
        rw [nI_1]
        exact ih (t + 1) (by omega) (by rw [lk_f_succ_n hd]; exact hn)
      refine yd_isdef h2.1 (fun hd => br_f (by decide) ⟨hin, ?_⟩) (fun hd => br_t rfl (nm_e (hnext (fun z => hd z.1))))
      rw [tw_V16 h2 hd, h3]
      refine pk_eq (V k t % 16) nm (fun e => ?_) (fun e => nm_e (hnext (fun z => e z.2)))
      have e1 : lk_f K V k nm (t + 1) = some t := lk_f_succ_d ⟨hd, e⟩ hn
      have e2 : ∀ m, lk_f K V k nm (t + 1 + m) = some t := by
        intro m
        induction m with
        | zero => exact e1
        | succ m ih2 =>
          show (match lk_f K V k nm (t + 1 + m) with | some i => some i | none => _) = _
          rw [ih2]
      have e3 := e2 m
      rw [show t + 1 + m = L k by omega] at e3
      rw [e3] at hp
      exact hp
  refine nm_r e50 ⟨L k + 1, ?_⟩
  exact key (L k) 0 (by omega) rfl
theorem yl_weak {post : Int32 → Prop} {r k i : Nat} (hr : r < 16) (hR : yr_R b_kind b_value b_size r (K k) (V k) (L k)) (hi : i < L k) (hd : K k i = 28 ∨ K k i = 29) (h1 : lk_w K V k i = true → post 1) (h0 : lk_w K V k i = false → post 0) : wpY_weak post (g_place, g_culprit, g_listed, g_units, g_taken, g_used, g_depth, g_waiting, g_held, g_fault, g_steps, g_result, g_given, g_gift, g_has, b_kind, b_value, b_size, b_list, b_library, b_places, b_memory, b_wanted, b_pc, b_base, b_locals, b_waits, b_got, b_values) (nI (50 * r + i)) := by
  obtain ⟨hL, hs, hT⟩ := hR
  obtain ⟨a1, a2, a3⟩ := hT i hi
  have hin : vp_in (nI (50 * r + i)) 800 := pk_in (50 * r + i) 800 (by omega)
  have ec : (nI (50 * r + i)).toNatClampNeg = 50 * r + i := nI_clamp (by omega)
  obtain ⟨v1, v2, v3⟩ := tw_V a2 hd
  rw [a3] at v1 v2 v3
  refine ⟨hin, hin, ?_⟩
  rw [ec, a1]
  have h9 := a2.1
  refine pk_eq (K k i) 28 (fun e => ?_) (fun e => ?_)
  · obtain ⟨m, b1, b2, b3⟩ := a2.2.2.2.2.2.1 e
    have hm : V k i = m := by rw [← a3, b3, nI_clamp (by omega)]
    unfold wY_weak_24
    rw [v1, ba_shr6 (by omega), ba_and1 (by omega)]
    refine pk_eq (V k i / 64 % 2) 0 (fun z => h0 ?_) (fun z => h1 ?_)
    · unfold lk_w; rw [if_pos e]; exact decide_eq_false (by omega)
    · unfold lk_w; rw [if_pos e]; exact decide_eq_true (by omega)
  · unfold wY_weak_24
    rw [v1, ba_shr7 (by omega), ba_and1 (by omega)]
    refine pk_eq (V k i / 128 % 2) 0 (fun z => h0 ?_) (fun z => h1 ?_)
    · unfold lk_w; rw [if_neg e]; exact decide_eq_false (by omega)
    · unfold lk_w; rw [if_neg e]; exact decide_eq_true (by omega)
theorem yl_def {post : Int32 → Prop} {f n nm : Nat} (hf : f + n ≤ 16) (hnm : nm < 16) (hR : ∀ k, k < n → yr_R b_kind b_value b_size (f + k) (K k) (V k) (L k)) (hp : post (yl_e (50 * f) (lk_b K V L nm n))) : wpY_definition post (g_place, g_culprit, g_listed, g_units, g_taken, g_used, g_depth, g_waiting, g_held, g_fault, g_steps, g_result, g_given, g_gift, g_has, b_kind, b_value, b_size, b_list, b_library, b_places, b_memory, b_wanted, b_pc, b_base, b_locals, b_waits, b_got, b_values) (nI f) (nI n) (nI nm) := by
  have efn : nI f + nI n = nI (f + n) := nI_add f n
  have key : ∀ m k, k + m = n → wY_definition_6 post (nI f) (nI n) (nI nm) g_place g_culprit g_listed g_units g_taken g_used g_depth g_waiting g_held g_fault g_steps g_result g_given g_gift g_has b_kind b_value b_size b_list b_library b_places b_memory b_wanted b_pc b_base b_locals b_waits b_got b_values (m + 1) (yl_e (50 * f) (lk_b K V L nm k)) (nI (f + k)) := by
    intro m
    induction m with
    | zero =>
      intro k hk
      refine br_t (by rw [efn]; exact nI_le (by omega) (by omega)) ?_
      rw [show k = n by omega]; exact hp
    | succ m ih =>
      intro k hk
      have hRk := hR k (by omega)
      have hL : ∀ k', k' < k → L k' ≤ 50 := fun k' h => (hR k' (by omega)).1
      have ihk := ih (k + 1) (by omega)
      rw [show lk_b K V L nm (k + 1) = lk_B1 K V k (lk_b K V L nm k) (lk_f K V k nm (L k)) from rfl] at ihk
      refine br_f (by rw [efn]; exact nI_ge (by omega) (by omega)) (yl_in (by omega) hnm hRk ?_)
      cases e : lk_f K V k nm (L k) with
      | none =>
        rw [e] at ihk
        exact br_t yl_n (nm_r (nI_1 _) ihk)
      | some i =>
        have hi := lk_f_some e
        have hiL : i < 50 := by have := hRk.1; omega
        rw [e] at ihk
        refine br_f (nI_pos (by omega)) ?_
        cases e2 : lk_b K V L nm k with
        | none =>
          rw [e2] at ihk
          refine br_t yl_n (nm_r (nI_1 _) ?_)
          have : yl_e (50 * (f + k)) (some i) = yl_e (50 * f) (some (50 * k + i)) := congrArg nI (by omega)
          rw [this]
          exact ihk
        | some c =>
          rw [e2] at ihk
          have hc := lk_b_in hL e2
          have ea : yl_e (50 * f) (some c) = nI (50 * (f + c / 50) + c % 50) := congrArg nI (by omega)
          have hcL : c % 50 < 50 := by omega
          refine br_f (nI_pos (by omega)) ?_
          have ihk' : wY_definition_6 post (nI f) (nI n) (nI nm) g_place g_culprit g_listed g_units g_taken g_used g_depth g_waiting g_held g_fault g_steps g_result g_given g_gift g_has b_kind b_value b_size b_list b_library b_places b_memory b_wanted b_pc b_base b_locals b_waits b_got b_values (m + 1) (yl_e (50 * f) (if lk_w K V (c / 50) (c % 50) = true ∧ lk_w K V k i = false then some (50 * k + i) else some c)) (nI (f + (k + 1))) := ihk
          have goal : (wpY_weak (fun r_36 => (r_36 = 0 → ∀ x5_67 : Int32, x5_67 = nI (f + k) + 1 → wY_definition_6 post (nI f) (nI n) (nI nm) g_place g_culprit g_listed g_units g_taken g_used g_depth g_waiting g_held g_fault g_steps g_result g_given g_gift g_has b_kind b_value b_size b_list b_library b_places b_memory b_wanted b_pc b_base b_locals b_waits b_got b_values (m + 1) (yl_e (50 * f) (some c)) x5_67) ∧ (¬ r_36 = 0 → wpY_weak (fun r_68 => (r_68 = 0 → ∀ x5_100 : Int32, x5_100 = nI (f + k) + 1 → wY_definition_6 post (nI f) (nI n) (nI nm) g_place g_culprit g_listed g_units g_taken g_used g_depth g_waiting g_held g_fault g_steps g_result g_given g_gift g_has b_kind b_value b_size b_list b_library b_places b_memory b_wanted b_pc b_base b_locals b_waits b_got b_values (m + 1) (yl_e (50 * (f + k)) (some i)) x5_100) ∧ (¬ r_68 = 0 → ∀ x5_99 : Int32, x5_99 = nI (f + k) + 1 → wY_definition_6 post (nI f) (nI n) (nI nm) g_place g_culprit g_listed g_units g_taken g_used g_depth g_waiting g_held g_fault g_steps g_result g_given g_gift g_has b_kind b_value b_size b_list b_library b_places b_memory b_wanted b_pc b_base b_locals b_waits b_got b_values (m + 1) (yl_e (50 * f) (some c)) x5_99)) (g_place, g_culprit, g_listed, g_units, g_taken, g_used, g_depth, g_waiting, g_held, g_fault, g_steps, g_result, g_given, g_gift, g_has, b_kind, b_value, b_size, b_list, b_library, b_places, b_memory, b_wanted, b_pc, b_base, b_locals, b_waits, b_got, b_values) (yl_e (50 * (f + k)) (some i)))) (g_place, g_culprit, g_listed, g_units, g_taken, g_used, g_depth, g_waiting, g_held, g_fault, g_steps, g_result, g_given, g_gift, g_has, b_kind, b_value, b_size, b_list, b_library, b_places, b_memory, b_wanted, b_pc, b_base, b_locals, b_waits, b_got, b_values) (nI (50 * (f + c / 50) + c % 50))) := by
            refine yl_weak (k := c / 50) (by omega) (hR _ (by omega)) hc.2.1 hc.2.2.1 (fun w1 => br_f (by decide) ?_) (fun w1 => br_t rfl (nm_r (nI_1 _) ?_))
            · refine yl_weak (k := k) (by omega) hRk hi.1 hi.2.1.1 (fun w2 => br_f (by decide) (nm_r (nI_1 _) ?_)) (fun w2 => br_t rfl (nm_r (nI_1 _) ?_))
              · rw [if_neg (by rw [w2]; exact fun z => nomatch z.2)] at ihk'
                exact ihk'
              · rw [if_pos ⟨w1, w2⟩] at ihk'
                have : yl_e (50 * (f + k)) (some i) = yl_e (50 * f) (some (50 * k + i)) := congrArg nI (by omega)
                rw [this]
                exact ihk'
            · rw [if_neg (by rw [w1]; exact fun z => nomatch z.1)] at ihk'
              exact ihk'
          rw [← ea] at goal
          exact goal
  exact ⟨n + 1, key n 0 (by omega)⟩
theorem yl_wants {post : Int32 → Prop} {r k nm : Nat} (hr : r < 16) (hnm : nm < 16) (hR : yr_R b_kind b_value b_size r (K k) (V k) (L k)) (h1 : (∃ i, i < L k ∧ lk_Q K V k nm i) → post 1) (h0 : ¬ (∃ i, i < L k ∧ lk_Q K V k nm i) → post 0) : wpY_wants post (g_place, g_culprit, g_listed, g_units, g_taken, g_used, g_depth, g_waiting, g_held, g_fault, g_steps, g_result, g_given, g_gift, g_has, b_kind, b_value, b_size, b_list, b_library, b_places, b_memory, b_wanted, b_pc, b_base, b_locals, b_waits, b_got, b_values) (nI r) (nI nm) := by
  obtain ⟨hL, hs, hT⟩ := hR
  have e50 : (50 : Int32) * nI r = nI (50 * r) := by rw [show (50 : Int32) = nI 50 from rfl, pk_mul]
  have eb : (50 : Int32) * nI r + b_size (nI r).toNatClampNeg = nI (50 * r + L k) := by rw [nI_clamp (by omega), hs, e50, nI_add]
  have key : ∀ m t, t + m = L k → (∀ i, i < t → ¬ lk_Q K V k nm i) → wY_wants_5 post (nI r) (nI nm) g_place g_culprit g_listed g_units g_taken g_used g_depth g_waiting g_held g_fault g_steps g_result g_given g_gift g_has b_kind b_value b_size b_list b_library b_places b_memory b_wanted b_pc b_base b_locals b_waits b_got b_values (m + 1) (nI (50 * r + t)) := by
    intro m
    induction m with
    | zero =>
      intro t ht hn
      refine ⟨pk_in r 16 hr, br_t (by rw [eb]; exact nI_le (by omega) (by omega)) (h0 ?_)⟩
      rintro ⟨i, a, b⟩
      exact hn i (by omega) b
    | succ m ih =>
      intro t ht hn
      obtain ⟨a1, a2, a3⟩ := hT t (by omega)
      have h9 := a2.1
      have hin : vp_in (nI (50 * r + t)) 800 := pk_in (50 * r + t) 800 (by omega)
      have ec : (nI (50 * r + t)).toNatClampNeg = 50 * r + t := nI_clamp (by omega)
      refine ⟨pk_in r 16 hr, br_f (by rw [eb]; exact nI_ge (by omega) (by omega)) ⟨hin, ?_⟩⟩
      rw [ec, a1]
      have hnext : ¬ lk_Q K V k nm t → wY_wants_5 post (nI r) (nI nm) g_place g_culprit g_listed g_units g_taken g_used g_depth g_waiting g_held g_fault g_steps g_result g_given g_gift g_has b_kind b_value b_size b_list b_library b_places b_memory b_wanted b_pc b_base b_locals b_waits b_got b_values (m + 1) (nI (50 * r + t) + 1) := by
        intro hd
        rw [nI_1]
        exact ih (t + 1) (by omega) (fun i hi => by
          by_cases z : i = t
          · subst z; exact hd
          · exact hn i (by omega))
      refine pk_lt (K k t) 2 (fun z => nm_e (hnext (fun q => by have := q.1; omega))) (fun z => ⟨hin, pk_lt 5 (K k t) (fun z2 => nm_e (hnext (fun q => by have := q.1; omega))) (fun z2 => ⟨hin, pk_eq (K k t) 4 (fun z3 => nm_e (hnext (fun q => by have := q.1; omega))) (fun z3 => ⟨hin, ?_⟩)⟩)⟩)
      have hu : K k t = 2 ∨ K k t = 3 ∨ K k t = 5 := by omega
      rw [tw_U16 a2 hu, a3]
      exact pk_eq (V k t % 16) nm (fun e => h1 ⟨t, by omega, hu, e⟩) (fun e => nm_e (hnext (fun q => e q.2)))
  refine nm_r e50 ⟨L k + 1, ?_⟩
  exact key (L k) 0 (by omega) (fun i h => absurd h (by omega))
theorem yl_strong {post : Int32 → Prop} {n nm : Nat} (hn : n ≤ 5) (ht : g_taken = nI n) (hnm : nm < 16) (hR : ∀ k, k < n → yr_R b_kind b_value b_size (6 + k) (K k) (V k) (L k)) (hp : post (nI (lk_s K V L nm n))) : wpY_strong post (g_place, g_culprit, g_listed, g_units, g_taken, g_used, g_depth, g_waiting, g_held, g_fault, g_steps, g_result, g_given, g_gift, g_has, b_kind, b_value, b_size, b_list, b_library, b_places, b_memory, b_wanted, b_pc, b_base, b_locals, b_waits, b_got, b_values) (nI nm) := by
  have efn : (6 : Int32) + g_taken = nI (6 + n) := by rw [ht]; exact nI_add 6 n
  have key : ∀ m k, k + m = n → wY_strong_5 post (nI nm) g_place g_culprit g_listed g_units g_taken g_used g_depth g_waiting g_held g_fault g_steps g_result g_given g_gift g_has b_kind b_value b_size b_list b_library b_places b_memory b_wanted b_pc b_base b_locals b_waits b_got b_values (m + 1) (nI (lk_s K V L nm k)) (nI (6 + k)) := by
    intro m
    induction m with
    | zero =>
      intro k hk
      refine br_t (by rw [efn]; exact nI_le (by omega) (by omega)) ?_
      rw [show k = n by omega]; exact hp
    | succ m ih =>
      intro k hk
      have hRk := hR k (by omega)
      have ihk := ih (k + 1) (by omega)
      rw [show lk_s K V L nm (k + 1) = lk_S1 K V k (lk_s K V L nm k) (lk_f K V k nm (L k)) from rfl] at ihk
      refine br_f (by rw [efn]; exact nI_ge (by omega) (by omega)) (yl_in (by omega) hnm hRk ?_)
      cases e : lk_f K V k nm (L k) with
      | none =>
        rw [e] at ihk
        exact br_t yl_n (nm_r (nI_1 _) ihk)
      | some i =>
        have hi := lk_f_some e
        have hiL : i < 50 := by have := hRk.1; omega
        rw [e] at ihk
        have ihk' : wY_strong_5 post (nI nm) g_place g_culprit g_listed g_units g_taken g_used g_depth g_waiting g_held g_fault g_steps g_result g_given g_gift g_has b_kind b_value b_size b_list b_library b_places b_memory b_wanted b_pc b_base b_locals b_waits b_got b_values (m + 1) (nI (if lk_w K V k i = false then lk_s K V L nm k + 1 else lk_s K V L nm k)) (nI (6 + (k + 1))) := ihk
        refine br_f (nI_pos (by omega)) ?_
        refine yl_weak (k := k) (by omega) hRk hi.1 hi.2.1.1 (fun w => br_f (by decide) (nm_r (nI_1 _) ?_)) (fun w => br_t rfl (nm_r (nI_1 _) (nm_r (nI_1 _) ?_)))
        · rw [if_neg (by rw [w]; exact fun z => nomatch z)] at ihk'; exact ihk'
        · rw [if_pos w] at ihk'; exact ihk'
  exact ⟨n + 1, key n 0 (by omega)⟩
theorem yl_needed {post : Int32 → Prop} {C W : Nat → Nat → Nat} {M : Nat → Nat} {n u : Nat} (hn : n ≤ 5) (hu : u < 5) (ht : g_taken = nI n) (hU : yr_R b_kind b_value b_size u (C u) (W u) (M u)) (hR : ∀ k, k < n → yr_R b_kind b_value b_size (6 + k) (K k) (V k) (L k)) (h1 : lk_O C W M u K V L n → post 1) (h0 : ¬ lk_O C W M u K V L n → post 0) : wpY_needed post (g_place, g_culprit, g_listed, g_units, g_taken, g_used, g_depth, g_waiting, g_held, g_fault, g_steps, g_result, g_given, g_gift, g_has, b_kind, b_value, b_size, b_list, b_library, b_places, b_memory, b_wanted, b_pc, b_base, b_locals, b_waits, b_got, b_values) (nI u) := by
  have efn : (6 : Int32) + g_taken = nI (6 + n) := by rw [ht]; exact nI_add 6 n
  have key : ∀ m nm, nm + m = 12 → (∀ i, i < M u → (C u i = 28 ∨ C u i = 29) → W u i % 16 < nm → ¬ (lk_W K V L (W u i % 16) n ∧ lk_b K V L (W u i % 16) n = none)) → wY_needed_2 post (nI u) g_place g_culprit g_listed g_units g_taken g_used g_depth g_waiting g_held g_fault g_steps g_result g_given g_gift g_has b_kind b_value b_size b_list b_library b_places b_memory b_wanted b_pc b_base b_locals b_waits b_got b_values (m + 1) (nI nm) := by
    intro m
    induction m with
    | zero =>
      intro nm hm hno
      refine br_t (nI_le (a := 12) (by omega) (by omega)) (h0 ?_)
      rintro ⟨i, a, b, c, d⟩
      have := tw_V (hU.2.2 i a).2.1 b
      rw [(hU.2.2 i a).2.2] at this
      exact hno i a b (by omega) ⟨c, d⟩
    | succ m ih =>
      intro nm hm hno
      have hnext : (∀ i, i < M u → (C u i = 28 ∨ C u i = 29) → W u i % 16 = nm → ¬ (lk_W K V L nm n ∧ lk_b K V L nm n = none)) → wY_needed_2 post (nI u) g_place g_culprit g_listed g_units g_taken g_used g_depth g_waiting g_held g_fault g_steps g_result g_given g_gift g_has b_kind b_value b_size b_list b_library b_places b_memory b_wanted b_pc b_base b_locals b_waits b_got b_values (m + 1) (nI nm + 1) := by
        intro h
        rw [nI_1]
        exact ih (nm + 1) (by omega) (fun i a b c => by
          by_cases z : W u i % 16 = nm
          · rw [z]; exact h i a b z
          · exact hno i a b (by omega))
      refine br_f (nI_ge (b := 12) (by omega) (by omega)) (yl_in (k := u) (by omega) (by omega) hU ?_)
      cases e : lk_f C W u nm (M u) with
      | none => exact br_t yl_n (nm_e (hnext (fun i a b c => absurd ⟨b, c⟩ (lk_f_none.mp e i a))))
      | some i =>
        have hi := lk_f_some e
        have hiM : i < 50 := by have := hU.1; omega
        refine br_f (nI_pos (by omega)) ?_
        rw [ht]
        refine yl_def (f := 6) (by omega) (by omega) hR ?_
        cases e2 : lk_b K V L nm n with
        | some c =>
          have hc := lk_b_in (fun k hk => (hR k hk).1) e2
          refine br_f (nI_pos (by omega)) (nm_e ?_)
          rw [← ht]
          exact hnext (fun i a b c z => nomatch e2.symm.trans z.2)
        | none =>
          refine br_t (by decide) ⟨n + 1, ?_⟩
          rw [← ht]
          have inner : ∀ m2 k, k + m2 = n → (∀ k', k' < k → ¬ ∃ i, i < L k' ∧ lk_Q K V k' nm i) → wY_needed_37 post (wY_needed_2 post (nI u) g_place g_culprit g_listed g_units g_taken g_used g_depth g_waiting g_held g_fault g_steps g_result g_given g_gift g_has b_kind b_value b_size b_list b_library b_places b_memory b_wanted b_pc b_base b_locals b_waits b_got b_values (m + 1)) (nI u) (nI nm) g_place g_culprit g_listed g_units g_taken g_used g_depth g_waiting g_held g_fault g_steps g_result g_given g_gift g_has b_kind b_value b_size b_list b_library b_places b_memory b_wanted b_pc b_base b_locals b_waits b_got b_values (m2 + 1) (nI (6 + k)) := by
            intro m2
            induction m2 with
            | zero =>
              intro k hk hnk
              refine br_t (by rw [efn]; exact nI_le (by omega) (by omega)) (nm_e (hnext (fun i a b c z => ?_)))
              obtain ⟨k', x, y⟩ := z.1
              exact hnk k' (by omega) y
            | succ m2 ih2 =>
              intro k hk hnk
              refine br_f (by rw [efn]; exact nI_ge (by omega) (by omega)) (yl_wants (k := k) (by omega) (by omega) (hR k (by omega)) (fun hw => br_f (by decide) (h1 ?_)) (fun hw => br_t rfl (nm_r (nI_1 _) (ih2 (k + 1) (by omega) (fun k' hk' => ?_)))))
              · refine ⟨i, hi.1, hi.2.1.1, ?_, ?_⟩
                · rw [hi.2.1.2]; exact ⟨k, by omega, hw⟩
                · rw [hi.2.1.2]; exact e2
              · by_cases z : k' = k
                · subst z; exact hw
                · exact hnk k' (by omega)
          exact inner n 0 (by omega) (fun k h => absurd h (by omega))
  exact ⟨13, key 12 0 (by omega) (fun i _ _ h => absurd h (by omega))⟩
end
end
section
/-! linking on the reference's side -/
def lk_z (V : Nat → Nat → Nat) (c : Nat) : Nat := V (c / 50) (c % 50) / 16 % 8 + 1
def lk_o (K V : Nat → Nat → Nat) (L : Nat → Nat) (n : Nat) : Nat → Nat
  | 0 => 0
  | c + 1 => lk_o K V L n c + (if lk_dt K V L n c = true then lk_z V c else 0)
theorem lk_o_le {K V : Nat → Nat → Nat} {L : Nat → Nat} {n : Nat} : ∀ c, lk_o K V L n c ≤ 8 * c := by
  intro c
  induction c with
  | zero => exact Nat.le_refl _
  | succ c ih =>
    show lk_o K V L n c + _ ≤ _
    split
    · unfold lk_z; omega
    · omega
theorem lk_o_mono {K V : Nat → Nat → Nat} {L : Nat → Nat} {n a : Nat} : ∀ b, a ≤ b → lk_o K V L n a ≤ lk_o K V L n b := by
  intro b
  induction b with
  | zero => intro h; rw [show a = 0 by omega]; exact Nat.le_refl _
  | succ b ih =>
    intro h
    by_cases z : a = b + 1
    · rw [z]; exact Nat.le_refl _
    · have := ih (by omega)
      show _ ≤ lk_o K V L n b + _
      omega
theorem lk_o_at {K V : Nat → Nat → Nat} {L : Nat → Nat} {n c : Nat} (h : lk_dt K V L n c = true) : lk_o K V L n (c + 1) = lk_o K V L n c + lk_z V c := by
  show lk_o K V L n c + _ = _
  rw [if_pos h]
theorem lk_o_no {K V : Nat → Nat → Nat} {L : Nat → Nat} {n c : Nat} (h : lk_dt K V L n c = false) : lk_o K V L n (c + 1) = lk_o K V L n c := by
  show lk_o K V L n c + _ = _
  rw [if_neg (by rw [h]; exact fun z => nomatch z)]; rfl
/-- what link answers -/
def lk_Z (K V : Nat → Nat → Nat) (L : Nat → Nat) (n : Nat) (r cul : Int32) : Prop :=
  (∃ nm, nm < 12 ∧ 2 ≤ lk_s K V L nm n ∧ (∀ m, m < nm → lk_s K V L m n < 2) ∧ r = 3 ∧ cul = nI nm) ∨
  ((∀ m, m < 12 → lk_s K V L m n < 2) ∧ ((∃ nm, nm < 12 ∧ r ≠ 0 ∧ lk_R K V L nm n r ∧ (∀ m, m < nm → lk_R K V L m n 0) ∧ cul = nI nm) ∨
    ((∀ m, m < 12 → lk_R K V L m n 0) ∧ cul = -1 ∧ ((48 < lk_o K V L n (50 * n) ∧ r = 6) ∨ (lk_o K V L n (50 * n) ≤ 48 ∧ r = 0)))))
/-- the units taken, in their order -/
noncomputable def lk_T (C W : Nat → Nat → Nat) (M lst : Nat → Nat) (lib : Nat → Prop) : Nat → Nat × (Nat → Nat)
  | 0 => (0, fun _ => 0)
  | l + 1 => @ite _ (¬ lib l ∨ lk_O C W M (lst l) (fun k => C ((lk_T C W M lst lib l).2 k)) (fun k => W ((lk_T C W M lst lib l).2 k)) (fun k => M ((lk_T C W M lst lib l).2 k)) (lk_T C W M lst lib l).1) (Classical.propDecidable _) ((lk_T C W M lst lib l).1 + 1, fun k => if k = (lk_T C W M lst lib l).1 then lst l else (lk_T C W M lst lib l).2 k) (lk_T C W M lst lib l)
theorem lk_T_yes {C W : Nat → Nat → Nat} {M lst : Nat → Nat} {lib : Nat → Prop} {l : Nat} (h : ¬ lib l ∨ lk_O C W M (lst l) (fun k => C ((lk_T C W M lst lib l).2 k)) (fun k => W ((lk_T C W M lst lib l).2 k)) (fun k => M ((lk_T C W M lst lib l).2 k)) (lk_T C W M lst lib l).1) : lk_T C W M lst lib (l + 1) = ((lk_T C W M lst lib l).1 + 1, fun k => if k = (lk_T C W M lst lib l).1 then lst l else (lk_T C W M lst lib l).2 k) := @if_pos _ (Classical.propDecidable _) h _ _ _
theorem lk_T_no {C W : Nat → Nat → Nat} {M lst : Nat → Nat} {lib : Nat → Prop} {l : Nat} (h : ¬ (¬ lib l ∨ lk_O C W M (lst l) (fun k => C ((lk_T C W M lst lib l).2 k)) (fun k => W ((lk_T C W M lst lib l).2 k)) (fun k => M ((lk_T C W M lst lib l).2 k)) (lk_T C W M lst lib l).1)) : lk_T C W M lst lib (l + 1) = lk_T C W M lst lib l := @if_neg _ (Classical.propDecidable _) h _ _ _
theorem lk_T_in {C W : Nat → Nat → Nat} {M lst : Nat → Nat} {lib : Nat → Prop} : ∀ l, (∀ i, i < l → lst i < 5) → (lk_T C W M lst lib l).1 ≤ l ∧ ∀ k, k < (lk_T C W M lst lib l).1 → (lk_T C W M lst lib l).2 k < 5 := by
  intro l
  induction l with
  | zero => exact fun _ => ⟨Nat.le_refl _, fun k h => absurd h (Nat.not_lt_zero _)⟩
  | succ l ih =>
    intro h
    obtain ⟨a, b⟩ := ih (fun i hi => h i (by omega))
    unfold lk_T
    split
    · refine ⟨by show _ + 1 ≤ _; omega, fun k hk => ?_⟩
      show (if k = _ then lst l else _) < 5
      split
      · exact h l (by omega)
      · have : k < (lk_T C W M lst lib l).1 + 1 := hk
        exact b k (by omega)
    · exact ⟨by omega, b⟩
section
variable {g_place g_culprit g_listed g_units g_taken g_used g_depth g_waiting g_held g_fault g_steps g_result g_given g_gift g_has : Int32} {b_kind b_value b_size b_list b_library b_places b_memory b_wanted b_pc b_base b_locals b_waits b_got b_values : Nat → Int32}
variable {K V : Nat → Nat → Nat} {L : Nat → Nat}
theorem yl_settled {post : Int32 → Prop} {n nm : Nat} (hn : n ≤ 5) (ht : g_taken = nI n) (hnm : nm < 16) (hR : ∀ k, k < n → yr_R b_kind b_value b_size (6 + k) (K k) (V k) (L k)) (hp : ∀ r, lk_R K V L nm n r → post r) : wpY_settled post (g_place, g_culprit, g_listed, g_units, g_taken, g_used, g_depth, g_waiting, g_held, g_fault, g_steps, g_result, g_given, g_gift, g_has, b_kind, b_value, b_size, b_list, b_library, b_places, b_memory, b_wanted, b_pc, b_base, b_locals, b_waits, b_got, b_values) (nI nm) := by
  have eend : (300 : Int32) + 50 * g_taken = nI (300 + 50 * n) := by rw [ht, show (50 : Int32) = nI 50 from rfl, pk_mul]; exact nI_add 300 _
  have key : ∀ m c, c + m = 50 * n → (∀ k i, 50 * k + i < c → k < n → i < L k → lk_Q K V k nm i → ∃ d, lk_b K V L nm n = some d ∧ lk_su K V d k i) → wY_settled_16 post (nI nm) (yl_e 300 (lk_b K V L nm n)) g_place g_culprit g_listed g_units g_taken g_used g_depth g_waiting g_held g_fault g_steps g_result g_given g_gift g_has b_kind b_value b_size b_list b_library b_places b_memory b_wanted b_pc b_base b_locals b_waits b_got b_values (m + 1) (nI (300 + c)) := by
    intro m
    induction m with
    | zero =>
      intro c hc hok
      refine br_t (by rw [eend]; exact nI_le (by omega) (by omega)) (hp 0 (Or.inl ⟨rfl, fun k hk i hi hq => ?_⟩))
      have := (hR k hk).1
      exact hok k i (by omega) hk hi hq
    | succ m ih =>
      intro c hc hok
      have hk : c / 50 < n := by omega
      have hRk := hR (c / 50) hk
      have ec : (nI (300 + c)).toNatClampNeg = 300 + c := nI_clamp (by omega)
      have hin : vp_in (nI (300 + c)) 800 := pk_in (300 + c) 800 (by omega)
      have ed : nI (300 + c) / 50 = nI (6 + c / 50) := by
        rw [show (50 : Int32) = nI 50 from rfl, pk_div (by omega) (by omega) (by omega)]
        exact congrArg nI (by omega)
      have er : nI (300 + c) - nI (300 + c) / 50 * 50 = nI (c % 50) := by
        rw [show (50 : Int32) = nI 50 from rfl, pk_rem (by omega) (by omega) (by omega)]
        exact congrArg nI (by omega)
      have ecd : (nI (300 + c) / 50).toNatClampNeg = 6 + c / 50 := by rw [ed, nI_clamp (by omega)]
      have h50 := hRk.1
      have hnext : (c % 50 < L (c / 50) → lk_Q K V (c / 50) nm (c % 50) → ∃ d, lk_b K V L nm n = some d ∧ lk_su K V d (c / 50) (c % 50)) → wY_settled_16 post (nI nm) (yl_e 300 (lk_b K V L nm n)) g_place g_culprit g_listed g_units g_taken g_used g_depth g_waiting g_held g_fault g_steps g_result g_given g_gift g_has b_kind b_value b_size b_list b_library b_places b_memory b_wanted b_pc b_base b_locals b_waits b_got b_values (m + 1) (nI (300 + c) + 1) := by
        intro h
        rw [nI_1]
        refine ih (c + 1) (by omega) (fun k i a b d e => ?_)
        by_cases z : 50 * k + i = c
        · have := (hR k b).1
          have e1 : c / 50 = k := by omega
          have e2 : c % 50 = i := by omega
          rw [e1, e2] at h
          exact h d e
        · exact hok k i (by omega) b d e
      refine br_f (by rw [eend]; exact nI_ge (by omega) (by omega)) ⟨hin, nm_e ⟨by decide, by decide, pk_in (6 + c / 50) 16 (by omega) ed, ?_⟩⟩
      rw [ecd, er, hRk.2.1]
      refine pk_le (L (c / 50)) (c % 50) (fun z => nm_e (hnext (fun q => by omega))) (fun hj => ?_)
      obtain ⟨a1, a2, a3⟩ := hRk.2.2 _ hj
      rw [show 50 * (6 + c / 50) + c % 50 = 300 + c by omega] at a1 a2 a3
      have h9 := a2.1
      rw [ec, a1]
      refine pk_lt (K (c / 50) (c % 50)) 2 (fun z => nm_e (hnext (fun _ q => by have := q.1; omega))) (fun z => pk_lt 5 (K (c / 50) (c % 50)) (fun z2 => nm_e (hnext (fun _ q => by have := q.1; omega))) (fun z2 => pk_eq (K (c / 50) (c % 50)) 4 (fun z3 => nm_e (hnext (fun _ q => by have := q.1; omega))) (fun z3 => ⟨hin, ?_⟩)))
      have hu : K (c / 50) (c % 50) = 2 ∨ K (c / 50) (c % 50) = 3 ∨ K (c / 50) (c % 50) = 5 := by omega
      obtain ⟨u1, u2, u3⟩ := tw_U a2 hu
      rw [tw_U16 a2 hu, a3]
      rw [a3] at u1 u2 u3
      refine pk_eq (V (c / 50) (c % 50) % 16) nm (fun e => ?_) (fun e => nm_e (hnext (fun _ q => absurd q.2 e)))
      have hq : lk_Q K V (c / 50) nm (c % 50) := ⟨hu, e⟩
      cases eb : lk_b K V L nm n with
      | none =>
        exact br_f (by decide) (hp 4 (Or.inr (Or.inl ⟨rfl, ⟨c / 50, hk, c % 50, hj, hq⟩, eb⟩)))
      | some d =>
        rw [eb] at hnext
        have hd := lk_b_in (fun k hk => (hR k hk).1) eb
        obtain ⟨b1, b2, b3⟩ := (hR _ hd.1).2.2 _ hd.2.1
        have h50d := (hR _ hd.1).1
        rw [show 50 * (6 + d / 50) + d % 50 = 300 + d by omega] at b1 b2 b3
        obtain ⟨v1, v2, v3⟩ := tw_V b2 hd.2.2.1
        rw [b3] at v1 v2 v3
        have ecd2 : (yl_e 300 (some d)).toNatClampNeg = 300 + d := nI_clamp (by omega)
        have hind : vp_in (yl_e 300 (some d)) 800 := pk_in (300 + d) 800 (by omega)
        have hbad : ¬ lk_su K V d (c / 50) (c % 50) → post 5 := fun h => hp 5 (Or.inr (Or.inr ⟨rfl, d, eb, c / 50, hk, c % 50, hj, hq, h⟩))
        refine br_t (nI_pos' (by omega)) (pk_eq (K (c / 50) (c % 50)) 5 (fun e5 => ⟨hind, ?_⟩) (fun e5 => ⟨hind, ?_⟩))
        · have esu : lk_su K V d (c / 50) (c % 50) = (K (d / 50) (d % 50) = 28 ∧ V (d / 50) (d % 50) / 16 % 4 = V (c / 50) (c % 50) / 16) := if_pos e5
          rw [esu] at hbad
          have h9d := b2.1
          rw [ecd2, b1]
          refine pk_eq (K (d / 50) (d % 50)) 28 (fun e28 => ⟨hind, hin, ?_⟩) (fun e28 => hbad (fun z => e28 z.1))
          rw [v1, ba_cnt (by omega), u1, ba_shr4 (by omega)]
          exact pk_eq (V (d / 50) (d % 50) / 16 % 4) (V (c / 50) (c % 50) / 16) (fun e => nm_e (hnext (fun _ _ => ⟨d, rfl, by rw [esu]; exact ⟨e28, e⟩⟩))) (fun e => hbad (fun z => e z.2))
        · have esu : lk_su K V d (c / 50) (c % 50) = (K (d / 50) (d % 50) = 29) := if_neg e5
          rw [esu] at hbad
          have h9d := b2.1
          rw [ecd2, b1]
          exact pk_eq (K (d / 50) (d % 50)) 29 (fun e => nm_e (hnext (fun _ _ => ⟨d, rfl, by rw [esu]; exact e⟩))) (fun e => hbad e)
  unfold wpY_settled
  have := @yl_def g_place g_culprit g_listed g_units g_taken g_used g_depth g_waiting g_held g_fault g_steps g_result g_given g_gift g_has b_kind b_value b_size b_list b_library b_places b_memory b_wanted b_pc b_base b_locals b_waits b_got b_values K V L (fun r_1 => ∃ n16 : Nat, wY_settled_16 post (nI nm) r_1 g_place g_culprit g_listed g_units g_taken g_used g_depth g_waiting g_held g_fault g_steps g_result g_given g_gift g_has b_kind b_value b_size b_list b_library b_places b_memory b_wanted b_pc b_base b_locals b_waits b_got b_values n16 300) 6 n nm (by omega) hnm hR ⟨50 * n + 1, key (50 * n) 0 (by omega) (fun k i h => absurd h (by omega))⟩
  rw [← ht] at this
  exact this
theorem yl_data {post : Int32 → Prop} {n c : Nat} (hn : n ≤ 5) (ht : g_taken = nI n) (hR : ∀ k, k < n → yr_R b_kind b_value b_size (6 + k) (K k) (V k) (L k)) (hc : c < 50 * n) (h1 : lk_dt K V L n c = true → post 1) (h0 : lk_dt K V L n c = false → post 0) : wpY_data post (g_place, g_culprit, g_listed, g_units, g_taken, g_used, g_depth, g_waiting, g_held, g_fault, g_steps, g_result, g_given, g_gift, g_has, b_kind, b_value, b_size, b_list, b_library, b_places, b_memory, b_wanted, b_pc, b_base, b_locals, b_waits, b_got, b_values) (nI (300 + c)) := by
  have hk : c / 50 < n := by omega
  have hRk := hR (c / 50) hk
  have ec : (nI (300 + c)).toNatClampNeg = 300 + c := nI_clamp (by omega)
  have hin : vp_in (nI (300 + c)) 800 := pk_in (300 + c) 800 (by omega)
  have ed : nI (300 + c) / 50 = nI (6 + c / 50) := by
    rw [show (50 : Int32) = nI 50 from rfl, pk_div (by omega) (by omega) (by omega)]
    exact congrArg nI (by omega)
  have er : nI (300 + c) - nI (300 + c) / 50 * 50 = nI (c % 50) := by
    rw [show (50 : Int32) = nI 50 from rfl, pk_rem (by omega) (by omega) (by omega)]
    exact congrArg nI (by omega)
  have ecd : (nI (300 + c) / 50).toNatClampNeg = 6 + c / 50 := by rw [ed, nI_clamp (by omega)]
  have h50 := hRk.1
  have hno : ¬ (c % 50 < L (c / 50) ∧ K (c / 50) (c % 50) = 29 ∧ lk_b K V L (V (c / 50) (c % 50) % 16) n = some c) → post 0 := fun h => h0 (decide_eq_false h)
  refine ⟨by decide, by decide, pk_in (6 + c / 50) 16 (by omega) ed, ?_⟩
  rw [ecd, er, hRk.2.1]
  refine pk_le (L (c / 50)) (c % 50) (fun z => hno (fun q => by have := q.1; omega)) (fun hj => ⟨hin, ?_⟩)
  obtain ⟨a1, a2, a3⟩ := hRk.2.2 _ hj
  rw [show 50 * (6 + c / 50) + c % 50 = 300 + c by omega] at a1 a2 a3
  have h9 := a2.1
  rw [ec, a1]
  refine pk_eq (K (c / 50) (c % 50)) 29 (fun e29 => ⟨hin, ?_⟩) (fun e29 => hno (fun q => e29 q.2.1))
  obtain ⟨v1, v2, v3⟩ := tw_V a2 (Or.inr e29)
  rw [tw_V16 a2 (Or.inr e29), a3, ht]
  rw [a3] at v1 v2 v3
  refine yl_def (f := 6) (by omega) (by omega) hR ?_
  refine br_c (fun z => h1 (decide_eq_true ⟨hj, e29, ?_⟩)) (fun z => hno (fun q => z ?_))
  · cases eb : lk_b K V L (V (c / 50) (c % 50) % 16) n with
    | none => rw [eb] at z; exact absurd z.symm (ba_m1 (by omega))
    | some d =>
      rw [eb] at z
      have hd := lk_b_in (fun k hk => (hR k hk).1) eb
      have := ba_inj (by omega) (by omega) z
      exact congrArg some (by omega)
  · rw [q.2.2]; rfl
end
end
section
/-! laying out, and link as a whole, on the reference's side -/
def lk_p (K V : Nat → Nat → Nat) (L : Nat → Nat) (n c nm : Nat) : Int32 := match lk_b K V L nm n with
  | none => -1
  | some d => if K (d / 50) (d % 50) = 29 ∧ d < c then nI (lk_o K V L n d) else -1
theorem lk_p_no {K V : Nat → Nat → Nat} {L : Nat → Nat} {n c nm : Nat} (hL : ∀ k, k < n → L k ≤ 50) (h : lk_dt K V L n c = false) : lk_p K V L n (c + 1) nm = lk_p K V L n c nm := by
  unfold lk_p
  cases e : lk_b K V L nm n with
  | none => rfl
  | some d =>
    have hd := lk_b_in hL e
    show (if _ then _ else _) = (if _ then _ else _)
    by_cases z : K (d / 50) (d % 50) = 29 ∧ d < c
    · rw [if_pos z, if_pos ⟨z.1, by omega⟩]
    · rw [if_neg z]
      refine if_neg (fun q => ?_)
      have e2 : d = c := by omega
      subst e2
      have := of_decide_eq_false h
      refine this ⟨hd.2.1, q.1, ?_⟩
      rw [hd.2.2.2]; exact e
theorem lk_p_yes {K V : Nat → Nat → Nat} {L : Nat → Nat} {n c nm : Nat} (hL : ∀ k, k < n → L k ≤ 50) (h : lk_dt K V L n c = true) : lk_p K V L n (c + 1) nm = if nm = V (c / 50) (c % 50) % 16 then nI (lk_o K V L n c) else lk_p K V L n c nm := by
  have hc := of_decide_eq_true h
  by_cases z : nm = V (c / 50) (c % 50) % 16
  · rw [if_pos z]
    unfold lk_p
    rw [z, hc.2.2]
    exact if_pos ⟨hc.2.1, by omega⟩
  · rw [if_neg z]
    unfold lk_p
    cases e : lk_b K V L nm n with
    | none => rfl
    | some d =>
      have hd := lk_b_in hL e
      show (if _ then _ else _) = (if _ then _ else _)
      have : d ≠ c := fun q => by subst q; exact z hd.2.2.2.symm
      by_cases y : K (d / 50) (d % 50) = 29 ∧ d < c
      · rw [if_pos y, if_pos ⟨y.1, by omega⟩]
      · rw [if_neg y, if_neg (fun q => y ⟨q.1, by omega⟩)]
theorem lk_p_0 {K V : Nat → Nat → Nat} {L : Nat → Nat} {n nm : Nat} : lk_p K V L n 0 nm = -1 := by
  unfold lk_p
  split
  · rfl
  · exact if_neg (fun q => absurd q.2 (Nat.not_lt_zero _))
def lk_m (K V : Nat → Nat → Nat) (L : Nat → Nat) (n : Nat) (val : Nat → Int32) (c : Nat) (mem : Nat → Int32) : Prop := ∀ d, d < c → lk_dt K V L n d = true → ∀ s, s < lk_z V d → mem (lk_o K V L n d + s) = val d
theorem lk_m_no {K V : Nat → Nat → Nat} {L : Nat → Nat} {n c : Nat} {val mem : Nat → Int32} (h : lk_dt K V L n c = false) (hm : lk_m K V L n val c mem) : lk_m K V L n val (c + 1) mem := by
  intro d a b s e
  by_cases z : d = c
  · subst z; rw [h] at b; exact nomatch b
  · exact hm d (by omega) b s e
theorem lk_m_yes {K V : Nat → Nat → Nat} {L : Nat → Nat} {n c : Nat} {val mem mem' : Nat → Int32} (hm : lk_m K V L n val c mem) (h1 : ∀ j, j < lk_o K V L n c → mem' j = mem j) (h2 : ∀ s, s < lk_z V c → mem' (lk_o K V L n c + s) = val c) : lk_m K V L n val (c + 1) mem' := by
  intro d a b s e
  by_cases z : d = c
  · subst z; exact h2 s e
  · have h3 := lk_o_at b
    have h4 := @lk_o_mono K V L n (d + 1) c (by omega)
    rw [h1 _ (by omega)]
    exact hm d (by omega) b s e
/-- two memories laid out alike agree below the size -/
theorem lk_m_eq {K V : Nat → Nat → Nat} {L : Nat → Nat} {n : Nat} {val val' a b : Nat → Int32} : ∀ c, lk_m K V L n val c a → lk_m K V L n val' c b → (∀ d, d < c → lk_dt K V L n d = true → val d = val' d) → ∀ j, j < lk_o K V L n c → a j = b j := by
  intro c
  induction c with
  | zero => exact fun _ _ _ j h => absurd h (Nat.not_lt_zero _)
  | succ c ih =>
    intro ha hb hv j hj
    have ih' := ih (fun d x => ha d (by omega)) (fun d x => hb d (by omega)) (fun d x => hv d (by omega))
    cases e : lk_dt K V L n c with
    | false => rw [lk_o_no e] at hj; exact ih' j hj
    | true =>
      rw [lk_o_at e] at hj
      by_cases z : j < lk_o K V L n c
      · exact ih' j z
      · have h1 := ha c (by omega) e (j - lk_o K V L n c) (by omega)
        have h2 := hb c (by omega) e (j - lk_o K V L n c) (by omega)
        rw [show lk_o K V L n c + (j - lk_o K V L n c) = j by omega] at h1 h2
        rw [h1, h2]
        exact hv c (by omega) e
def yk_R (yk ys : Nat → Int32) : Prop := (∀ j, j < 800 → ∃ c, c ≤ 29 ∧ yk j = nI c) ∧ (∀ r, r < 16 → ∃ c, c ≤ 50 ∧ ys r = nI c)
/-- rows 11 and on hold rows 6 and on -/
def yl_C (yk yv ys kd vl sz : Nat → Int32) (n : Nat) : Prop := (∀ j, j < 550 → kd j = yk j ∧ vl j = yv j) ∧ (∀ r, r < 11 → sz r = ys r) ∧ (∀ k, k < n → sz (11 + k) = ys (6 + k) ∧ ∀ i, i < 50 → kd (550 + 50 * k + i) = yk (300 + 50 * k + i) ∧ vl (550 + 50 * k + i) = yv (300 + 50 * k + i)) ∧ yk_R kd sz
/-- rows 6 and on hold the units taken -/
def yl_G (yk yv ys kd vl sz : Nat → Int32) (n : Nat) (tk : Nat → Nat) : Prop := (∀ j, j < 300 → kd j = yk j ∧ vl j = yv j) ∧ (∀ r, r < 6 → sz r = ys r) ∧ (∀ k, k < n → sz (6 + k) = ys (tk k) ∧ ∀ i, i < 50 → kd (300 + 50 * k + i) = yk (50 * tk k + i) ∧ vl (300 + 50 * k + i) = yv (50 * tk k + i)) ∧ (∀ j, 550 ≤ j → kd j = yk j ∧ vl j = yv j) ∧ (∀ r, 11 ≤ r → sz r = ys r) ∧ yk_R kd sz
theorem yk_copy {yk ys : Nat → Int32} {f t c : Nat} (h : yk_R yk ys) (hf : f < 16) (ht : t < 16) (hc : c ≤ 50) : yk_R (kd_w yk (fun i => yk (50 * f + i)) t 50) (upd ys t (nI c)) := by
  constructor
  · intro j hj
    unfold kd_w
    split
    · exact h.1 _ (by omega)
    · exact h.1 j hj
  · intro r hr
    by_cases z : r = t
    · rw [z, pk_us]; exact ⟨c, hc, rfl⟩
    · rw [pk_un z]; exact h.2 r hr
section
variable {g_place g_culprit g_listed g_units g_taken g_used g_depth g_waiting g_held g_fault g_steps g_result g_given g_gift g_has : Int32} {b_kind b_value b_size b_list b_library b_places b_memory b_wanted b_pc b_base b_locals b_waits b_got b_values : Nat → Int32}
variable {K V : Nat → Nat → Nat} {L : Nat → Nat}
theorem yl_158 {post : SY → Prop} {n : Nat} (hn : n ≤ 5) (hp : ∀ kd vl sz, yl_C b_kind b_value b_size kd vl sz n → post (g_place, g_culprit, g_listed, nI n, g_taken, g_used, g_depth, g_waiting, g_held, g_fault, g_steps, g_result, g_given, g_gift, g_has, kd, vl, sz, b_list, b_library, b_places, b_memory, b_wanted, b_pc, b_base, b_locals, b_waits, b_got, b_values)) : ∀ m k kd vl sz, k + m = n → yl_C b_kind b_value b_size kd vl sz k → wY_lay_158 post (m + 1) (nI k) g_place g_culprit g_listed (nI n) g_taken g_used g_depth g_waiting g_held g_fault g_steps g_result g_given g_gift g_has kd vl sz b_list b_library b_places b_memory b_wanted b_pc b_base b_locals b_waits b_got b_values := by
  intro m
  induction m with
  | zero =>
    intro k kd vl sz hk hC
    refine br_t (nI_le (by omega) (by omega)) (hp kd vl sz ?_)
    rw [show n = k by omega]; exact hC
  | succ m ih =>
    intro k kd vl sz hk hC
    obtain ⟨c1, c2, c3, c4⟩ := hC
    refine br_f (nI_ge (by omega) (by omega)) ?_
    rw [show (6 : Int32) + nI k = nI (6 + k) from nI_add 6 k, show (11 : Int32) + nI k = nI (11 + k) from nI_add 11 k]
    obtain ⟨c, hc, hs⟩ := c4.2 (6 + k) (by omega)
    refine yu_copy (c := c) (by omega) (by omega) (by omega) (fun i hi => c4.1 _ (by omega)) hs hc ?_
    refine nm_r (nI_1 k) (ih (k + 1) _ _ _ (by omega) ⟨?_, ?_, ?_, yk_copy c4 (by omega) (by omega) hc⟩)
    · intro j hj
      rw [kd_out (by omega), kd_out (by omega)]
      exact c1 j hj
    · intro r hr
      rw [pk_un (by omega)]
      exact c2 r hr
    · intro k' hk'
      by_cases z : k' = k
      · subst z
        refine ⟨by rw [pk_us, ← hs]; exact c2 _ (by omega), fun i hi => ?_⟩
        rw [show 550 + 50 * k' + i = 50 * (11 + k') + i by omega, kd_in hi, kd_in hi, show 50 * (6 + k') + i = 300 + 50 * k' + i by omega]
        exact c1 _ (by omega)
      · refine ⟨by rw [pk_un (by omega)]; exact (c3 k' (by omega)).1, fun i hi => ?_⟩
        rw [kd_out (by omega), kd_out (by omega)]
        exact (c3 k' (by omega)).2 i hi
theorem yl_108 {post : SY → Prop} {J : Int32 → Int32 → (Nat → Int32) → (Nat → Int32) → (Nat → Int32) → (Nat → Int32) → (Nat → Int32) → (Nat → Int32) → (Nat → Int32) → (Nat → Int32) → (Nat → Int32) → (Nat → Int32) → (Nat → Int32) → (Nat → Int32) → (Nat → Int32) → (Nat → Int32) → Prop} {a o z : Nat} (ha : a < 799) (ho : o + z ≤ 48)
    (hJ : ∀ mem, (∀ j, j < o → mem j = b_memory j) → (∀ s, s < z → mem (o + s) = b_value (a + 1)) → J (nI (a + 1)) (nI (o + z)) b_kind b_value b_size b_list b_library b_places mem b_wanted b_pc b_base b_locals b_waits b_got b_values) :
    ∀ m w mem, w + m = z → (∀ j, j < o → mem j = b_memory j) → (∀ s, s < w → mem (o + s) = b_value (a + 1)) → wY_lay_108 post J (nI a) g_place g_culprit g_listed g_units g_taken g_depth g_waiting g_held g_fault g_steps g_result g_given g_gift g_has (m + 1) (nI m + (-1)) (nI (o + w)) b_kind b_value b_size b_list b_library b_places mem b_wanted b_pc b_base b_locals b_waits b_got b_values := by
  intro m
  induction m with
  | zero =>
    intro w mem hw h1 h2
    have e : w = z := by omega
    subst e
    exact br_t (by decide) (nm_r (nI_1 _) (hJ mem h1 h2))
  | succ m ih =>
    intro w mem hw h1 h2
    have e1 : nI a + 1 = nI (a + 1) := nI_1 a
    rw [pk_m1]
    refine br_f (nI_pos (by omega)) (nm_r (nI_1 _) ⟨pk_in (a + 1) 800 (by omega) e1, pk_in (o + w) 48 (by omega), nm_r (e' := upd mem (o + w) (b_value (a + 1))) (by rw [nI_clamp (by omega), e1, nI_clamp (by omega)]) (nm_e ?_)⟩)
    refine ih (w + 1) _ (by omega) (fun j hj => by rw [pk_un (by omega)]; exact h1 j hj) (fun s hs => ?_)
    by_cases z : s = w
    · rw [z, pk_us]
    · rw [pk_un (by omega)]; exact h2 s (by omega)
theorem yl_51 {post : SY → Prop} {n : Nat} (hn : n ≤ 5) (ht : g_taken = nI n) (hR : ∀ k, k < n → yr_R b_kind b_value b_size (6 + k) (K k) (V k) (L k)) (hyk : yk_R b_kind b_size) (hw : lk_o K V L n (50 * n) ≤ 48)
    (hp : ∀ kd vl sz pl mem, yl_C b_kind b_value b_size kd vl sz n → (∀ nm, nm < 12 → pl nm = lk_p K V L n (50 * n) nm) → lk_m K V L n (fun d => b_value (301 + d)) (50 * n) mem → post (g_place, g_culprit, g_listed, nI n, g_taken, nI (lk_o K V L n (50 * n)), g_depth, g_waiting, g_held, g_fault, g_steps, g_result, g_given, g_gift, g_has, kd, vl, sz, b_list, b_library, pl, mem, b_wanted, b_pc, b_base, b_locals, b_waits, b_got, b_values)) :
    ∀ m c pl mem, c + m = 50 * n → (∀ nm, nm < 12 → pl nm = lk_p K V L n c nm) → lk_m K V L n (fun d => b_value (301 + d)) c mem → wY_lay_51 post g_place g_culprit g_listed g_units g_taken g_depth g_waiting g_held g_fault g_steps g_result g_given g_gift g_has (m + 1) (nI (300 + c)) (nI (lk_o K V L n c)) b_kind b_value b_size b_list b_library pl mem b_wanted b_pc b_base b_locals b_waits b_got b_values := by
  have eend : (300 : Int32) + 50 * g_taken = nI (300 + 50 * n) := by rw [ht, show (50 : Int32) = nI 50 from rfl, pk_mul]; exact nI_add 300 _
  have hL : ∀ k, k < n → L k ≤ 50 := fun k hk => (hR k hk).1
  intro m
  induction m with
  | zero =>
    intro c pl mem hc h1 h2
    have e : c = 50 * n := by omega
    subst e
    refine br_t (by rw [eend]; exact nI_le (by omega) (by omega)) ⟨n + 1, ?_⟩
    rw [ht]
    exact yl_158 (post := post) hn (fun kd vl sz hC => by have := hp kd vl sz pl mem hC h1 h2; rw [ht] at this; exact this) n 0 b_kind b_value b_size (by omega) ⟨fun j _ => ⟨rfl, rfl⟩, fun r _ => rfl, fun k h => absurd h (by omega), hyk⟩
  | succ m ih =>
    intro c pl mem hc h1 h2
    have ec : (nI (300 + c)).toNatClampNeg = 300 + c := nI_clamp (by omega)
    have hin : vp_in (nI (300 + c)) 800 := pk_in (300 + c) 800 (by omega)
    refine br_f (by rw [eend]; exact nI_ge (by omega) (by omega)) (yl_data hn ht hR (by omega) (fun hd => br_f (by decide) ⟨hin, ?_⟩) (fun hd => br_t rfl (nm_r (nI_1 _) ?_)))
    · have hdt := of_decide_eq_true hd
      have hk : c / 50 < n := by omega
      obtain ⟨a1, a2, a3⟩ := (hR _ hk).2.2 _ hdt.1
      have h50 := hL _ hk
      rw [show 50 * (6 + c / 50) + c % 50 = 300 + c by omega] at a1 a2 a3
      obtain ⟨v1, v2, v3⟩ := tw_V a2 (Or.inr hdt.2.1)
      have e15 := tw_V16 a2 (Or.inr hdt.2.1)
      rw [a3] at v1 v2 v3 e15
      have hmono := @lk_o_mono K V L n (c + 1) (50 * n) (by omega)
      have hat := lk_o_at hd
      rw [ec, e15]
      refine ⟨pk_in _ 12 v3, nm_r (e' := upd pl (V (c / 50) (c % 50) % 16) (nI (lk_o K V L n c))) (by rw [nI_clamp (by omega), ba_nbb (by omega)]) ⟨hin, nm_r (e' := nI (lk_z V c) + (-1)) (by rw [v1, ba_sz (by omega)]; exact (pk_m1 _).symm) ⟨lk_z V c + 1, ?_⟩⟩⟩
      refine yl_108 (z := lk_z V c) (by omega) (by omega) (fun mem' m1 m2 => ?_) (lk_z V c) 0 mem (by omega) (fun j _ => rfl) (fun s h => absurd h (by omega))
      have := ih (c + 1) (upd pl (V (c / 50) (c % 50) % 16) (nI (lk_o K V L n c))) mem' (by omega) (fun nm hnm => ?_) (lk_m_yes h2 m1 (fun s hs => by rw [m2 s hs, show 300 + c + 1 = 301 + c by omega]))
      · rw [hat] at this
        exact this
      · rw [lk_p_yes hL hd]
        by_cases z : nm = V (c / 50) (c % 50) % 16
        · rw [if_pos z, z, pk_us]
        · rw [if_neg z, pk_un z]; exact h1 nm hnm
    · have := ih (c + 1) pl mem (by omega) (fun nm hnm => by rw [lk_p_no hL hd]; exact h1 nm hnm) (lk_m_no hd h2)
      rw [lk_o_no hd] at this
      exact this
theorem yl_lay {post : SY → Prop} {n : Nat} (hn : n ≤ 5) (ht : g_taken = nI n) (hR : ∀ k, k < n → yr_R b_kind b_value b_size (6 + k) (K k) (V k) (L k)) (hyk : yk_R b_kind b_size) (hw : lk_o K V L n (50 * n) ≤ 48)
    (hp : ∀ kd vl sz pl mem, yl_C b_kind b_value b_size kd vl sz n → (∀ nm, nm < 12 → pl nm = lk_p K V L n (50 * n) nm) → lk_m K V L n (fun d => b_value (301 + d)) (50 * n) mem → post (g_place, g_culprit, g_listed, nI n, g_taken, nI (lk_o K V L n (50 * n)), g_depth, g_waiting, g_held, g_fault, g_steps, g_result, g_given, g_gift, g_has, kd, vl, sz, b_list, b_library, pl, mem, b_wanted, b_pc, b_base, b_locals, b_waits, b_got, b_values)) : wpY_lay post (g_place, g_culprit, g_listed, g_units, g_taken, g_used, g_depth, g_waiting, g_held, g_fault, g_steps, g_result, g_given, g_gift, g_has, b_kind, b_value, b_size, b_list, b_library, b_places, b_memory, b_wanted, b_pc, b_base, b_locals, b_waits, b_got, b_values) := by
  have h28 : ∀ pl, (∀ nm, nm < 12 → pl nm = -1) → ∀ m k mem, k + m = 48 → wY_lay_28 post g_place g_culprit g_listed g_units g_taken 0 g_depth g_waiting g_held g_fault g_steps g_result g_given g_gift g_has (m + 1) (nI k) b_kind b_value b_size b_list b_library pl mem b_wanted b_pc b_base b_locals b_waits b_got b_values := by
    intro pl hpl m
    induction m with
    | zero =>
      intro k mem hk
      refine br_t (nI_le (a := 48) (by omega) (by omega)) ⟨50 * n + 1, ?_⟩
      exact yl_51 hn ht hR hyk hw hp (50 * n) 0 pl mem (by omega) (fun nm h => by rw [lk_p_0]; exact hpl nm h) (fun d h => absurd h (by omega))
    | succ m ih =>
      intro k mem hk
      exact br_f (nI_ge (b := 48) (by omega) (by omega)) ⟨pk_in k 48 (by omega), nm_e (nm_r (nI_1 k) (ih (k + 1) _ (by omega)))⟩
  have h7 : ∀ m k pl, k + m = 12 → (∀ nm, nm < k → pl nm = -1) → wY_lay_7 post g_place g_culprit g_listed g_units g_taken 0 g_depth g_waiting g_held g_fault g_steps g_result g_given g_gift g_has (m + 1) (nI k) b_kind b_value b_size b_list b_library pl b_memory b_wanted b_pc b_base b_locals b_waits b_got b_values := by
    intro m
    induction m with
    | zero =>
      intro k pl hk h
      exact br_t (nI_le (a := 12) (by omega) (by omega)) ⟨49, h28 pl (fun nm hnm => h nm (by omega)) 48 0 b_memory (by omega)⟩
    | succ m ih =>
      intro k pl hk h
      refine br_f (nI_ge (b := 12) (by omega) (by omega)) ⟨pk_in k 12 (by omega), nm_r (e' := upd pl k (-1)) (by rw [nI_clamp (by omega), ba_bm1]) (nm_r (nI_1 k) (ih (k + 1) _ (by omega) (fun nm hnm => ?_)))⟩
      by_cases z : nm = k
      · rw [z, pk_us]
      · rw [pk_un z]; exact h nm (by omega)
  exact ⟨13, h7 12 0 b_places (by omega) (fun nm h => absurd h (by omega))⟩
end
end
section
/-! link as a whole, on the reference's side -/
section
variable {g_place g_culprit g_listed g_units g_taken g_used g_depth g_waiting g_held g_fault g_steps g_result g_given g_gift g_has : Int32} {b_kind b_value b_size b_list b_library b_places b_memory b_wanted b_pc b_base b_locals b_waits b_got b_values : Nat → Int32}
variable {K V : Nat → Nat → Nat} {L : Nat → Nat}
theorem yl_156 {post : Int32 → SY → Prop} {n : Nat} {r : Int32} (hn : n ≤ 5) (ht : g_taken = nI n) (hR : ∀ k, k < n → yr_R b_kind b_value b_size (6 + k) (K k) (V k) (L k)) (hyk : yk_R b_kind b_size)
    (h6 : 48 < lk_o K V L n (50 * n) → post 6 (g_place, g_culprit, g_listed, g_units, g_taken, g_used, g_depth, g_waiting, g_held, g_fault, g_steps, g_result, g_given, g_gift, g_has, b_kind, b_value, b_size, b_list, b_library, b_places, b_memory, b_wanted, b_pc, b_base, b_locals, b_waits, b_got, b_values))
    (hp : lk_o K V L n (50 * n) ≤ 48 → ∀ kd vl sz pl mem, yl_C b_kind b_value b_size kd vl sz n → (∀ nm, nm < 12 → pl nm = lk_p K V L n (50 * n) nm) → lk_m K V L n (fun d => b_value (301 + d)) (50 * n) mem → post 0 (g_place, g_culprit, g_listed, nI n, g_taken, nI (lk_o K V L n (50 * n)), g_depth, g_waiting, g_held, g_fault, g_steps, g_result, g_given, g_gift, g_has, kd, vl, sz, b_list, b_library, pl, mem, b_wanted, b_pc, b_base, b_locals, b_waits, b_got, b_values)) :
    ∀ m c, c + m = 50 * n → wY_link_156 post g_place g_culprit g_listed g_units g_taken g_used g_depth g_waiting g_held g_fault g_steps g_result g_given g_gift g_has b_kind b_value b_size b_list b_library b_places b_memory b_wanted b_pc b_base b_locals b_waits b_got b_values (m + 1) (nI (lk_o K V L n c)) (nI (300 + c)) := by
  have eend : (300 : Int32) + 50 * g_taken = nI (300 + 50 * n) := by rw [ht, show (50 : Int32) = nI 50 from rfl, pk_mul]; exact nI_add 300 _
  intro m
  induction m with
  | zero =>
    intro c hc
    have e : c = 50 * n := by omega
    subst e
    have hle := @lk_o_le K V L n (50 * n)
    refine br_t (by rw [eend]; exact nI_le (by omega) (by omega)) (pk_le (lk_o K V L n (50 * n)) 48 (fun h => ?_) (fun h => h6 h))
    exact yl_lay hn ht hR hyk h (hp h)
  | succ m ih =>
    intro c hc
    have ec : (nI (300 + c)).toNatClampNeg = 300 + c := nI_clamp (by omega)
    have hin : vp_in (nI (300 + c)) 800 := pk_in (300 + c) 800 (by omega)
    refine br_f (by rw [eend]; exact nI_ge (by omega) (by omega)) (yl_data hn ht hR (by omega) (fun hd => br_f (by decide) ⟨hin, ?_⟩) (fun hd => br_t rfl (nm_r (e' := nI (lk_o K V L n (c + 1))) (by rw [lk_o_no hd]; exact Int32.add_zero _) (nm_r (nI_1 _) (ih (c + 1) (by omega))))))
    have hdt := of_decide_eq_true hd
    have hk : c / 50 < n := by omega
    obtain ⟨a1, a2, a3⟩ := (hR _ hk).2.2 _ hdt.1
    rw [show 50 * (6 + c / 50) + c % 50 = 300 + c by omega] at a1 a2 a3
    obtain ⟨v1, v2, v3⟩ := tw_V a2 (Or.inr hdt.2.1)
    rw [a3] at v1 v2 v3
    refine nm_r (e' := nI (lk_o K V L n (c + 1))) (by rw [ec, v1, ba_sz (by omega), nI_1, nI_add, lk_o_at hd]; rfl) (nm_r (nI_1 _) (ih (c + 1) (by omega)))
theorem yl_118 {post : Int32 → SY → Prop} {n : Nat} {r cul : Int32} (hn : n ≤ 5) (ht : g_taken = nI n) (hcu : g_culprit = -1) (hR : ∀ k, k < n → yr_R b_kind b_value b_size (6 + k) (K k) (V k) (L k)) (hyk : yk_R b_kind b_size)
    (hZ : (∃ nm, nm < 12 ∧ r ≠ 0 ∧ lk_R K V L nm n r ∧ (∀ m, m < nm → lk_R K V L m n 0) ∧ cul = nI nm) ∨ ((∀ m, m < 12 → lk_R K V L m n 0) ∧ cul = -1 ∧ ((48 < lk_o K V L n (50 * n) ∧ r = 6) ∨ (lk_o K V L n (50 * n) ≤ 48 ∧ r = 0))))
    (hb : r ≠ 0 → post r (g_place, cul, g_listed, g_units, g_taken, g_used, g_depth, g_waiting, g_held, g_fault, g_steps, g_result, g_given, g_gift, g_has, b_kind, b_value, b_size, b_list, b_library, b_places, b_memory, b_wanted, b_pc, b_base, b_locals, b_waits, b_got, b_values))
    (hp : r = 0 → lk_o K V L n (50 * n) ≤ 48 → ∀ kd vl sz pl mem, yl_C b_kind b_value b_size kd vl sz n → (∀ nm, nm < 12 → pl nm = lk_p K V L n (50 * n) nm) → lk_m K V L n (fun d => b_value (301 + d)) (50 * n) mem → post 0 (g_place, cul, g_listed, nI n, g_taken, nI (lk_o K V L n (50 * n)), g_depth, g_waiting, g_held, g_fault, g_steps, g_result, g_given, g_gift, g_has, kd, vl, sz, b_list, b_library, pl, mem, b_wanted, b_pc, b_base, b_locals, b_waits, b_got, b_values)) :
    ∀ m nm, nm + m = 12 → (∀ q, q < nm → lk_R K V L q n 0) → wY_link_118 post g_place g_culprit g_listed g_units g_taken g_used g_depth g_waiting g_held g_fault g_steps g_result g_given g_gift g_has b_kind b_value b_size b_list b_library b_places b_memory b_wanted b_pc b_base b_locals b_waits b_got b_values (m + 1) (nI nm) := by
  intro m
  induction m with
  | zero =>
    intro nm hm hall
    refine br_t (nI_le (a := 12) (by omega) (by omega)) ⟨50 * n + 1, ?_⟩
    rcases hZ with ⟨q, h1, h2, h3, _⟩ | ⟨_, h2, h3⟩
    · exact absurd (lk_R_one h3 (hall q (by omega))) h2
    · subst h2
      rcases h3 with ⟨h3, e⟩ | ⟨h3, e⟩
      · subst e
        refine yl_156 (r := 6) hn ht hR hyk (fun _ => ?_) (fun h => absurd h (by omega)) (50 * n) 0 (by omega)
        have := hb (by decide)
        rw [hcu]; exact this
      · subst e
        refine yl_156 (r := 0) hn ht hR hyk (fun h => absurd h (by omega)) (fun h kd vl sz pl mem a b c => ?_) (50 * n) 0 (by omega)
        have := hp rfl h kd vl sz pl mem a b c
        rw [hcu]; exact this
  | succ m ih =>
    intro nm hm hall
    refine br_f (nI_ge (b := 12) (by omega) (by omega)) (yl_settled hn ht (by omega) hR (fun r' hr' => br_c (fun z => ?_) (fun z => ?_)))
    · subst z
      refine nm_r (nI_1 nm) (ih (nm + 1) (by omega) (fun q hq => ?_))
      by_cases y : q = nm
      · rw [y]; exact hr'
      · exact hall q (by omega)
    · rcases hZ with ⟨q, h1, h2, h3, h4, h5⟩ | ⟨h1, _⟩
      · have : q = nm := by
          by_cases a : q < nm
          · exact absurd (lk_R_one h3 (hall q a)) h2
          · by_cases b : nm < q
            · exact absurd (lk_R_one hr' (h4 nm b)) z
            · omega
        subst this
        rw [lk_R_one hr' h3, ← h5]
        exact hb h2
      · exact absurd (lk_R_one hr' (h1 nm (by omega))) z
theorem yl_85 {post : Int32 → SY → Prop} {n : Nat} {r cul : Int32} (hn : n ≤ 5) (ht : g_taken = nI n) (hcu : g_culprit = -1) (hR : ∀ k, k < n → yr_R b_kind b_value b_size (6 + k) (K k) (V k) (L k)) (hyk : yk_R b_kind b_size)
    (hZ : lk_Z K V L n r cul)
    (hb : r ≠ 0 → post r (g_place, cul, g_listed, g_units, g_taken, g_used, g_depth, g_waiting, g_held, g_fault, g_steps, g_result, g_given, g_gift, g_has, b_kind, b_value, b_size, b_list, b_library, b_places, b_memory, b_wanted, b_pc, b_base, b_locals, b_waits, b_got, b_values))
    (hp : r = 0 → lk_o K V L n (50 * n) ≤ 48 → ∀ kd vl sz pl mem, yl_C b_kind b_value b_size kd vl sz n → (∀ nm, nm < 12 → pl nm = lk_p K V L n (50 * n) nm) → lk_m K V L n (fun d => b_value (301 + d)) (50 * n) mem → post 0 (g_place, cul, g_listed, nI n, g_taken, nI (lk_o K V L n (50 * n)), g_depth, g_waiting, g_held, g_fault, g_steps, g_result, g_given, g_gift, g_has, kd, vl, sz, b_list, b_library, pl, mem, b_wanted, b_pc, b_base, b_locals, b_waits, b_got, b_values)) :
    ∀ m nm, nm + m = 12 → (∀ q, q < nm → lk_s K V L q n < 2) → wY_link_85 post g_place g_culprit g_listed g_units g_taken g_used g_depth g_waiting g_held g_fault g_steps g_result g_given g_gift g_has b_kind b_value b_size b_list b_library b_places b_memory b_wanted b_pc b_base b_locals b_waits b_got b_values (m + 1) (nI nm) := by
  have hs5 : ∀ nm, lk_s K V L nm n ≤ n := by
    intro nm
    have : ∀ n, lk_s K V L nm n ≤ n := by
      intro n
      induction n with
      | zero => exact Nat.le_refl _
      | succ n ih =>
        show lk_S1 K V n (lk_s K V L nm n) (lk_f K V n nm (L n)) ≤ _
        unfold lk_S1
        split
        · omega
        · split <;> omega
    exact this n
  intro m
  induction m with
  | zero =>
    intro nm hm hall
    refine br_t (nI_le (a := 12) (by omega) (by omega)) ⟨13, ?_⟩
    rcases hZ with ⟨q, h1, h2, _⟩ | ⟨_, hZ⟩
    · exact absurd (hall q (by omega)) (by omega)
    · exact yl_118 hn ht hcu hR hyk hZ hb hp 12 0 (by omega) (fun q h => absurd h (by omega))
  | succ m ih =>
    intro nm hm hall
    have := hs5 nm
    refine br_f (nI_ge (b := 12) (by omega) (by omega)) (yl_strong hn ht (by omega) hR (pk_le 2 (lk_s K V L nm n) (fun h => ?_) (fun h => nm_r (nI_1 nm) (ih (nm + 1) (by omega) (fun q hq => ?_)))))
    · rcases hZ with ⟨q, h1, h2, h3, h4, h5⟩ | ⟨h1, _⟩
      · have : q = nm := by
          by_cases a : q < nm
          · exact absurd (hall q a) (by omega)
          · by_cases b : nm < q
            · exact absurd (h3 nm b) (by omega)
            · omega
        subst this
        subst h4 h5
        exact hb (by decide)
      · exact absurd (h1 nm (by omega)) (by omega)
    · by_cases y : q = nm
      · rw [y]; exact h
      · exact hall q (by omega)
theorem yg_R {C W : Nat → Nat → Nat} {M tk : Nat → Nat} {kd vl sz : Nat → Int32} {n : Nat} (hU : ∀ u, u < 5 → yr_R b_kind b_value b_size u (C u) (W u) (M u)) (hG : yl_G b_kind b_value b_size kd vl sz n tk) (htk : ∀ k, k < n → tk k < 5) : (∀ u, u < 5 → yr_R kd vl sz u (C u) (W u) (M u)) ∧ (∀ k, k < n → yr_R kd vl sz (6 + k) (C (tk k)) (W (tk k)) (M (tk k))) := by
  obtain ⟨g1, g2, g3, _⟩ := hG
  constructor
  · intro u hu
    obtain ⟨a, b, c⟩ := hU u hu
    refine ⟨a, by rw [g2 u (by omega)]; exact b, fun i hi => ?_⟩
    have e := g1 (50 * u + i) (by omega)
    rw [e.1, e.2]
    exact c i hi
  · intro k hk
    have h5 := htk k hk
    obtain ⟨a, b, c⟩ := hU (tk k) h5
    refine ⟨a, by rw [(g3 k hk).1]; exact b, fun i hi => ?_⟩
    have e := (g3 k hk).2 i (by omega)
    rw [show 50 * (6 + k) + i = 300 + 50 * k + i by omega, e.1, e.2]
    exact c i hi
theorem yl_link {post : Int32 → SY → Prop} {C W : Nat → Nat → Nat} {M lst : Nat → Nat} {lib : Nat → Prop} {nl n : Nat} {tk : Nat → Nat} {r cul : Int32} (hnl : nl ≤ 5) (hl : g_listed = nI nl) (hlst : ∀ i, i < nl → lst i < 5 ∧ b_list i = nI (lst i)) (hlib : ∀ i, i < nl → (b_library i = 0 ↔ ¬ lib i)) (hU : ∀ u, u < 5 → yr_R b_kind b_value b_size u (C u) (W u) (M u)) (hyk : yk_R b_kind b_size)
    (hT : lk_T C W M lst lib nl = (n, tk))
    (hZ : lk_Z (fun k => C (tk k)) (fun k => W (tk k)) (fun k => M (tk k)) n r cul)
    (hb : r ≠ 0 → ∀ kd vl sz, yl_G b_kind b_value b_size kd vl sz n tk → post r (g_place, cul, 0, g_units, nI n, g_used, g_depth, g_waiting, g_held, g_fault, g_steps, g_result, g_given, g_gift, g_has, kd, vl, sz, b_list, b_library, b_places, b_memory, b_wanted, b_pc, b_base, b_locals, b_waits, b_got, b_values))
    (hp : r = 0 → ∀ kd0 vl0 sz0 kd vl sz pl mem, yl_G b_kind b_value b_size kd0 vl0 sz0 n tk → yl_C kd0 vl0 sz0 kd vl sz n → lk_o (fun k => C (tk k)) (fun k => W (tk k)) (fun k => M (tk k)) n (50 * n) ≤ 48 → (∀ nm, nm < 12 → pl nm = lk_p (fun k => C (tk k)) (fun k => W (tk k)) (fun k => M (tk k)) n (50 * n) nm) → lk_m (fun k => C (tk k)) (fun k => W (tk k)) (fun k => M (tk k)) n (fun d => vl0 (301 + d)) (50 * n) mem → post 0 (g_place, cul, 0, nI n, nI n, nI (lk_o (fun k => C (tk k)) (fun k => W (tk k)) (fun k => M (tk k)) n (50 * n)), g_depth, g_waiting, g_held, g_fault, g_steps, g_result, g_given, g_gift, g_has, kd, vl, sz, b_list, b_library, pl, mem, b_wanted, b_pc, b_base, b_locals, b_waits, b_got, b_values)) : wpY_link post (g_place, g_culprit, g_listed, g_units, g_taken, g_used, g_depth, g_waiting, g_held, g_fault, g_steps, g_result, g_given, g_gift, g_has, b_kind, b_value, b_size, b_list, b_library, b_places, b_memory, b_wanted, b_pc, b_base, b_locals, b_waits, b_got, b_values) := by
  have hin := fun l => @lk_T_in C W M lst lib l
  have key : ∀ m l kd vl sz, l + m = nl → yl_G b_kind b_value b_size kd vl sz (lk_T C W M lst lib l).1 (lk_T C W M lst lib l).2 → wY_link_12 post (m + 1) (nI l) g_place (-1) g_listed g_units (nI (lk_T C W M lst lib l).1) g_used g_depth g_waiting g_held g_fault g_steps g_result g_given g_gift g_has kd vl sz b_list b_library b_places b_memory b_wanted b_pc b_base b_locals b_waits b_got b_values := by
    intro m
    induction m with
    | zero =>
      intro l kd vl sz hlm hG
      have e : l = nl := by omega
      subst e
      rw [hT] at hG
      have hi := hin l (fun i hi => (hlst i hi).1)
      rw [hT] at hi
      obtain ⟨hR0, hR⟩ := yg_R hU hG hi.2
      have hi1 : n ≤ l := hi.1
      rw [hT]
      refine br_t (by rw [hl]; exact nI_le (by omega) (by omega)) ⟨13, ?_⟩
      refine yl_85 (by omega) rfl rfl hR hG.2.2.2.2.2 hZ (fun e => hb e kd vl sz hG) (fun e h kd' vl' sz' pl mem a b c => hp e kd vl sz kd' vl' sz' pl mem hG a h b c) 12 0 (by omega) (fun q h => absurd h (by omega))
    | succ m ih =>
      intro l kd vl sz hlm hG
      have hi := hin l (fun i hi => (hlst i (by omega)).1)
      obtain ⟨hR0, hR⟩ := yg_R hU hG hi.2
      obtain ⟨hl5, hle⟩ := hlst l (by omega)
      have ec : (nI l).toNatClampNeg = l := nI_clamp (by omega)
      have hinl : vp_in (nI l) 5 := pk_in l 5 (by omega)
      refine br_f (by rw [hl]; exact nI_ge (by omega) (by omega)) ⟨hinl, ?_⟩
      have htake : (¬ lib l ∨ lk_O C W M (lst l) (fun k => C ((lk_T C W M lst lib l).2 k)) (fun k => W ((lk_T C W M lst lib l).2 k)) (fun k => M ((lk_T C W M lst lib l).2 k)) (lk_T C W M lst lib l).1) → wY_link_45 post (wY_link_12 post (m + 1)) (nI l) g_place (-1) g_listed g_units (nI (lk_T C W M lst lib l).1) g_used g_depth g_waiting g_held g_fault g_steps g_result g_given g_gift g_has kd vl sz b_list b_library b_places b_memory b_wanted b_pc b_base b_locals b_waits b_got b_values := by
        intro hc
        have eT : lk_T C W M lst lib (l + 1) = ((lk_T C W M lst lib l).1 + 1, fun k => if k = (lk_T C W M lst lib l).1 then lst l else (lk_T C W M lst lib l).2 k) := lk_T_yes hc
        have ihl := ih (l + 1)
        rw [eT] at ihl
        refine ⟨hinl, ?_⟩
        rw [ec, hle, show (6 : Int32) + nI (lk_T C W M lst lib l).1 = nI (6 + (lk_T C W M lst lib l).1) from nI_add 6 _]
        generalize (lk_T C W M lst lib l).1 = n0 at *
        generalize (lk_T C W M lst lib l).2 = tk0 at *
        obtain ⟨g1, g2, g3, g4, g5, g6⟩ := hG
        have hin0 : n0 ≤ l := hi.1
        obtain ⟨c, hc5, hcs⟩ := g6.2 (lst l) (by omega)
        refine yu_copy (c := c) (by omega) (by omega) (by omega) (fun i hi => g6.1 _ (by omega)) hcs hc5 ?_
        refine nm_r (nI_1 _) (nm_r (nI_1 _) (ihl _ _ _ (by omega) ⟨?_, ?_, ?_, ?_, ?_, yk_copy g6 (by omega) (by omega) hc5⟩))
        · intro j hj
          rw [kd_out (by omega), kd_out (by omega)]
          exact g1 j hj
        · intro r hr
          rw [pk_un (by omega)]
          exact g2 r hr
        · intro k hk
          have hk' : k < n0 + 1 := hk
          by_cases z : k = n0
          · subst z
            show upd sz (6 + k) (nI c) (6 + k) = b_size (if k = k then lst l else tk0 k) ∧ ∀ i, i < 50 → _
            rw [pk_us, if_pos rfl]
            refine ⟨by rw [← hcs]; exact g2 _ (by omega), fun i hi => ?_⟩
            show kd_w kd _ (6 + k) 50 _ = b_kind (50 * (if k = k then lst l else tk0 k) + i) ∧ kd_w vl _ (6 + k) 50 _ = b_value (50 * (if k = k then lst l else tk0 k) + i)
            rw [if_pos rfl, show 300 + 50 * k + i = 50 * (6 + k) + i by omega, kd_in hi, kd_in hi]
            exact g1 _ (by omega)
          · show upd sz (6 + n0) (nI c) (6 + k) = b_size (if k = n0 then lst l else tk0 k) ∧ ∀ i, i < 50 → kd_w kd _ (6 + n0) 50 _ = b_kind (50 * (if k = n0 then lst l else tk0 k) + i) ∧ kd_w vl _ (6 + n0) 50 _ = b_value (50 * (if k = n0 then lst l else tk0 k) + i)
            rw [if_neg z, pk_un (by omega)]
            refine ⟨(g3 k (by omega)).1, fun i hi => ?_⟩
            rw [kd_out (by omega), kd_out (by omega)]
            exact (g3 k (by omega)).2 i hi
        · intro j hj
          rw [kd_out (by omega), kd_out (by omega)]
          exact g4 j hj
        · intro r hr
          rw [pk_un (by omega)]
          exact g5 r hr
      have hskip : lib l → ¬ lk_O C W M (lst l) (fun k => C ((lk_T C W M lst lib l).2 k)) (fun k => W ((lk_T C W M lst lib l).2 k)) (fun k => M ((lk_T C W M lst lib l).2 k)) (lk_T C W M lst lib l).1 → wY_link_12 post (m + 1) (nI (l + 1)) g_place (-1) g_listed g_units (nI (lk_T C W M lst lib l).1) g_used g_depth g_waiting g_held g_fault g_steps g_result g_given g_gift g_has kd vl sz b_list b_library b_places b_memory b_wanted b_pc b_base b_locals b_waits b_got b_values := by
        intro h1 h2
        have eT : lk_T C W M lst lib (l + 1) = lk_T C W M lst lib l := lk_T_no (fun q => q.elim (fun q => q h1) h2)
        have := ih (l + 1) kd vl sz (by omega)
        rw [eT] at this
        exact this hG
      rw [ec]
      refine br_c (fun z => htake (Or.inl ((hlib l (by omega)).mp z))) (fun z => ⟨hinl, ?_⟩)
      have hlb : lib l := Classical.byContradiction (fun q => z ((hlib l (by omega)).mpr q))
      rw [hle]
      have hi1 : (lk_T C W M lst lib l).1 ≤ l := hi.1
      exact yl_needed (C := C) (W := W) (M := M) (by omega) hl5 rfl (hR0 _ hl5) hR (fun ho => br_f (by decide) (htake (Or.inr ho))) (fun ho => br_t rfl (nm_r (nI_1 l) (hskip hlb ho)))
  refine ⟨nl + 1, ?_⟩
  exact key nl 0 b_kind b_value b_size (by omega) ⟨fun j _ => ⟨rfl, rfl⟩, fun r _ => rfl, fun k h => absurd h (Nat.not_lt_zero _), fun j _ => ⟨rfl, rfl⟩, fun r _ => rfl, hyk⟩
end
end
section
/-! taking the units, on the component's side -/
def xe (tk : Nat → Nat) (o : Option Nat) : Int32 := match o with
  | none => -1
  | some c => nI (50 * tk (c / 50) + c % 50)
def xt_I (K V : Nat → Nat → Nat) (L tk : Nat → Nat) (n : Nat) (de du wa : Nat → Int32) : Prop := ∀ nm, nm < 12 → de nm = xe tk (lk_x K V L nm n) ∧ (du nm = 0 ↔ lk_u K V L nm n = false) ∧ (wa nm = 0 ↔ ¬ lk_W K V L nm n)
/-- in the midst of row n -/
def xt_P (K V : Nat → Nat → Nat) (L tk : Nat → Nat) (n t : Nat) (de du wa : Nat → Int32) : Prop := ∀ nm, nm < 12 → de nm = xe tk (lk_X1 K V n (lk_x K V L nm n) (lk_f K V n nm t)) ∧ (du nm = 0 ↔ lk_U1 K V n (lk_u K V L nm n) (lk_x K V L nm n) (lk_f K V n nm t) = false) ∧ (wa nm = 0 ↔ ¬ (lk_W K V L nm n ∨ ∃ i, i < t ∧ lk_Q K V n nm i))
theorem xt_end {K V : Nat → Nat → Nat} {L tk : Nat → Nat} {n : Nat} {de du wa : Nat → Int32} (h : xt_P K V L tk n (L n) de du wa) : xt_I K V L tk (n + 1) de du wa := by
  intro nm hnm
  obtain ⟨a, b, c⟩ := h nm hnm
  refine ⟨a, b, ?_⟩
  rw [c]
  refine not_congr ⟨?_, ?_⟩
  · rintro (⟨k, hk, x⟩ | ⟨i, hi, hq⟩)
    · exact ⟨k, by omega, x⟩
    · exact ⟨n, by omega, i, hi, hq⟩
  · rintro ⟨k, hk, i, hi, hq⟩
    by_cases z : k = n
    · subst z; exact Or.inr ⟨i, hi, hq⟩
    · exact Or.inl ⟨k, by omega, i, hi, hq⟩
theorem xt_begin {K V : Nat → Nat → Nat} {L tk : Nat → Nat} {n : Nat} {de du wa : Nat → Int32} (h : xt_I K V L tk n de du wa) : xt_P K V L tk n 0 de du wa := by
  intro nm hnm
  obtain ⟨a, b, c⟩ := h nm hnm
  refine ⟨a, b, ?_⟩
  rw [c]
  refine not_congr ⟨Or.inl, ?_⟩
  rintro (x | ⟨i, hi, _⟩)
  · exact x
  · exact absurd hi (Nat.not_lt_zero _)
theorem xt_cong {K V K' V' : Nat → Nat → Nat} {L L' tk tk' : Nat → Nat} {n : Nat} {de du wa : Nat → Int32} (hL : ∀ k, k < n → L k ≤ 50) (hE : lk_E K V K' V' L L' n) (ht : ∀ k, k < n → tk k = tk' k) (h : xt_I K V L tk n de du wa) : xt_I K' V' L' tk' n de du wa := by
  intro nm hnm
  obtain ⟨a, b, c⟩ := h nm hnm
  obtain ⟨_, e2, e3, _⟩ := @lk_cong K V K' V' L L' nm n hL hE
  refine ⟨?_, by rw [← e3]; exact b, by rw [← lk_W_cong hE]; exact c⟩
  rw [a, ← e2]
  cases e : lk_x K V L nm n with
  | none => rfl
  | some c =>
    have := (lk_x_in hL e).1
    exact congrArg nI (by rw [ht _ this])
theorem xt_weak {post : Int32 → Prop} {K V : Nat → Nat → Nat} {k i : Nat} {v : Int32} (hP : tk_P (K k i) v) (hV : v.toNatClampNeg = V k i) (hd : K k i = 28 ∨ K k i = 29) (h1 : lk_w K V k i = true → post 1) (h0 : lk_w K V k i = false → post 0) : wpX_isWeak post (nI (K k i)) v := by
  obtain ⟨v1, v2, v3⟩ := tw_V hP hd
  rw [hV] at v1 v2 v3
  rw [v1]
  refine pk_eq (K k i) 28 (fun e => pk_lt (V k i) 64 (fun z => h0 ?_) (fun z => h1 ?_)) (fun e => pk_lt (V k i) 128 (fun z => h0 ?_) (fun z => h1 ?_))
  · unfold lk_w; rw [if_pos e]; exact decide_eq_false (by omega)
  · unfold lk_w; rw [if_pos e]; exact decide_eq_true (by omega)
  · unfold lk_w; rw [if_neg e]; exact decide_eq_false (by omega)
  · unfold lk_w; rw [if_neg e]; exact decide_eq_true (by omega)
theorem xt_isuse {post : Int32 → Prop} {k : Nat} (hk : k ≤ 29) (h1 : (k = 2 ∨ k = 3 ∨ k = 5) → post 1) (h0 : ¬ (k = 2 ∨ k = 3 ∨ k = 5) → post 0) : wpX_isUse post (nI k) :=
  pk_eq k 2 (fun e => h1 (Or.inl e)) (fun e => pk_eq k 3 (fun e2 => h1 (Or.inr (Or.inl e2))) (fun e2 => pk_eq k 5 (fun e3 => h1 (Or.inr (Or.inr e3))) (fun e3 => h0 (by omega))))
section
variable {f_draftCount f_openCount f_operandsDue f_faultPlace f_listCount f_takenCount f_culpritName f_memorySize f_operandCount f_pendingCount f_frameCount f_next f_outcome f_lastResult f_stepCount : Int32} {a_draftKind a_draftValue a_draftPartner a_openBlock a_unitKind a_unitValue a_unitPartner a_unitLength a_listedUnit a_listedAsLibrary a_takenUnit a_definition a_isDuplicate a_isWanted a_codeKind a_codeValue a_codePartner a_functionOf a_placeOf a_memory a_operands a_pendingToken a_pendingDue a_locals a_returnTo : Nat → Int32}
variable {C W : Nat → Nat → Nat} {M tk : Nat → Nat}
theorem xt_use {post : Int32 → Prop} {n u : Nat} (hu : u < 5) (hX : ∀ u, u < 5 → yr_R a_unitKind a_unitValue a_unitLength u (C u) (W u) (M u)) (htk : ∀ k, k < n → tk k < 5) (hI : xt_I (fun k => C (tk k)) (fun k => W (tk k)) (fun k => M (tk k)) tk n a_definition a_isDuplicate a_isWanted)
    (h1 : lk_O C W M u (fun k => C (tk k)) (fun k => W (tk k)) (fun k => M (tk k)) n → post 1) (h0 : ¬ lk_O C W M u (fun k => C (tk k)) (fun k => W (tk k)) (fun k => M (tk k)) n → post 0) : wpX_isOfUse post (f_draftCount, f_openCount, f_operandsDue, f_faultPlace, f_listCount, f_takenCount, f_culpritName, f_memorySize, f_operandCount, f_pendingCount, f_frameCount, f_next, f_outcome, f_lastResult, f_stepCount, a_draftKind, a_draftValue, a_draftPartner, a_openBlock, a_unitKind, a_unitValue, a_unitPartner, a_unitLength, a_listedUnit, a_listedAsLibrary, a_takenUnit, a_definition, a_isDuplicate, a_isWanted, a_codeKind, a_codeValue, a_codePartner, a_functionOf, a_placeOf, a_memory, a_operands, a_pendingToken, a_pendingDue, a_locals, a_returnTo) (nI u) := by
  obtain ⟨hL, hs, hT⟩ := hX u hu
  have hLk : ∀ k, k < n → M (tk k) ≤ 50 := fun k hk => (hX _ (htk k hk)).1
  have e50 : nI u * 50 = nI (50 * u) := by rw [show (50 : Int32) = nI 50 from rfl, pk_mul, Nat.mul_comm]
  have eb : nI (50 * u) + a_unitLength (nI u).toNatClampNeg = nI (50 * u + M u) := by rw [nI_clamp (by omega), hs, nI_add]
  have key : ∀ m t, t + m = M u → (∀ i, i < t → (C u i = 28 ∨ C u i = 29) → ¬ (lk_W (fun k => C (tk k)) (fun k => W (tk k)) (fun k => M (tk k)) (W u i % 16) n ∧ lk_b (fun k => C (tk k)) (fun k => W (tk k)) (fun k => M (tk k)) (W u i % 16) n = none)) → wX_isOfUse_7 post (nI u) (nI (50 * u)) f_draftCount f_openCount f_operandsDue f_faultPlace f_listCount f_takenCount f_culpritName f_memorySize f_operandCount f_pendingCount f_frameCount f_next f_outcome f_lastResult f_stepCount a_draftKind a_draftValue a_draftPartner a_openBlock a_unitKind a_unitValue a_unitPartner a_unitLength a_listedUnit a_listedAsLibrary a_takenUnit a_definition a_isDuplicate a_isWanted a_codeKind a_codeValue a_codePartner a_functionOf a_placeOf a_memory a_operands a_pendingToken a_pendingDue a_locals a_returnTo (m + 1) (nI (50 * u + t)) := by
    intro m
    induction m with
    | zero =>
      intro t ht hno
      refine ⟨pk_in u 5 hu, br_t (by rw [eb]; exact nI_le (by omega) (by omega)) (h0 ?_)⟩
      rintro ⟨i, a, b, c, d⟩
      exact hno i (by omega) b ⟨c, d⟩
    | succ m ih =>
      intro t ht hno
      obtain ⟨a1, a2, a3⟩ := hT t (by omega)
      have hin : vp_in (nI (50 * u + t)) 250 := pk_in (50 * u + t) 250 (by omega)
      have ec : (nI (50 * u + t)).toNatClampNeg = 50 * u + t := nI_clamp (by omega)
      have hnext : ((C u t = 28 ∨ C u t = 29) → ¬ (lk_W (fun k => C (tk k)) (fun k => W (tk k)) (fun k => M (tk k)) (W u t % 16) n ∧ lk_b (fun k => C (tk k)) (fun k => W (tk k)) (fun k => M (tk k)) (W u t % 16) n = none)) → wX_isOfUse_7 post (nI u) (nI (50 * u)) f_draftCount f_openCount f_operandsDue f_faultPlace f_listCount f_takenCount f_culpritName f_memorySize f_operandCount f_pendingCount f_frameCount f_next f_outcome f_lastResult f_stepCount a_draftKind a_draftValue a_draftPartner a_openBlock a_unitKind a_unitValue a_unitPartner a_unitLength a_listedUnit a_listedAsLibrary a_takenUnit a_definition a_isDuplicate a_isWanted a_codeKind a_codeValue a_codePartner a_functionOf a_placeOf a_memory a_operands a_pendingToken a_pendingDue a_locals a_returnTo (m + 1) (nI (50 * u + t) + 1) := by
        intro h
        rw [nI_1]
        exact ih (t + 1) (by omega) (fun i hi => by
          by_cases z : i = t
          · subst z; exact h
          · exact hno i (by omega))
      refine ⟨pk_in u 5 hu, br_f (by rw [eb]; exact nI_ge (by omega) (by omega)) ⟨hin, ?_⟩⟩
      show vp_in _ 250 ∧ _
      refine ⟨hin, ?_⟩
      rw [ec, a1]
      refine xd_isdef a2.1 (fun hd => br_f (by decide) ?_) (fun hd => br_t rfl (nm_e (hnext (fun z => absurd z hd))))
      obtain ⟨v1, v2, v3⟩ := tw_V a2 hd
      rw [a3] at v1 v2 v3
      obtain ⟨i1, i2, i3⟩ := hI _ v3
      have hag := @lk_agree (fun k => C (tk k)) (fun k => W (tk k)) (fun k => M (tk k)) (W u t % 16) n hLk
      rw [tw_V16 a2 hd, a3]
      have ecn : (nI (W u t % 16)).toNatClampNeg = W u t % 16 := nI_clamp (by omega)
      refine ⟨pk_in _ 12 v3, ?_⟩
      rw [ecn]
      refine br_c (fun z => nm_e (hnext (fun _ q => i3.mp z q.1))) (fun z => ⟨pk_in _ 12 v3, br_c (fun y => h1 ⟨t, by omega, hd, ?_, ?_⟩) (fun y => nm_e (hnext (fun _ q => y ?_)))⟩)
      · exact Classical.byContradiction (fun q => z (i3.mpr q))
      · rw [← hag.1]
        cases e : lk_x (fun k => C (tk k)) (fun k => W (tk k)) (fun k => M (tk k)) (W u t % 16) n with
        | none => rfl
        | some c =>
          have hc := lk_x_in hLk e
          have := htk _ hc.1
          rw [i1, e] at y
          exact absurd y (ba_m1 (by omega))
      · rw [i1, hag.1.mpr q.2]; rfl
  refine nm_r e50 ⟨M u + 1, ?_⟩
  exact key (M u) 0 (by omega) (fun i h => absurd h (by omega))
theorem xt_add {post : SX → Prop} {n u t : Nat} (hu : u < 5) (htn : tk n = u) (hX : ∀ u, u < 5 → yr_R a_unitKind a_unitValue a_unitLength u (C u) (W u) (M u)) (htk : ∀ k, k < n → tk k < 5) (ht : t < M u) (hd : C u t = 28 ∨ C u t = 29) (hTW : ∀ i, i < t → (C u i = 28 ∨ C u i = 29) → W u i % 16 ≠ W u t % 16)
    (hP : xt_P (fun k => C (tk k)) (fun k => W (tk k)) (fun k => M (tk k)) tk n t a_definition a_isDuplicate a_isWanted)
    (hp : ∀ de du, xt_P (fun k => C (tk k)) (fun k => W (tk k)) (fun k => M (tk k)) tk n (t + 1) de du a_isWanted → post (f_draftCount, f_openCount, f_operandsDue, f_faultPlace, f_listCount, f_takenCount, f_culpritName, f_memorySize, f_operandCount, f_pendingCount, f_frameCount, f_next, f_outcome, f_lastResult, f_stepCount, a_draftKind, a_draftValue, a_draftPartner, a_openBlock, a_unitKind, a_unitValue, a_unitPartner, a_unitLength, a_listedUnit, a_listedAsLibrary, a_takenUnit, de, du, a_isWanted, a_codeKind, a_codeValue, a_codePartner, a_functionOf, a_placeOf, a_memory, a_operands, a_pendingToken, a_pendingDue, a_locals, a_returnTo)) : wpX_addDefinition post (f_draftCount, f_openCount, f_operandsDue, f_faultPlace, f_listCount, f_takenCount, f_culpritName, f_memorySize, f_operandCount, f_pendingCount, f_frameCount, f_next, f_outcome, f_lastResult, f_stepCount, a_draftKind, a_draftValue, a_draftPartner, a_openBlock, a_unitKind, a_unitValue, a_unitPartner, a_unitLength, a_listedUnit, a_listedAsLibrary, a_takenUnit, a_definition, a_isDuplicate, a_isWanted, a_codeKind, a_codeValue, a_codePartner, a_functionOf, a_placeOf, a_memory, a_operands, a_pendingToken, a_pendingDue, a_locals, a_returnTo) (nI (50 * u + t)) := by
  obtain ⟨hL, hs, hT⟩ := hX u hu
  obtain ⟨a1, a2, a3⟩ := hT t ht
  have hLk : ∀ k, k < n → M (tk k) ≤ 50 := fun k hk => (hX _ (htk k hk)).1
  have hin : vp_in (nI (50 * u + t)) 250 := pk_in (50 * u + t) 250 (by omega)
  have ec : (nI (50 * u + t)).toNatClampNeg = 50 * u + t := nI_clamp (by omega)
  obtain ⟨v1, v2, v3⟩ := tw_V a2 hd
  rw [a3] at v1 v2 v3
  obtain ⟨i1, i2, i3⟩ := hP _ v3
  have hnone : lk_f (fun k => C (tk k)) (fun k => W (tk k)) n (W u t % 16) t = none := lk_f_none.mpr (fun j hj hD => by
    have h1 : C (tk n) j = 28 ∨ C (tk n) j = 29 := hD.1
    have h2 : W (tk n) j % 16 = W u t % 16 := hD.2
    rw [htn] at h1 h2
    exact hTW j hj h1 h2)
  have hsome : lk_f (fun k => C (tk k)) (fun k => W (tk k)) n (W u t % 16) (t + 1) = some t := lk_f_succ_d (show (C (tk n) t = 28 ∨ C (tk n) t = 29) ∧ W (tk n) t % 16 = W u t % 16 by rw [htn]; exact ⟨hd, rfl⟩) hnone
  have hoth : ∀ nm, nm ≠ W u t % 16 → lk_f (fun k => C (tk k)) (fun k => W (tk k)) n nm (t + 1) = lk_f (fun k => C (tk k)) (fun k => W (tk k)) n nm t := fun nm h => lk_f_succ_n (fun hD => h (by have h2 : W (tk n) t % 16 = nm := hD.2; rw [htn] at h2; exact h2.symm))
  have hq : ∀ nm, (∃ i, i < t + 1 ∧ lk_Q (fun k => C (tk k)) (fun k => W (tk k)) n nm i) ↔ (∃ i, i < t ∧ lk_Q (fun k => C (tk k)) (fun k => W (tk k)) n nm i) := by
    intro nm
    constructor
    · rintro ⟨i, hi, hQ⟩
      by_cases z : i = t
      · subst z
        have h1 : C (tk n) i = 2 ∨ C (tk n) i = 3 ∨ C (tk n) i = 5 := hQ.1
        rw [htn] at h1
        omega
      · exact ⟨i, by omega, hQ⟩
    · rintro ⟨i, hi, hQ⟩; exact ⟨i, by omega, hQ⟩
  rw [hnone] at i1 i2
  have i1' : a_definition (W u t % 16) = xe tk (lk_x (fun k => C (tk k)) (fun k => W (tk k)) (fun k => M (tk k)) (W u t % 16) n) := i1
  have i2' : a_isDuplicate (W u t % 16) = 0 ↔ lk_u (fun k => C (tk k)) (fun k => W (tk k)) (fun k => M (tk k)) (W u t % 16) n = false := i2
  have e1 : (50 * n + t) / 50 = n ∧ (50 * n + t) % 50 = t := by omega
  have exn : xe tk (some (50 * n + t)) = nI (50 * u + t) := by
    show nI (50 * tk ((50 * n + t) / 50) + (50 * n + t) % 50) = _
    rw [e1.1, e1.2, htn]
  have hfin : ∀ de du, de (W u t % 16) = xe tk (lk_X1 (fun k => C (tk k)) (fun k => W (tk k)) n (lk_x (fun k => C (tk k)) (fun k => W (tk k)) (fun k => M (tk k)) (W u t % 16) n) (some t)) → (du (W u t % 16) = 0 ↔ lk_U1 (fun k => C (tk k)) (fun k => W (tk k)) n (lk_u (fun k => C (tk k)) (fun k => W (tk k)) (fun k => M (tk k)) (W u t % 16) n) (lk_x (fun k => C (tk k)) (fun k => W (tk k)) (fun k => M (tk k)) (W u t % 16) n) (some t) = false) → (∀ nm, nm ≠ W u t % 16 → de nm = a_definition nm ∧ du nm = a_isDuplicate nm) → post (f_draftCount, f_openCount, f_operandsDue, f_faultPlace, f_listCount, f_takenCount, f_culpritName, f_memorySize, f_operandCount, f_pendingCount, f_frameCount, f_next, f_outcome, f_lastResult, f_stepCount, a_draftKind, a_draftValue, a_draftPartner, a_openBlock, a_unitKind, a_unitValue, a_unitPartner, a_unitLength, a_listedUnit, a_listedAsLibrary, a_takenUnit, de, du, a_isWanted, a_codeKind, a_codeValue, a_codePartner, a_functionOf, a_placeOf, a_memory, a_operands, a_pendingToken, a_pendingDue, a_locals, a_returnTo) := by
    intro de du h1 h2 h3
    refine hp de du (fun nm hnm => ?_)
    by_cases z : nm = W u t % 16
    · subst z
      rw [hsome, hq]
      exact ⟨h1, h2, i3⟩
    · rw [hoth nm z, hq, (h3 nm z).1, (h3 nm z).2]
      exact hP nm hnm
  have ecn : (nI (W u t % 16)).toNatClampNeg = W u t % 16 := nI_clamp (by omega)
  have hinn : vp_in (nI (W u t % 16)) 12 := pk_in _ 12 v3
  refine ⟨hin, ?_⟩
  show vp_in _ 12 ∧ _
  rw [ec, tw_V16 a2 hd, a3]
  refine ⟨hinn, nm_r (e' := xe tk (lk_x (fun k => C (tk k)) (fun k => W (tk k)) (fun k => M (tk k)) (W u t % 16) n)) (by rw [ecn, i1']) ?_⟩
  cases eo : lk_x (fun k => C (tk k)) (fun k => W (tk k)) (fun k => M (tk k)) (W u t % 16) n with
  | none =>
    rw [eo] at hfin
    refine br_t rfl ⟨hinn, nm_r (e' := upd a_definition (W u t % 16) (nI (50 * u + t))) (by rw [ecn]) ?_⟩
    refine hfin _ a_isDuplicate (by rw [pk_us]; exact exn.symm) i2' (fun nm h => ⟨pk_un h, rfl⟩)
  | some c =>
    rw [eo] at hfin
    have hc := lk_x_in hLk eo
    have h5 := htk _ hc.1
    have h50 := hLk _ hc.1
    obtain ⟨b1, b2, b3⟩ := (hX _ h5).2.2 _ hc.2.1
    have hdc : C (tk (c / 50)) (c % 50) = 28 ∨ C (tk (c / 50)) (c % 50) = 29 := hc.2.2.1
    have hinc : vp_in (nI (50 * tk (c / 50) + c % 50)) 250 := pk_in (50 * tk (c / 50) + c % 50) 250 (by omega)
    have ecc : (nI (50 * tk (c / 50) + c % 50)).toNatClampNeg = 50 * tk (c / 50) + c % 50 := nI_clamp (by omega)
    refine br_f (ba_m1 (by omega)) ⟨hin, hin, ?_⟩
    rw [a1]
    have hw1 : ∀ b, lk_w C W u t = b → lk_w (fun k => C (tk k)) (fun k => W (tk k)) n t = b := fun b h => by
      show (if C (tk n) t = 28 then decide (64 ≤ W (tk n) t) else decide (128 ≤ W (tk n) t)) = b
      rw [htn]; exact h
    refine xt_weak (K := C) (V := W) a2 a3 hd (fun w => br_f (by decide) ?_) (fun w => br_t rfl ⟨hinc, hinc, ?_⟩)
    · refine hfin a_definition a_isDuplicate ?_ ?_ (fun nm h => ⟨rfl, rfl⟩)
      · rw [i1', eo]
        refine congrArg (xe tk) (if_neg ?_).symm
        rw [hw1 _ w]; exact fun z => nomatch z
      · rw [i2']
        refine Eq.to_iff (congrArg (· = false) (if_neg ?_).symm)
        rw [hw1 _ w]; exact fun z => nomatch z.1
    · show wpX_isWeak _ (a_unitKind (nI (50 * tk (c / 50) + c % 50)).toNatClampNeg) (a_unitValue (nI (50 * tk (c / 50) + c % 50)).toNatClampNeg)
      rw [ecc, b1]
      refine xt_weak (K := C) (V := W) b2 b3 hdc (fun w2 => br_f (by decide) ⟨hinn, nm_r (e' := upd a_definition (W u t % 16) (nI (50 * u + t))) (by rw [ecn]) ?_⟩) (fun w2 => br_t rfl ⟨hinn, nm_r (e' := upd a_isDuplicate (W u t % 16) 1) (by rw [ecn, ba_z1]) ⟨hinn, nm_r (e' := upd a_definition (W u t % 16) (nI (50 * u + t))) (by rw [ecn]) ?_⟩⟩)
      · refine hfin _ a_isDuplicate ?_ ?_ (fun nm h => ⟨pk_un h, rfl⟩)
        · rw [pk_us, ← exn]
          exact congrArg (xe tk) (if_pos (hw1 _ w)).symm
        · rw [i2']
          refine Eq.to_iff (congrArg (· = false) (if_neg ?_).symm)
          intro z
          have : lk_w C W (tk (c / 50)) (c % 50) = false := z.2
          rw [w2] at this; exact nomatch this
      · refine hfin _ _ ?_ ?_ (fun nm h => ⟨pk_un h, pk_un h⟩)
        · rw [pk_us, ← exn]
          exact congrArg (xe tk) (if_pos (hw1 _ w)).symm
        · rw [pk_us]
          have : lk_U1 (fun k => C (tk k)) (fun k => W (tk k)) n (lk_u (fun k => C (tk k)) (fun k => W (tk k)) (fun k => M (tk k)) (W u t % 16) n) (some c) (some t) = true := if_pos ⟨hw1 _ w, w2⟩
          rw [this]
          exact ⟨fun z => absurd z (by decide), fun z => nomatch z⟩
end
end
section
/-! taking the units and the faults of a link, on the component's side -/
def sm (f : Nat → Nat) : Nat → Nat
  | 0 => 0
  | m + 1 => sm f m + f m
theorem sm_eq {f g : Nat → Nat} : ∀ m, (∀ i, i < m → g i = f i) → sm g m = sm f m := by
  intro m
  induction m with
  | zero => exact fun _ => rfl
  | succ m ih =>
    intro h
    show sm g m + g m = sm f m + f m
    rw [ih (fun i hi => h i (by omega)), h m (by omega)]
theorem sm_up {f g : Nat → Nat} {k z : Nat} : ∀ m, k < m → (∀ i, i < m → i ≠ k → g i = f i) → g k = f k + z → sm g m = sm f m + z := by
  intro m
  induction m with
  | zero => exact fun h => absurd h (by omega)
  | succ m ih =>
    intro hk h he
    show sm g m + g m = sm f m + f m + z
    by_cases e : k = m
    · subst e
      rw [sm_eq k (fun i hi => h i (by omega) (by omega)), he]; omega
    · rw [ih (by omega) (fun i hi => h i (by omega)) he, h m (by omega) (by omega)]; omega
/-- words by name, of definitions below code c -/
def lk_n (K V : Nat → Nat → Nat) (L : Nat → Nat) (n c nm : Nat) : Nat := match lk_b K V L nm n with
  | none => 0
  | some d => if K (d / 50) (d % 50) = 29 ∧ d < c then lk_z V d else 0
theorem lk_sum {K V : Nat → Nat → Nat} {L : Nat → Nat} {n : Nat} (hL : ∀ k, k < n → L k ≤ 50) (hV : ∀ k, k < n → ∀ i, i < L k → K k i = 29 → V k i % 16 < 12) : ∀ c, c ≤ 50 * n → sm (lk_n K V L n c) 12 = lk_o K V L n c := by
  intro c
  induction c with
  | zero =>
    intro _
    show _ = 0
    have : ∀ i, i < 12 → lk_n K V L n 0 i = (fun _ => 0) i := by
      intro i _
      unfold lk_n
      split
      · rfl
      · exact if_neg (fun q => absurd q.2 (Nat.not_lt_zero _))
    rw [sm_eq 12 this]; rfl
  | succ c ih =>
    intro hc
    have ih' := ih (by omega)
    cases e : lk_dt K V L n c with
    | false =>
      rw [lk_o_no e, ← ih']
      refine sm_eq 12 (fun nm _ => ?_)
      unfold lk_n
      cases eb : lk_b K V L nm n with
      | none => rfl
      | some d =>
        have hd := lk_b_in hL eb
        show (if _ then _ else _) = (if _ then _ else _)
        by_cases z : K (d / 50) (d % 50) = 29 ∧ d < c
        · rw [if_pos z, if_pos ⟨z.1, by omega⟩]
        · rw [if_neg z]
          refine if_neg (fun q => ?_)
          have e2 : d = c := by omega
          subst e2
          have := of_decide_eq_false e
          refine this ⟨hd.2.1, q.1, ?_⟩
          rw [hd.2.2.2]; exact eb
    | true =>
      have hdt := of_decide_eq_true e
      rw [lk_o_at e, ← ih']
      refine sm_up (k := V (c / 50) (c % 50) % 16) 12 (hV _ (by omega) _ hdt.1 hdt.2.1) (fun nm _ hne => ?_) ?_
      · unfold lk_n
        cases eb : lk_b K V L nm n with
        | none => rfl
        | some d =>
          have hd := lk_b_in hL eb
          have : d ≠ c := fun q => by subst q; exact hne hd.2.2.2.symm
          show (if _ then _ else _) = (if _ then _ else _)
          by_cases y : K (d / 50) (d % 50) = 29 ∧ d < c
          · rw [if_pos y, if_pos ⟨y.1, by omega⟩]
          · rw [if_neg y, if_neg (fun q => y ⟨q.1, by omega⟩)]
      · unfold lk_n
        rw [hdt.2.2]
        show (if _ then _ else _) = (if _ then _ else _) + _
        rw [if_pos ⟨hdt.2.1, by omega⟩, if_neg (fun q => by omega), Nat.zero_add]
section
variable {f_draftCount f_openCount f_operandsDue f_faultPlace f_listCount f_takenCount f_culpritName f_memorySize f_operandCount f_pendingCount f_frameCount f_next f_outcome f_lastResult f_stepCount : Int32} {a_draftKind a_draftValue a_draftPartner a_openBlock a_unitKind a_unitValue a_unitPartner a_unitLength a_listedUnit a_listedAsLibrary a_takenUnit a_definition a_isDuplicate a_isWanted a_codeKind a_codeValue a_codePartner a_functionOf a_placeOf a_memory a_operands a_pendingToken a_pendingDue a_locals a_returnTo : Nat → Int32}
variable {C W : Nat → Nat → Nat} {M tk : Nat → Nat}
theorem xt_take {post : SX → Prop} {n u : Nat} (hn : n < 5) (hu : u < 5) (htn : tk n = u) (hX : ∀ u, u < 5 → yr_R a_unitKind a_unitValue a_unitLength u (C u) (W u) (M u)) (htk : ∀ k, k < n → tk k < 5) (hTW : ∀ u, u < 5 → ∀ i j, i < j → j < M u → (C u i = 28 ∨ C u i = 29) → (C u j = 28 ∨ C u j = 29) → W u i % 16 ≠ W u j % 16)
    (hI : xt_I (fun k => C (tk k)) (fun k => W (tk k)) (fun k => M (tk k)) tk n a_definition a_isDuplicate a_isWanted)
    (hp : ∀ de du wa, xt_I (fun k => C (tk k)) (fun k => W (tk k)) (fun k => M (tk k)) tk (n + 1) de du wa → post (f_draftCount, f_openCount, f_operandsDue, f_faultPlace, f_listCount, nI (n + 1), f_culpritName, f_memorySize, f_operandCount, f_pendingCount, f_frameCount, f_next, f_outcome, f_lastResult, f_stepCount, a_draftKind, a_draftValue, a_draftPartner, a_openBlock, a_unitKind, a_unitValue, a_unitPartner, a_unitLength, a_listedUnit, a_listedAsLibrary, upd a_takenUnit n (nI u), de, du, wa, a_codeKind, a_codeValue, a_codePartner, a_functionOf, a_placeOf, a_memory, a_operands, a_pendingToken, a_pendingDue, a_locals, a_returnTo)) : wpX_takeUnit post (f_draftCount, f_openCount, f_operandsDue, f_faultPlace, f_listCount, nI n, f_culpritName, f_memorySize, f_operandCount, f_pendingCount, f_frameCount, f_next, f_outcome, f_lastResult, f_stepCount, a_draftKind, a_draftValue, a_draftPartner, a_openBlock, a_unitKind, a_unitValue, a_unitPartner, a_unitLength, a_listedUnit, a_listedAsLibrary, a_takenUnit, a_definition, a_isDuplicate, a_isWanted, a_codeKind, a_codeValue, a_codePartner, a_functionOf, a_placeOf, a_memory, a_operands, a_pendingToken, a_pendingDue, a_locals, a_returnTo) (nI u) := by
  obtain ⟨hL, hs, hT⟩ := hX u hu
  have e50 : nI u * 50 = nI (50 * u) := by rw [show (50 : Int32) = nI 50 from rfl, pk_mul, Nat.mul_comm]
  have eb : nI (50 * u) + a_unitLength (nI u).toNatClampNeg = nI (50 * u + M u) := by rw [nI_clamp (by omega), hs, nI_add]
  have key : ∀ m t de du wa, t + m = M u → xt_P (fun k => C (tk k)) (fun k => W (tk k)) (fun k => M (tk k)) tk n t de du wa → wX_takeUnit_27 post (nI u) (nI (50 * u)) (m + 1) (nI (50 * u + t)) f_draftCount f_openCount f_operandsDue f_faultPlace f_listCount (nI (n + 1)) f_culpritName f_memorySize f_operandCount f_pendingCount f_frameCount f_next f_outcome f_lastResult f_stepCount a_draftKind a_draftValue a_draftPartner a_openBlock a_unitKind a_unitValue a_unitPartner a_unitLength a_listedUnit a_listedAsLibrary (upd a_takenUnit n (nI u)) de du wa a_codeKind a_codeValue a_codePartner a_functionOf a_placeOf a_memory a_operands a_pendingToken a_pendingDue a_locals a_returnTo := by
    intro m
    induction m with
    | zero =>
      intro t de du wa ht hP
      refine ⟨pk_in u 5 hu, br_t (by rw [eb]; exact nI_le (by omega) (by omega)) (hp de du wa (xt_end ?_))⟩
      rw [show t = M u by omega] at hP
      show xt_P _ _ _ _ _ (M (tk n)) _ _ _
      rw [htn]; exact hP
    | succ m ih =>
      intro t de du wa ht hP
      obtain ⟨a1, a2, a3⟩ := hT t (by omega)
      have hin : vp_in (nI (50 * u + t)) 250 := pk_in (50 * u + t) 250 (by omega)
      have ec : (nI (50 * u + t)).toNatClampNeg = 50 * u + t := nI_clamp (by omega)
      refine ⟨pk_in u 5 hu, br_f (by rw [eb]; exact nI_ge (by omega) (by omega)) ⟨hin, nm_r (e' := nI (C u t)) (by rw [ec, a1]) ?_⟩⟩
      refine xd_isdef a2.1 (fun hd => br_f (by decide) ?_) (fun hd => br_t rfl ?_)
      · refine xt_add hu htn hX htk (by omega) hd (fun i hi hdi => hTW u hu i t hi (by omega) hdi hd) hP (fun de' du' hP' => ?_)
        exact nm_r (nI_1 _) (ih (t + 1) de' du' wa (by omega) hP')
      · have hfs : ∀ nm, lk_f (fun k => C (tk k)) (fun k => W (tk k)) n nm (t + 1) = lk_f (fun k => C (tk k)) (fun k => W (tk k)) n nm t := fun nm => lk_f_succ_n (fun hD => hd (by have h2 : C (tk n) t = 28 ∨ C (tk n) t = 29 := hD.1; rw [htn] at h2; exact h2))
        refine xt_isuse a2.1 (fun hq => br_f (by decide) ⟨hin, ?_⟩) (fun hq => br_t rfl (nm_r (nI_1 _) (ih (t + 1) de du wa (by omega) (fun nm hnm => ?_))))
        · obtain ⟨v1, v2, v3⟩ := tw_U a2 hq
          rw [a3] at v1 v2 v3
          show vp_in _ 12 ∧ _
          rw [ec, tw_U16 a2 hq, a3]
          refine ⟨pk_in _ 12 v3, nm_r (e' := upd wa (W u t % 16) 1) (by rw [nI_clamp (by omega), ba_z1]) (nm_r (nI_1 _) (ih (t + 1) de du _ (by omega) (fun nm hnm => ?_)))⟩
          obtain ⟨p1, p2, p3⟩ := hP nm hnm
          rw [hfs]
          refine ⟨p1, p2, ?_⟩
          have hQt : lk_Q (fun k => C (tk k)) (fun k => W (tk k)) n (W u t % 16) t := by
            show (C (tk n) t = 2 ∨ C (tk n) t = 3 ∨ C (tk n) t = 5) ∧ W (tk n) t % 16 = W u t % 16
            rw [htn]; exact ⟨hq, rfl⟩
          by_cases z : nm = W u t % 16
          · rw [z, pk_us]
            exact ⟨fun y => absurd y (by decide), fun y => absurd (Or.inr ⟨t, by omega, hQt⟩) y⟩
          · rw [pk_un z, p3]
            refine not_congr (or_congr Iff.rfl ⟨?_, ?_⟩)
            · rintro ⟨i, hi, x⟩; exact ⟨i, by omega, x⟩
            · rintro ⟨i, hi, x⟩
              by_cases y : i = t
              · subst y
                have h2 : W (tk n) i % 16 = nm := x.2
                rw [htn] at h2
                exact absurd h2.symm z
              · exact ⟨i, by omega, x⟩
        · obtain ⟨p1, p2, p3⟩ := hP nm hnm
          rw [hfs]
          refine ⟨p1, p2, ?_⟩
          rw [p3]
          refine not_congr (or_congr Iff.rfl ⟨?_, ?_⟩)
          · rintro ⟨i, hi, x⟩; exact ⟨i, by omega, x⟩
          · rintro ⟨i, hi, x⟩
            by_cases y : i = t
            · subst y
              have h2 : C (tk n) i = 2 ∨ C (tk n) i = 3 ∨ C (tk n) i = 5 := x.1
              rw [htn] at h2
              exact absurd h2 hq
            · exact ⟨i, by omega, x⟩
  refine ⟨pk_in n 5 hn, nm_r (e' := upd a_takenUnit n (nI u)) (by rw [nI_clamp (by omega)]) (nm_r (nI_1 n) (nm_r e50 ⟨M u + 1, ?_⟩))⟩
  exact key (M u) 0 a_definition a_isDuplicate a_isWanted (by omega) (xt_begin hI)
theorem xt_units {post : SX → Prop} {lst : Nat → Nat} {lib : Nat → Prop} {nl n : Nat} (hnl : nl ≤ 5) (hl : f_listCount = nI nl) (hlst : ∀ i, i < nl → lst i < 5 ∧ a_listedUnit i = nI (lst i)) (hlib : ∀ i, i < nl → (a_listedAsLibrary i = 0 ↔ ¬ lib i)) (hX : ∀ u, u < 5 → yr_R a_unitKind a_unitValue a_unitLength u (C u) (W u) (M u)) (hTW : ∀ u, u < 5 → ∀ i j, i < j → j < M u → (C u i = 28 ∨ C u i = 29) → (C u j = 28 ∨ C u j = 29) → W u i % 16 ≠ W u j % 16)
    (hT : lk_T C W M lst lib nl = (n, tk))
    (hp : ∀ tu de du wa, (∀ k, k < n → tu k = nI (tk k)) → xt_I (fun k => C (tk k)) (fun k => W (tk k)) (fun k => M (tk k)) tk n de du wa → post (f_draftCount, f_openCount, f_operandsDue, f_faultPlace, f_listCount, nI n, f_culpritName, f_memorySize, f_operandCount, f_pendingCount, f_frameCount, f_next, f_outcome, f_lastResult, f_stepCount, a_draftKind, a_draftValue, a_draftPartner, a_openBlock, a_unitKind, a_unitValue, a_unitPartner, a_unitLength, a_listedUnit, a_listedAsLibrary, tu, de, du, wa, a_codeKind, a_codeValue, a_codePartner, a_functionOf, a_placeOf, a_memory, a_operands, a_pendingToken, a_pendingDue, a_locals, a_returnTo)) : wpX_takeUnits post (f_draftCount, f_openCount, f_operandsDue, f_faultPlace, f_listCount, f_takenCount, f_culpritName, f_memorySize, f_operandCount, f_pendingCount, f_frameCount, f_next, f_outcome, f_lastResult, f_stepCount, a_draftKind, a_draftValue, a_draftPartner, a_openBlock, a_unitKind, a_unitValue, a_unitPartner, a_unitLength, a_listedUnit, a_listedAsLibrary, a_takenUnit, a_definition, a_isDuplicate, a_isWanted, a_codeKind, a_codeValue, a_codePartner, a_functionOf, a_placeOf, a_memory, a_operands, a_pendingToken, a_pendingDue, a_locals, a_returnTo) := by
  have hin := fun l => @lk_T_in C W M lst lib l
  have key : ∀ m l tu de du wa, l + m = nl → (∀ k, k < (lk_T C W M lst lib l).1 → tu k = nI ((lk_T C W M lst lib l).2 k)) → xt_I (fun k => C ((lk_T C W M lst lib l).2 k)) (fun k => W ((lk_T C W M lst lib l).2 k)) (fun k => M ((lk_T C W M lst lib l).2 k)) (lk_T C W M lst lib l).2 (lk_T C W M lst lib l).1 de du wa → wX_takeUnits_42 post (m + 1) (nI l) f_draftCount f_openCount f_operandsDue f_faultPlace f_listCount (nI (lk_T C W M lst lib l).1) f_culpritName f_memorySize f_operandCount f_pendingCount f_frameCount f_next f_outcome f_lastResult f_stepCount a_draftKind a_draftValue a_draftPartner a_openBlock a_unitKind a_unitValue a_unitPartner a_unitLength a_listedUnit a_listedAsLibrary tu de du wa a_codeKind a_codeValue a_codePartner a_functionOf a_placeOf a_memory a_operands a_pendingToken a_pendingDue a_locals a_returnTo := by
    intro m
    induction m with
    | zero =>
      intro l tu de du wa hlm htu hI
      have e : l = nl := by omega
      subst e
      rw [hT] at htu hI
      rw [hT]
      exact br_t (by rw [hl]; exact nI_le (by omega) (by omega)) (hp tu de du wa htu hI)
    | succ m ih =>
      intro l tu de du wa hlm htu hI
      have hi := hin l (fun i hi => (hlst i (by omega)).1)
      obtain ⟨hl5, hle⟩ := hlst l (by omega)
      have ec : (nI l).toNatClampNeg = l := nI_clamp (by omega)
      have hinl : vp_in (nI l) 5 := pk_in l 5 (by omega)
      have hi1 : (lk_T C W M lst lib l).1 ≤ l := hi.1
      refine br_f (by rw [hl]; exact nI_ge (by omega) (by omega)) ⟨hinl, nm_r (e' := nI (lst l)) (by rw [ec, hle]) ⟨hinl, ?_⟩⟩
      have htake : (¬ lib l ∨ lk_O C W M (lst l) (fun k => C ((lk_T C W M lst lib l).2 k)) (fun k => W ((lk_T C W M lst lib l).2 k)) (fun k => M ((lk_T C W M lst lib l).2 k)) (lk_T C W M lst lib l).1) → wX_takeUnits_74 post (wX_takeUnits_42 post (m + 1)) (nI l) (nI (lst l)) f_draftCount f_openCount f_operandsDue f_faultPlace f_listCount (nI (lk_T C W M lst lib l).1) f_culpritName f_memorySize f_operandCount f_pendingCount f_frameCount f_next f_outcome f_lastResult f_stepCount a_draftKind a_draftValue a_draftPartner a_openBlock a_unitKind a_unitValue a_unitPartner a_unitLength a_listedUnit a_listedAsLibrary tu de du wa a_codeKind a_codeValue a_codePartner a_functionOf a_placeOf a_memory a_operands a_pendingToken a_pendingDue a_locals a_returnTo := by
        intro hc
        have eT := lk_T_yes hc
        have ihl := ih (l + 1)
        rw [eT] at ihl
        generalize (lk_T C W M lst lib l).1 = n0 at *
        generalize (lk_T C W M lst lib l).2 = tk0 at *
        have et : ∀ k, k < n0 → tk0 k = (fun k => if k = n0 then lst l else tk0 k) k := fun k hk => (if_neg (by omega)).symm
        have hI' : xt_I (fun k => C ((fun k => if k = n0 then lst l else tk0 k) k)) (fun k => W ((fun k => if k = n0 then lst l else tk0 k) k)) (fun k => M ((fun k => if k = n0 then lst l else tk0 k) k)) (fun k => if k = n0 then lst l else tk0 k) n0 de du wa := by
          refine xt_cong (fun k hk => (hX _ (hi.2 k hk)).1) (fun k hk => ?_) et hI
          have e := et k hk
          refine ⟨congrArg M e, fun i _ => ⟨congrArg (fun x => C x i) e, congrArg (fun x => W x i) e⟩⟩
        unfold wX_takeUnits_74
        refine xt_take (tk := fun k => if k = n0 then lst l else tk0 k) (by omega) hl5 (if_pos rfl) hX (fun k hk => by show (if k = n0 then lst l else tk0 k) < 5; rw [if_neg (show k ≠ n0 by omega)]; exact hi.2 k hk) hTW hI' (fun de' du' wa' hI2 => ?_)
        refine nm_r (nI_1 l) (ihl _ de' du' wa' (by omega) (fun k hk => ?_) hI2)
        have hk' : k < n0 + 1 := hk
        show upd tu n0 (nI (lst l)) k = nI (if k = n0 then lst l else tk0 k)
        by_cases z : k = n0
        · rw [z, pk_us, if_pos rfl]
        · rw [pk_un z, if_neg z]; exact htu k (by omega)
      have hskip : lib l → ¬ lk_O C W M (lst l) (fun k => C ((lk_T C W M lst lib l).2 k)) (fun k => W ((lk_T C W M lst lib l).2 k)) (fun k => M ((lk_T C W M lst lib l).2 k)) (lk_T C W M lst lib l).1 → wX_takeUnits_42 post (m + 1) (nI (l + 1)) f_draftCount f_openCount f_operandsDue f_faultPlace f_listCount (nI (lk_T C W M lst lib l).1) f_culpritName f_memorySize f_operandCount f_pendingCount f_frameCount f_next f_outcome f_lastResult f_stepCount a_draftKind a_draftValue a_draftPartner a_openBlock a_unitKind a_unitValue a_unitPartner a_unitLength a_listedUnit a_listedAsLibrary tu de du wa a_codeKind a_codeValue a_codePartner a_functionOf a_placeOf a_memory a_operands a_pendingToken a_pendingDue a_locals a_returnTo := by
        intro h1 h2
        have eT : lk_T C W M lst lib (l + 1) = lk_T C W M lst lib l := lk_T_no (fun q => q.elim (fun q => q h1) h2)
        have := ih (l + 1) tu de du wa (by omega)
        rw [eT] at this
        exact this htu hI
      rw [ec]
      refine br_c (fun z => htake (Or.inl ((hlib l (by omega)).mp z))) (fun z => ?_)
      have hlb : lib l := Classical.byContradiction (fun q => z ((hlib l (by omega)).mpr q))
      exact xt_use hl5 hX hi.2 hI (fun ho => br_f (by decide) (htake (Or.inr ho))) (fun ho => br_t rfl (nm_r (nI_1 l) (hskip hlb ho)))
  have h7 : ∀ m k de du wa, k + m = 12 → (∀ nm, nm < k → de nm = -1 ∧ du nm = 0 ∧ wa nm = 0) → wX_takeUnits_7 post f_draftCount f_openCount f_operandsDue f_faultPlace f_listCount 0 f_culpritName f_memorySize f_operandCount f_pendingCount f_frameCount f_next f_outcome f_lastResult f_stepCount (m + 1) (nI k) a_draftKind a_draftValue a_draftPartner a_openBlock a_unitKind a_unitValue a_unitPartner a_unitLength a_listedUnit a_listedAsLibrary a_takenUnit de du wa a_codeKind a_codeValue a_codePartner a_functionOf a_placeOf a_memory a_operands a_pendingToken a_pendingDue a_locals a_returnTo := by
    intro m
    induction m with
    | zero =>
      intro k de du wa hk h
      refine br_t (nI_le (a := 12) (by omega) (by omega)) ⟨nl + 1, ?_⟩
      refine key nl 0 a_takenUnit de du wa (by omega) (fun k h => absurd h (Nat.not_lt_zero _)) (fun nm hnm => ?_)
      obtain ⟨a, b, c⟩ := h nm (by omega)
      refine ⟨a, ⟨fun _ => rfl, fun _ => b⟩, ⟨fun _ q => ?_, fun _ => c⟩⟩
      obtain ⟨k, hk, _⟩ := q
      exact absurd hk (Nat.not_lt_zero _)
    | succ m ih =>
      intro k de du wa hk h
      have hin : vp_in (nI k) 12 := pk_in k 12 (by omega)
      have ec : (nI k).toNatClampNeg = k := nI_clamp (by omega)
      refine br_f (nI_ge (b := 12) (by omega) (by omega)) ⟨hin, nm_r (e' := upd de k (-1)) (by rw [ec]) ⟨hin, nm_r (e' := upd du k 0) (by rw [ec, ba_z0]) ⟨hin, nm_r (e' := upd wa k 0) (by rw [ec, ba_z0]) (nm_r (nI_1 k) (ih (k + 1) _ _ _ (by omega) (fun nm hnm => ?_)))⟩⟩⟩
      by_cases z : nm = k
      · rw [z, pk_us, pk_us, pk_us]; exact ⟨rfl, rfl, rfl⟩
      · rw [pk_un z, pk_un z, pk_un z]; exact h nm (by omega)
  exact ⟨13, h7 12 0 a_definition a_isDuplicate a_isWanted (by omega) (fun nm h => absurd h (by omega))⟩
end
end
section
/-! the faults of a link, on the component's side -/
section
variable {f_draftCount f_openCount f_operandsDue f_faultPlace f_listCount f_takenCount f_culpritName f_memorySize f_operandCount f_pendingCount f_frameCount f_next f_outcome f_lastResult f_stepCount : Int32} {a_draftKind a_draftValue a_draftPartner a_openBlock a_unitKind a_unitValue a_unitPartner a_unitLength a_listedUnit a_listedAsLibrary a_takenUnit a_definition a_isDuplicate a_isWanted a_codeKind a_codeValue a_codePartner a_functionOf a_placeOf a_memory a_operands a_pendingToken a_pendingDue a_locals a_returnTo : Nat → Int32}
variable {C W : Nat → Nat → Nat} {M tk : Nat → Nat}
theorem xl_suits {post : Int32 → Prop} {u t d : Nat} (hu : u < 5) (ht : t < M u) (hX : ∀ u, u < 5 → yr_R a_unitKind a_unitValue a_unitLength u (C u) (W u) (M u)) (hq : C u t = 2 ∨ C u t = 3 ∨ C u t = 5) {k : Nat} (hk : tk k = u) (h5 : tk (d / 50) < 5) (hd : d % 50 < M (tk (d / 50))) (hdd : C (tk (d / 50)) (d % 50) = 28 ∨ C (tk (d / 50)) (d % 50) = 29)
    (h1 : lk_su (fun k => C (tk k)) (fun k => W (tk k)) d k t → post 1) (h0 : ¬ lk_su (fun k => C (tk k)) (fun k => W (tk k)) d k t → post 0) : wpX_suits post (f_draftCount, f_openCount, f_operandsDue, f_faultPlace, f_listCount, f_takenCount, f_culpritName, f_memorySize, f_operandCount, f_pendingCount, f_frameCount, f_next, f_outcome, f_lastResult, f_stepCount, a_draftKind, a_draftValue, a_draftPartner, a_openBlock, a_unitKind, a_unitValue, a_unitPartner, a_unitLength, a_listedUnit, a_listedAsLibrary, a_takenUnit, a_definition, a_isDuplicate, a_isWanted, a_codeKind, a_codeValue, a_codePartner, a_functionOf, a_placeOf, a_memory, a_operands, a_pendingToken, a_pendingDue, a_locals, a_returnTo) (nI (50 * u + t)) (nI (50 * tk (d / 50) + d % 50)) := by
  obtain ⟨a1, a2, a3⟩ := (hX u hu).2.2 t ht
  obtain ⟨b1, b2, b3⟩ := (hX _ h5).2.2 _ hd
  have hL := (hX u hu).1
  have hLd := (hX _ h5).1
  have hin : vp_in (nI (50 * u + t)) 250 := pk_in (50 * u + t) 250 (by omega)
  have ec : (nI (50 * u + t)).toNatClampNeg = 50 * u + t := nI_clamp (by omega)
  have hind : vp_in (nI (50 * tk (d / 50) + d % 50)) 250 := pk_in (50 * tk (d / 50) + d % 50) 250 (by omega)
  have ecd : (nI (50 * tk (d / 50) + d % 50)).toNatClampNeg = 50 * tk (d / 50) + d % 50 := nI_clamp (by omega)
  obtain ⟨u1, u2, u3⟩ := tw_U a2 hq
  obtain ⟨v1, v2, v3⟩ := tw_V b2 hdd
  rw [a3] at u1 u2 u3
  rw [b3] at v1 v2 v3
  have h9 := a2.1
  have h9d := b2.1
  have esu : lk_su (fun k => C (tk k)) (fun k => W (tk k)) d k t = if C u t = 5 then C (tk (d / 50)) (d % 50) = 28 ∧ W (tk (d / 50)) (d % 50) / 16 % 4 = W u t / 16 else C (tk (d / 50)) (d % 50) = 29 := by
    show (if C (tk k) t = 5 then C (tk (d / 50)) (d % 50) = 28 ∧ W (tk (d / 50)) (d % 50) / 16 % 4 = W (tk k) t / 16 else C (tk (d / 50)) (d % 50) = 29) = _
    rw [hk]
  rw [esu] at h1 h0
  refine ⟨hin, ?_⟩
  rw [ec, a1, ecd, b1]
  refine pk_eq (C u t) 5 (fun e => ⟨hind, ?_⟩) (fun e => ⟨hind, ?_⟩)
  · rw [if_pos e] at h1 h0
    refine pk_eq (C (tk (d / 50)) (d % 50)) 28 (fun e2 => ⟨hin, ?_⟩) (fun e2 => h0 (fun z => e2 z.1))
    show vp_in _ 250 ∧ (_ → _) ∧ (_ → _)
    refine ⟨hind, ?_⟩
    rw [u1, v1, ba_cnt (by omega), ba_cnt (by omega)]
    exact pk_eq (W u t / 16 % 4) (W (tk (d / 50)) (d % 50) / 16 % 4) (fun e3 => h1 ⟨e2, by omega⟩) (fun e3 => h0 (fun z => e3 (by have := z.2; omega)))
  · rw [if_neg e] at h1 h0
    exact pk_eq (C (tk (d / 50)) (d % 50)) 29 (fun e2 => h1 e2) (fun e2 => h0 e2)
theorem xl_wrong {post : Int32 → Prop} {u nm d : Nat} (hu : u < 5) (hnm : nm < 12) (hX : ∀ u, u < 5 → yr_R a_unitKind a_unitValue a_unitLength u (C u) (W u) (M u)) {k : Nat} (hk : tk k = u) (h5 : tk (d / 50) < 5) (hd : d % 50 < M (tk (d / 50))) (hdd : C (tk (d / 50)) (d % 50) = 28 ∨ C (tk (d / 50)) (d % 50) = 29) (hde : a_definition nm = nI (50 * tk (d / 50) + d % 50))
    (h1 : (∃ i, i < M u ∧ lk_Q (fun k => C (tk k)) (fun k => W (tk k)) k nm i ∧ ¬ lk_su (fun k => C (tk k)) (fun k => W (tk k)) d k i) → post 1) (h0 : (∀ i, i < M u → lk_Q (fun k => C (tk k)) (fun k => W (tk k)) k nm i → lk_su (fun k => C (tk k)) (fun k => W (tk k)) d k i) → post 0) : wpX_wantsWrongly post (f_draftCount, f_openCount, f_operandsDue, f_faultPlace, f_listCount, f_takenCount, f_culpritName, f_memorySize, f_operandCount, f_pendingCount, f_frameCount, f_next, f_outcome, f_lastResult, f_stepCount, a_draftKind, a_draftValue, a_draftPartner, a_openBlock, a_unitKind, a_unitValue, a_unitPartner, a_unitLength, a_listedUnit, a_listedAsLibrary, a_takenUnit, a_definition, a_isDuplicate, a_isWanted, a_codeKind, a_codeValue, a_codePartner, a_functionOf, a_placeOf, a_memory, a_operands, a_pendingToken, a_pendingDue, a_locals, a_returnTo) (nI u) (nI nm) := by
  obtain ⟨hL, hs, hT⟩ := hX u hu
  have e50 : nI u * 50 = nI (50 * u) := by rw [show (50 : Int32) = nI 50 from rfl, pk_mul, Nat.mul_comm]
  have eb : nI (50 * u) + a_unitLength (nI u).toNatClampNeg = nI (50 * u + M u) := by rw [nI_clamp (by omega), hs, nI_add]
  have eQ : ∀ i, lk_Q (fun k => C (tk k)) (fun k => W (tk k)) k nm i = ((C u i = 2 ∨ C u i = 3 ∨ C u i = 5) ∧ W u i % 16 = nm) := by
    intro i
    show ((C (tk k) i = 2 ∨ C (tk k) i = 3 ∨ C (tk k) i = 5) ∧ W (tk k) i % 16 = nm) = _
    rw [hk]
  have key : ∀ m t, t + m = M u → (∀ i, i < t → lk_Q (fun k => C (tk k)) (fun k => W (tk k)) k nm i → lk_su (fun k => C (tk k)) (fun k => W (tk k)) d k i) → wX_wantsWrongly_8 post (nI u) (nI nm) (nI (50 * u)) f_draftCount f_openCount f_operandsDue f_faultPlace f_listCount f_takenCount f_culpritName f_memorySize f_operandCount f_pendingCount f_frameCount f_next f_outcome f_lastResult f_stepCount a_draftKind a_draftValue a_draftPartner a_openBlock a_unitKind a_unitValue a_unitPartner a_unitLength a_listedUnit a_listedAsLibrary a_takenUnit a_definition a_isDuplicate a_isWanted a_codeKind a_codeValue a_codePartner a_functionOf a_placeOf a_memory a_operands a_pendingToken a_pendingDue a_locals a_returnTo (m + 1) (nI (50 * u + t)) := by
    intro m
    induction m with
    | zero =>
      intro t ht hok
      exact ⟨pk_in u 5 hu, br_t (by rw [eb]; exact nI_le (by omega) (by omega)) (h0 (fun i hi => hok i (by omega)))⟩
    | succ m ih =>
      intro t ht hok
      obtain ⟨a1, a2, a3⟩ := hT t (by omega)
      have hin : vp_in (nI (50 * u + t)) 250 := pk_in (50 * u + t) 250 (by omega)
      have ec : (nI (50 * u + t)).toNatClampNeg = 50 * u + t := nI_clamp (by omega)
      have hnext : (lk_Q (fun k => C (tk k)) (fun k => W (tk k)) k nm t → lk_su (fun k => C (tk k)) (fun k => W (tk k)) d k t) → wX_wantsWrongly_8 post (nI u) (nI nm) (nI (50 * u)) f_draftCount f_openCount f_operandsDue f_faultPlace f_listCount f_takenCount f_culpritName f_memorySize f_operandCount f_pendingCount f_frameCount f_next f_outcome f_lastResult f_stepCount a_draftKind a_draftValue a_draftPartner a_openBlock a_unitKind a_unitValue a_unitPartner a_unitLength a_listedUnit a_listedAsLibrary a_takenUnit a_definition a_isDuplicate a_isWanted a_codeKind a_codeValue a_codePartner a_functionOf a_placeOf a_memory a_operands a_pendingToken a_pendingDue a_locals a_returnTo (m + 1) (nI (50 * u + t) + 1) := by
        intro h
        rw [nI_1]
        exact ih (t + 1) (by omega) (fun i hi => by
          by_cases z : i = t
          · subst z; exact h
          · exact hok i (by omega))
      refine ⟨pk_in u 5 hu, br_f (by rw [eb]; exact nI_ge (by omega) (by omega)) ⟨hin, ?_⟩⟩
      rw [ec, a1]
      refine xt_isuse a2.1 (fun hq => br_f (by decide) ⟨hin, ?_⟩) (fun hq => br_t rfl (nm_e (hnext (fun z => absurd (by rw [eQ] at z; exact z.1) hq))))
      obtain ⟨v1, v2, v3⟩ := tw_U a2 hq
      show (_ → _) ∧ (_ → _)
      rw [tw_U16 a2 hq, a3]
      rw [a3] at v1 v2 v3
      refine pk_eq (W u t % 16) nm (fun e => ⟨pk_in nm 12 hnm, ?_⟩) (fun e => nm_e (hnext (fun z => absurd (by rw [eQ] at z; exact z.2) e)))
      have hQ : lk_Q (fun k => C (tk k)) (fun k => W (tk k)) k nm t := by rw [eQ]; exact ⟨hq, e⟩
      rw [nI_clamp (show nm < 2 ^ 31 by omega), hde]
      exact xl_suits (k := k) hu (by omega) hX hq hk h5 hd hdd (fun z => br_f (by decide) (nm_e (hnext (fun _ => z)))) (fun z => br_t rfl (h1 ⟨t, by omega, hQ, z⟩))
  refine nm_r e50 ⟨M u + 1, ?_⟩
  exact key (M u) 0 (by omega) (fun i h => absurd h (by omega))
theorem xl_want {post : Int32 → Prop} {n nm : Nat} (hn : n ≤ 5) (hnm : nm < 12) (hX : ∀ u, u < 5 → yr_R a_unitKind a_unitValue a_unitLength u (C u) (W u) (M u)) (htk : ∀ k, k < n → tk k < 5) (htu : ∀ k, k < n → a_takenUnit k = nI (tk k)) (hI : xt_I (fun k => C (tk k)) (fun k => W (tk k)) (fun k => M (tk k)) tk n a_definition a_isDuplicate a_isWanted) (hno : lk_u (fun k => C (tk k)) (fun k => W (tk k)) (fun k => M (tk k)) nm n = false)
    (hp : ∀ r, lk_R (fun k => C (tk k)) (fun k => W (tk k)) (fun k => M (tk k)) nm n r → post r) : wpX_wantFault post (f_draftCount, f_openCount, f_operandsDue, f_faultPlace, f_listCount, nI n, f_culpritName, f_memorySize, f_operandCount, f_pendingCount, f_frameCount, f_next, f_outcome, f_lastResult, f_stepCount, a_draftKind, a_draftValue, a_draftPartner, a_openBlock, a_unitKind, a_unitValue, a_unitPartner, a_unitLength, a_listedUnit, a_listedAsLibrary, a_takenUnit, a_definition, a_isDuplicate, a_isWanted, a_codeKind, a_codeValue, a_codePartner, a_functionOf, a_placeOf, a_memory, a_operands, a_pendingToken, a_pendingDue, a_locals, a_returnTo) (nI nm) := by
  obtain ⟨i1, i2, i3⟩ := hI nm hnm
  have hLk : ∀ k, k < n → M (tk k) ≤ 50 := fun k hk => (hX _ (htk k hk)).1
  have hag := @lk_agree (fun k => C (tk k)) (fun k => W (tk k)) (fun k => M (tk k)) nm n hLk
  rw [hag.2.1 hno] at i1
  have ecn : (nI nm).toNatClampNeg = nm := nI_clamp (by omega)
  have hin : vp_in (nI nm) 12 := pk_in nm 12 hnm
  refine ⟨hin, ?_⟩
  rw [ecn]
  refine br_c (fun z => hp 0 (Or.inl ⟨rfl, fun k hk i hi hq => absurd ⟨k, hk, i, hi, hq⟩ (i3.mp z)⟩)) (fun z => ⟨hin, ?_⟩)
  have hW : lk_W (fun k => C (tk k)) (fun k => W (tk k)) (fun k => M (tk k)) nm n := Classical.byContradiction (fun q => z (i3.mpr q))
  rw [i1]
  cases eb : lk_b (fun k => C (tk k)) (fun k => W (tk k)) (fun k => M (tk k)) nm n with
  | none => exact br_t rfl (hp 4 (Or.inr (Or.inl ⟨rfl, hW, eb⟩)))
  | some d =>
    have hd := lk_b_in hLk eb
    have h5 := htk _ hd.1
    have hdd : C (tk (d / 50)) (d % 50) = 28 ∨ C (tk (d / 50)) (d % 50) = 29 := hd.2.2.1
    have h50 := hLk _ hd.1
    rw [eb] at i1
    refine br_f (ba_m1 (by omega)) ⟨n + 1, ?_⟩
    have key : ∀ m k, k + m = n → (∀ k', k' < k → ∀ i, i < M (tk k') → lk_Q (fun k => C (tk k)) (fun k => W (tk k)) k' nm i → lk_su (fun k => C (tk k)) (fun k => W (tk k)) d k' i) → wX_wantFault_25 post (nI nm) f_draftCount f_openCount f_operandsDue f_faultPlace f_listCount (nI n) f_culpritName f_memorySize f_operandCount f_pendingCount f_frameCount f_next f_outcome f_lastResult f_stepCount a_draftKind a_draftValue a_draftPartner a_openBlock a_unitKind a_unitValue a_unitPartner a_unitLength a_listedUnit a_listedAsLibrary a_takenUnit a_definition a_isDuplicate a_isWanted a_codeKind a_codeValue a_codePartner a_functionOf a_placeOf a_memory a_operands a_pendingToken a_pendingDue a_locals a_returnTo (m + 1) (nI k) := by
      intro m
      induction m with
      | zero =>
        intro k hk hok
        exact br_t (nI_le (by omega) (by omega)) (hp 0 (Or.inl ⟨rfl, fun k' hk' i hi hq => ⟨d, eb, hok k' (by omega) i hi hq⟩⟩))
      | succ m ih =>
        intro k hk hok
        refine br_f (nI_ge (by omega) (by omega)) ⟨pk_in k 5 (by omega), ?_⟩
        rw [nI_clamp (show k < 2 ^ 31 by omega), htu k (by omega)]
        refine xl_wrong (k := k) (htk k (by omega)) hnm hX rfl h5 hd.2.1 hdd i1 (fun ⟨i, a, b, c⟩ => br_f (by decide) (hp 5 (Or.inr (Or.inr ⟨rfl, d, eb, k, by omega, i, a, b, c⟩)))) (fun h => br_t rfl (nm_r (nI_1 k) (ih (k + 1) (by omega) (fun k' hk' => ?_))))
        by_cases y : k' = k
        · subst y; exact h
        · exact hok k' (by omega)
    exact key n 0 (by omega) (fun k h => absurd h (by omega))
theorem xl_words {post : Int32 → Prop} {n : Nat} (hX : ∀ u, u < 5 → yr_R a_unitKind a_unitValue a_unitLength u (C u) (W u) (M u)) (htk : ∀ k, k < n → tk k < 5) (hI : xt_I (fun k => C (tk k)) (fun k => W (tk k)) (fun k => M (tk k)) tk n a_definition a_isDuplicate a_isWanted) (hno : ∀ nm, nm < 12 → lk_u (fun k => C (tk k)) (fun k => W (tk k)) (fun k => M (tk k)) nm n = false)
    (hp : post (nI (lk_o (fun k => C (tk k)) (fun k => W (tk k)) (fun k => M (tk k)) n (50 * n)))) : wpX_wordsNeeded post (f_draftCount, f_openCount, f_operandsDue, f_faultPlace, f_listCount, f_takenCount, f_culpritName, f_memorySize, f_operandCount, f_pendingCount, f_frameCount, f_next, f_outcome, f_lastResult, f_stepCount, a_draftKind, a_draftValue, a_draftPartner, a_openBlock, a_unitKind, a_unitValue, a_unitPartner, a_unitLength, a_listedUnit, a_listedAsLibrary, a_takenUnit, a_definition, a_isDuplicate, a_isWanted, a_codeKind, a_codeValue, a_codePartner, a_functionOf, a_placeOf, a_memory, a_operands, a_pendingToken, a_pendingDue, a_locals, a_returnTo) := by
  have hLk : ∀ k, k < n → M (tk k) ≤ 50 := fun k hk => (hX _ (htk k hk)).1
  rw [← lk_sum (K := fun k => C (tk k)) (V := fun k => W (tk k)) (L := fun k => M (tk k)) hLk (fun k hk i hi he => by
    obtain ⟨_, a2, a3⟩ := (hX _ (htk k hk)).2.2 i hi
    have := tw_V a2 (Or.inr he)
    rw [a3] at this
    exact this.2.2) (50 * n) (Nat.le_refl _)] at hp
  have key : ∀ m nm, nm + m = 12 → wX_wordsNeeded_4 post f_draftCount f_openCount f_operandsDue f_faultPlace f_listCount f_takenCount f_culpritName f_memorySize f_operandCount f_pendingCount f_frameCount f_next f_outcome f_lastResult f_stepCount a_draftKind a_draftValue a_draftPartner a_openBlock a_unitKind a_unitValue a_unitPartner a_unitLength a_listedUnit a_listedAsLibrary a_takenUnit a_definition a_isDuplicate a_isWanted a_codeKind a_codeValue a_codePartner a_functionOf a_placeOf a_memory a_operands a_pendingToken a_pendingDue a_locals a_returnTo (m + 1) (nI (sm (lk_n (fun k => C (tk k)) (fun k => W (tk k)) (fun k => M (tk k)) n (50 * n)) nm)) (nI nm) := by
    intro m
    induction m with
    | zero =>
      intro nm hm
      have e : nm = 12 := by omega
      subst e
      exact br_t (by decide) hp
    | succ m ih =>
      intro nm hm
      obtain ⟨i1, i2, i3⟩ := hI nm (by omega)
      have hag := @lk_agree (fun k => C (tk k)) (fun k => W (tk k)) (fun k => M (tk k)) nm n hLk
      rw [hag.2.1 (hno nm (by omega))] at i1
      have ecn : (nI nm).toNatClampNeg = nm := nI_clamp (by omega)
      have hin : vp_in (nI nm) 12 := pk_in nm 12 (by omega)
      have ihn := ih (nm + 1) (by omega)
      rw [show sm (lk_n (fun k => C (tk k)) (fun k => W (tk k)) (fun k => M (tk k)) n (50 * n)) (nm + 1) = sm (lk_n (fun k => C (tk k)) (fun k => W (tk k)) (fun k => M (tk k)) n (50 * n)) nm + lk_n (fun k => C (tk k)) (fun k => W (tk k)) (fun k => M (tk k)) n (50 * n) nm from rfl] at ihn
      refine br_f (nI_ge (b := 12) (by omega) (by omega)) ⟨hin, nm_r (e' := xe tk (lk_b (fun k => C (tk k)) (fun k => W (tk k)) (fun k => M (tk k)) nm n)) (by rw [ecn, i1]) ?_⟩
      cases eb : lk_b (fun k => C (tk k)) (fun k => W (tk k)) (fun k => M (tk k)) nm n with
      | none =>
        have e0 : lk_n (fun k => C (tk k)) (fun k => W (tk k)) (fun k => M (tk k)) n (50 * n) nm = 0 := by unfold lk_n; rw [eb]
        rw [e0] at ihn
        exact br_t rfl (nm_r (nI_1 nm) ihn)
      | some d =>
        have hd := lk_b_in hLk eb
        have h5 := htk _ hd.1
        have h50 : M (tk (d / 50)) ≤ 50 := hLk _ hd.1
        have hd2 : d % 50 < M (tk (d / 50)) := hd.2.1
        obtain ⟨b1, b2, b3⟩ := (hX _ h5).2.2 _ hd2
        have hind : vp_in (nI (50 * tk (d / 50) + d % 50)) 250 := pk_in (50 * tk (d / 50) + d % 50) 250 (by omega)
        have ecd : (nI (50 * tk (d / 50) + d % 50)).toNatClampNeg = 50 * tk (d / 50) + d % 50 := nI_clamp (by omega)
        have en : lk_n (fun k => C (tk k)) (fun k => W (tk k)) (fun k => M (tk k)) n (50 * n) nm = if C (tk (d / 50)) (d % 50) = 29 ∧ d < 50 * n then lk_z (fun k => W (tk k)) d else 0 := by unfold lk_n; rw [eb]
        have h9 := b2.1
        refine br_f (ba_m1 (by omega)) ⟨hind, ?_⟩
        show (a_unitKind (nI (50 * tk (d / 50) + d % 50)).toNatClampNeg = 29 → _) ∧ (¬ a_unitKind (nI (50 * tk (d / 50) + d % 50)).toNatClampNeg = 29 → _)
        rw [ecd, b1]
        refine pk_eq (C (tk (d / 50)) (d % 50)) 29 (fun e => ⟨hind, ?_⟩) (fun e => ?_)
        · obtain ⟨v1, v2, v3⟩ := tw_V b2 (Or.inr e)
          rw [b3] at v1 v2 v3
          show ∀ x, x = nI (sm _ nm) + (((a_unitValue (nI (50 * tk (d / 50) + d % 50)).toNatClampNeg >>> ((4 : Int32) &&& 31)) &&& 7) + 1) → _
          rw [en, if_pos ⟨e, by omega⟩] at ihn
          refine nm_r (by rw [ecd, v1, ba_sz (by omega), nI_1, nI_add]; rfl) (nm_r (nI_1 nm) ihn)
        · rw [en, if_neg (fun z => e z.1)] at ihn
          exact nm_r (nI_1 nm) ihn
  exact ⟨13, key 12 0 (by omega)⟩
theorem xl_fault {post : Int32 → SX → Prop} {n : Nat} (hn : n ≤ 5) (hX : ∀ u, u < 5 → yr_R a_unitKind a_unitValue a_unitLength u (C u) (W u) (M u)) (htk : ∀ k, k < n → tk k < 5) (htu : ∀ k, k < n → a_takenUnit k = nI (tk k)) (hI : xt_I (fun k => C (tk k)) (fun k => W (tk k)) (fun k => M (tk k)) tk n a_definition a_isDuplicate a_isWanted)
    (hp : ∀ r cul, lk_Z (fun k => C (tk k)) (fun k => W (tk k)) (fun k => M (tk k)) n r cul → post r (f_draftCount, f_openCount, f_operandsDue, f_faultPlace, f_listCount, nI n, cul, f_memorySize, f_operandCount, f_pendingCount, f_frameCount, f_next, f_outcome, f_lastResult, f_stepCount, a_draftKind, a_draftValue, a_draftPartner, a_openBlock, a_unitKind, a_unitValue, a_unitPartner, a_unitLength, a_listedUnit, a_listedAsLibrary, a_takenUnit, a_definition, a_isDuplicate, a_isWanted, a_codeKind, a_codeValue, a_codePartner, a_functionOf, a_placeOf, a_memory, a_operands, a_pendingToken, a_pendingDue, a_locals, a_returnTo)) : wpX_linkFault post (f_draftCount, f_openCount, f_operandsDue, f_faultPlace, f_listCount, nI n, -1, f_memorySize, f_operandCount, f_pendingCount, f_frameCount, f_next, f_outcome, f_lastResult, f_stepCount, a_draftKind, a_draftValue, a_draftPartner, a_openBlock, a_unitKind, a_unitValue, a_unitPartner, a_unitLength, a_listedUnit, a_listedAsLibrary, a_takenUnit, a_definition, a_isDuplicate, a_isWanted, a_codeKind, a_codeValue, a_codePartner, a_functionOf, a_placeOf, a_memory, a_operands, a_pendingToken, a_pendingDue, a_locals, a_returnTo) := by
  have hLk : ∀ k, k < n → M (tk k) ≤ 50 := fun k hk => (hX _ (htk k hk)).1
  have hag := fun nm => @lk_agree (fun k => C (tk k)) (fun k => W (tk k)) (fun k => M (tk k)) nm n hLk
  have hu2 : ∀ nm, lk_u (fun k => C (tk k)) (fun k => W (tk k)) (fun k => M (tk k)) nm n = false ↔ lk_s (fun k => C (tk k)) (fun k => W (tk k)) (fun k => M (tk k)) nm n < 2 := by
    intro nm
    have := (hag nm).2.2.2.2.2
    cases e : lk_u (fun k => C (tk k)) (fun k => W (tk k)) (fun k => M (tk k)) nm n with
    | false =>
      rw [e] at this
      exact ⟨fun _ => Nat.not_le.mp (fun q => nomatch this.mpr q), fun _ => rfl⟩
    | true =>
      rw [e] at this
      have := this.mp rfl
      exact ⟨fun q => (nomatch q), fun q => absurd q (by omega)⟩
  have h32 : (∀ nm, nm < 12 → lk_s (fun k => C (tk k)) (fun k => W (tk k)) (fun k => M (tk k)) nm n < 2) → ∀ m nm, nm + m = 12 → (∀ q, q < nm → lk_R (fun k => C (tk k)) (fun k => W (tk k)) (fun k => M (tk k)) q n 0) → wX_linkFault_32 post f_draftCount f_openCount f_operandsDue f_faultPlace f_listCount (nI n) (-1) f_memorySize f_operandCount f_pendingCount f_frameCount f_next f_outcome f_lastResult f_stepCount a_draftKind a_draftValue a_draftPartner a_openBlock a_unitKind a_unitValue a_unitPartner a_unitLength a_listedUnit a_listedAsLibrary a_takenUnit a_definition a_isDuplicate a_isWanted a_codeKind a_codeValue a_codePartner a_functionOf a_placeOf a_memory a_operands a_pendingToken a_pendingDue a_locals a_returnTo (m + 1) (nI nm) := by
    intro hs m
    induction m with
    | zero =>
      intro nm hm hall
      have hle := @lk_o_le (fun k => C (tk k)) (fun k => W (tk k)) (fun k => M (tk k)) n (50 * n)
      refine br_t (nI_le (a := 12) (by omega) (by omega)) (xl_words hX htk hI (fun q hq => (hu2 q).mpr (hs q hq)) (pk_le (lk_o (fun k => C (tk k)) (fun k => W (tk k)) (fun k => M (tk k)) n (50 * n)) 48 (fun h => ?_) (fun h => ?_)))
      · exact hp 0 (-1) (Or.inr ⟨hs, Or.inr ⟨fun q hq => hall q (by omega), rfl, Or.inr ⟨h, rfl⟩⟩⟩)
      · exact hp 6 (-1) (Or.inr ⟨hs, Or.inr ⟨fun q hq => hall q (by omega), rfl, Or.inl ⟨h, rfl⟩⟩⟩)
    | succ m ih =>
      intro nm hm hall
      refine br_f (nI_ge (b := 12) (by omega) (by omega)) (xl_want hn (by omega) hX htk htu hI ((hu2 nm).mpr (hs nm (by omega))) (fun r hr => br_c (fun z => nm_r (nI_1 nm) (ih (nm + 1) (by omega) (fun q hq => ?_))) (fun z => hp r (nI nm) (Or.inr ⟨hs, Or.inl ⟨nm, by omega, z, hr, hall, rfl⟩⟩))))
      by_cases y : q = nm
      · rw [y, ← z]; exact hr
      · exact hall q (by omega)
  have h2 : ∀ m nm, nm + m = 12 → (∀ q, q < nm → lk_s (fun k => C (tk k)) (fun k => W (tk k)) (fun k => M (tk k)) q n < 2) → wX_linkFault_2 post f_draftCount f_openCount f_operandsDue f_faultPlace f_listCount (nI n) (-1) f_memorySize f_operandCount f_pendingCount f_frameCount f_next f_outcome f_lastResult f_stepCount a_draftKind a_draftValue a_draftPartner a_openBlock a_unitKind a_unitValue a_unitPartner a_unitLength a_listedUnit a_listedAsLibrary a_takenUnit a_definition a_isDuplicate a_isWanted a_codeKind a_codeValue a_codePartner a_functionOf a_placeOf a_memory a_operands a_pendingToken a_pendingDue a_locals a_returnTo (m + 1) (nI nm) := by
    intro m
    induction m with
    | zero =>
      intro nm hm hall
      exact br_t (nI_le (a := 12) (by omega) (by omega)) ⟨13, h32 (fun q hq => hall q (by omega)) 12 0 (by omega) (fun q h => absurd h (by omega))⟩
    | succ m ih =>
      intro nm hm hall
      have ecn : (nI nm).toNatClampNeg = nm := nI_clamp (by omega)
      obtain ⟨i1, i2, i3⟩ := hI nm (by omega)
      refine br_f (nI_ge (b := 12) (by omega) (by omega)) ⟨pk_in nm 12 (by omega), ?_⟩
      rw [ecn]
      refine br_c (fun z => nm_r (nI_1 nm) (ih (nm + 1) (by omega) (fun q hq => ?_))) (fun z => hp 3 (nI nm) (Or.inl ⟨nm, by omega, ?_, hall, rfl, rfl⟩))
      · by_cases y : q = nm
        · rw [y]; exact (hu2 nm).mp (i2.mp z)
        · exact hall q (by omega)
      · exact Nat.not_lt.mp (fun q => z (i2.mpr ((hu2 nm).mpr q)))
  exact ⟨13, h2 12 0 (by omega) (fun q h => absurd h (by omega))⟩
end
end
section
/-! link as a whole, on the component's side -/
def lk_q (K V : Nat → Nat → Nat) (L tk : Nat → Nat) (n c nm : Nat) : Int32 := match lk_b K V L nm n with
  | none => -1
  | some d => if K (d / 50) (d % 50) = 28 ∧ d < c then nI (50 * tk (d / 50) + d % 50) else -1
theorem lk_q_no {K V : Nat → Nat → Nat} {L tk : Nat → Nat} {n c nm : Nat} (hL : ∀ k, k < n → L k ≤ 50) (h : ¬ (c % 50 < L (c / 50) ∧ K (c / 50) (c % 50) = 28 ∧ lk_b K V L (V (c / 50) (c % 50) % 16) n = some c)) : lk_q K V L tk n (c + 1) nm = lk_q K V L tk n c nm := by
  unfold lk_q
  cases e : lk_b K V L nm n with
  | none => rfl
  | some d =>
    have hd := lk_b_in hL e
    show (if _ then _ else _) = (if _ then _ else _)
    by_cases z : K (d / 50) (d % 50) = 28 ∧ d < c
    · rw [if_pos z, if_pos ⟨z.1, by omega⟩]
    · rw [if_neg z]
      refine if_neg (fun q => ?_)
      have e2 : d = c := by omega
      subst e2
      refine h ⟨hd.2.1, q.1, ?_⟩
      rw [hd.2.2.2]; exact e
theorem lk_q_yes {K V : Nat → Nat → Nat} {L tk : Nat → Nat} {n c nm : Nat} (hL : ∀ k, k < n → L k ≤ 50) (h1 : K (c / 50) (c % 50) = 28) (h2 : lk_b K V L (V (c / 50) (c % 50) % 16) n = some c) : lk_q K V L tk n (c + 1) nm = if nm = V (c / 50) (c % 50) % 16 then nI (50 * tk (c / 50) + c % 50) else lk_q K V L tk n c nm := by
  by_cases z : nm = V (c / 50) (c % 50) % 16
  · rw [if_pos z]
    unfold lk_q
    rw [z, h2]
    exact if_pos ⟨h1, by omega⟩
  · rw [if_neg z]
    unfold lk_q
    cases e : lk_b K V L nm n with
    | none => rfl
    | some d =>
      have hd := lk_b_in hL e
      show (if _ then _ else _) = (if _ then _ else _)
      have : d ≠ c := fun q => by subst q; exact z hd.2.2.2.symm
      by_cases y : K (d / 50) (d % 50) = 28 ∧ d < c
      · rw [if_pos y, if_pos ⟨y.1, by omega⟩]
      · rw [if_neg y, if_neg (fun q => y ⟨q.1, by omega⟩)]
theorem lk_q_0 {K V : Nat → Nat → Nat} {L tk : Nat → Nat} {n nm : Nat} : lk_q K V L tk n 0 nm = -1 := by
  unfold lk_q
  split
  · rfl
  · exact if_neg (fun q => absurd q.2 (Nat.not_lt_zero _))
def xl_V (K V : Nat → Nat → Nat) (L tk : Nat → Nat) (n : Nat) (val : Nat → Int32) (c : Nat) (ms : Int32) (fo po mem : Nat → Int32) : Prop := ms = nI (lk_o K V L n c) ∧ (∀ nm, nm < 12 → po nm = lk_p K V L n c nm ∧ fo nm = lk_q K V L tk n c nm) ∧ lk_m K V L n val c mem
theorem xl_V_skip {K V : Nat → Nat → Nat} {L tk : Nat → Nat} {n : Nat} {val : Nat → Int32} {c : Nat} {ms : Int32} {fo po mem : Nat → Int32} (hL : ∀ k, k < n → L k ≤ 50) (h : xl_V K V L tk n val c ms fo po mem) (hd : lk_dt K V L n c = false) (hf : ¬ (c % 50 < L (c / 50) ∧ K (c / 50) (c % 50) = 28 ∧ lk_b K V L (V (c / 50) (c % 50) % 16) n = some c)) : xl_V K V L tk n val (c + 1) ms fo po mem := by
  obtain ⟨a, b, d⟩ := h
  refine ⟨by rw [lk_o_no hd]; exact a, fun nm hnm => ?_, lk_m_no hd d⟩
  rw [lk_p_no hL hd, lk_q_no hL hf]
  exact b nm hnm
theorem xl_V_tail {K V : Nat → Nat → Nat} {L tk : Nat → Nat} {n : Nat} {val : Nat → Int32} {k : Nat} {ms : Int32} {fo po mem : Nat → Int32} (hL : ∀ k, k < n → L k ≤ 50) (hk : k < n) (h : xl_V K V L tk n val (50 * k + L k) ms fo po mem) : xl_V K V L tk n val (50 * (k + 1)) ms fo po mem := by
  have key : ∀ m, L k + m ≤ 50 → xl_V K V L tk n val (50 * k + (L k + m)) ms fo po mem := by
    intro m
    induction m with
    | zero => exact fun _ => h
    | succ m ih =>
      intro hm
      have h1 := ih (by omega)
      have e1 : (50 * k + (L k + m)) / 50 = k := by omega
      have e2 : (50 * k + (L k + m)) % 50 = L k + m := by omega
      have hn : ¬ (50 * k + (L k + m)) % 50 < L ((50 * k + (L k + m)) / 50) := by rw [e1, e2]; omega
      exact xl_V_skip hL h1 (decide_eq_false (fun q => hn q.1)) (fun q => hn q.1)
  have := hL k hk
  have h2 := key (50 - L k) (by omega)
  rw [show 50 * k + (L k + (50 - L k)) = 50 * (k + 1) by omega] at h2
  exact h2
section
variable {f_draftCount f_openCount f_operandsDue f_faultPlace f_listCount f_takenCount f_culpritName f_memorySize f_operandCount f_pendingCount f_frameCount f_next f_outcome f_lastResult f_stepCount : Int32} {a_draftKind a_draftValue a_draftPartner a_openBlock a_unitKind a_unitValue a_unitPartner a_unitLength a_listedUnit a_listedAsLibrary a_takenUnit a_definition a_isDuplicate a_isWanted a_codeKind a_codeValue a_codePartner a_functionOf a_placeOf a_memory a_operands a_pendingToken a_pendingDue a_locals a_returnTo : Nat → Int32}
variable {C W : Nat → Nat → Nat} {M tk : Nat → Nat}
theorem xl_copy {post : SX → Prop} (hp : ∀ ck cv cp, (∀ j, j < 250 → ck j = a_unitKind j ∧ cv j = a_unitValue j ∧ cp j = a_unitPartner j) → post (f_draftCount, f_openCount, f_operandsDue, f_faultPlace, f_listCount, f_takenCount, f_culpritName, f_memorySize, f_operandCount, f_pendingCount, f_frameCount, f_next, f_outcome, f_lastResult, f_stepCount, a_draftKind, a_draftValue, a_draftPartner, a_openBlock, a_unitKind, a_unitValue, a_unitPartner, a_unitLength, a_listedUnit, a_listedAsLibrary, a_takenUnit, a_definition, a_isDuplicate, a_isWanted, ck, cv, cp, a_functionOf, a_placeOf, a_memory, a_operands, a_pendingToken, a_pendingDue, a_locals, a_returnTo)) : wpX_copyUnits post (f_draftCount, f_openCount, f_operandsDue, f_faultPlace, f_listCount, f_takenCount, f_culpritName, f_memorySize, f_operandCount, f_pendingCount, f_frameCount, f_next, f_outcome, f_lastResult, f_stepCount, a_draftKind, a_draftValue, a_draftPartner, a_openBlock, a_unitKind, a_unitValue, a_unitPartner, a_unitLength, a_listedUnit, a_listedAsLibrary, a_takenUnit, a_definition, a_isDuplicate, a_isWanted, a_codeKind, a_codeValue, a_codePartner, a_functionOf, a_placeOf, a_memory, a_operands, a_pendingToken, a_pendingDue, a_locals, a_returnTo) := by
  have key : ∀ m t ck cv cp, t + m = 250 → (∀ j, j < t → ck j = a_unitKind j ∧ cv j = a_unitValue j ∧ cp j = a_unitPartner j) → wX_copyUnits_2 post f_draftCount f_openCount f_operandsDue f_faultPlace f_listCount f_takenCount f_culpritName f_memorySize f_operandCount f_pendingCount f_frameCount f_next f_outcome f_lastResult f_stepCount (m + 1) (nI t) a_draftKind a_draftValue a_draftPartner a_openBlock a_unitKind a_unitValue a_unitPartner a_unitLength a_listedUnit a_listedAsLibrary a_takenUnit a_definition a_isDuplicate a_isWanted ck cv cp a_functionOf a_placeOf a_memory a_operands a_pendingToken a_pendingDue a_locals a_returnTo := by
    intro m
    induction m with
    | zero =>
      intro t ck cv cp ht h
      exact br_t (nI_le (a := 250) (by omega) (by omega)) (hp ck cv cp (fun j hj => h j (by omega)))
    | succ m ih =>
      intro t ck cv cp ht h
      have hin : vp_in (nI t) 250 := pk_in t 250 (by omega)
      have ec : (nI t).toNatClampNeg = t := nI_clamp (by omega)
      refine br_f (nI_ge (b := 250) (by omega) (by omega)) ⟨hin, hin, nm_r (e' := upd ck t (a_unitKind t)) (by rw [ec]) ⟨hin, hin, nm_r (e' := upd cv t (a_unitValue t)) (by rw [ec]) ⟨hin, hin, nm_r (e' := upd cp t (a_unitPartner t)) (by rw [ec]) (nm_r (nI_1 t) (ih (t + 1) _ _ _ (by omega) (fun j hj => ?_)))⟩⟩⟩
      by_cases z : j = t
      · rw [z, pk_us, pk_us, pk_us]; exact ⟨rfl, rfl, rfl⟩
      · rw [pk_un z, pk_un z, pk_un z]; exact h j (by omega)
  exact ⟨251, key 250 0 a_codeKind a_codeValue a_codePartner (by omega) (fun j h => absurd h (by omega))⟩
theorem xl_clear {post : SX → Prop} (hp : ∀ fo po, (∀ nm, nm < 12 → fo nm = -1 ∧ po nm = -1) → post (f_draftCount, f_openCount, f_operandsDue, f_faultPlace, f_listCount, f_takenCount, f_culpritName, 0, f_operandCount, f_pendingCount, f_frameCount, f_next, f_outcome, f_lastResult, f_stepCount, a_draftKind, a_draftValue, a_draftPartner, a_openBlock, a_unitKind, a_unitValue, a_unitPartner, a_unitLength, a_listedUnit, a_listedAsLibrary, a_takenUnit, a_definition, a_isDuplicate, a_isWanted, a_codeKind, a_codeValue, a_codePartner, fo, po, a_memory, a_operands, a_pendingToken, a_pendingDue, a_locals, a_returnTo)) : wpX_clearLinkedNames post (f_draftCount, f_openCount, f_operandsDue, f_faultPlace, f_listCount, f_takenCount, f_culpritName, f_memorySize, f_operandCount, f_pendingCount, f_frameCount, f_next, f_outcome, f_lastResult, f_stepCount, a_draftKind, a_draftValue, a_draftPartner, a_openBlock, a_unitKind, a_unitValue, a_unitPartner, a_unitLength, a_listedUnit, a_listedAsLibrary, a_takenUnit, a_definition, a_isDuplicate, a_isWanted, a_codeKind, a_codeValue, a_codePartner, a_functionOf, a_placeOf, a_memory, a_operands, a_pendingToken, a_pendingDue, a_locals, a_returnTo) := by
  have key : ∀ m t fo po, t + m = 12 → (∀ nm, nm < t → fo nm = -1 ∧ po nm = -1) → wX_clearLinkedNames_7 post f_draftCount f_openCount f_operandsDue f_faultPlace f_listCount f_takenCount f_culpritName 0 f_operandCount f_pendingCount f_frameCount f_next f_outcome f_lastResult f_stepCount (m + 1) (nI t) a_draftKind a_draftValue a_draftPartner a_openBlock a_unitKind a_unitValue a_unitPartner a_unitLength a_listedUnit a_listedAsLibrary a_takenUnit a_definition a_isDuplicate a_isWanted a_codeKind a_codeValue a_codePartner fo po a_memory a_operands a_pendingToken a_pendingDue a_locals a_returnTo := by
    intro m
    induction m with
    | zero =>
      intro t fo po ht h
      exact br_t (nI_le (a := 12) (by omega) (by omega)) (hp fo po (fun j hj => h j (by omega)))
    | succ m ih =>
      intro t fo po ht h
      have hin : vp_in (nI t) 12 := pk_in t 12 (by omega)
      have ec : (nI t).toNatClampNeg = t := nI_clamp (by omega)
      refine br_f (nI_ge (b := 12) (by omega) (by omega)) ⟨hin, nm_r (e' := upd fo t (-1)) (by rw [ec]) ⟨hin, nm_r (e' := upd po t (-1)) (by rw [ec]) (nm_r (nI_1 t) (ih (t + 1) _ _ (by omega) (fun j hj => ?_)))⟩⟩
      by_cases z : j = t
      · rw [z, pk_us, pk_us]; exact ⟨rfl, rfl⟩
      · rw [pk_un z, pk_un z]; exact h j (by omega)
  exact ⟨13, key 12 0 a_functionOf a_placeOf (by omega) (fun j h => absurd h (by omega))⟩
theorem xl_place {post : SX → Prop} {a o z nm : Nat} {v : Int32} (ha : a < 249) (ho : o + z ≤ 48) (hnm : nm < 12) (e15 : a_codeValue a &&& 15 = nI nm) (ez : ((a_codeValue a >>> ((4 : Int32) &&& 31)) &&& 7) + 1 = nI z) (hv : a_codeValue (a + 1) = v)
    (hp : ∀ mem, (∀ j, j < o → mem j = a_memory j) → (∀ s, s < z → mem (o + s) = v) → post (f_draftCount, f_openCount, f_operandsDue, f_faultPlace, f_listCount, f_takenCount, f_culpritName, nI (o + z), f_operandCount, f_pendingCount, f_frameCount, f_next, f_outcome, f_lastResult, f_stepCount, a_draftKind, a_draftValue, a_draftPartner, a_openBlock, a_unitKind, a_unitValue, a_unitPartner, a_unitLength, a_listedUnit, a_listedAsLibrary, a_takenUnit, a_definition, a_isDuplicate, a_isWanted, a_codeKind, a_codeValue, a_codePartner, a_functionOf, upd a_placeOf nm (nI o), mem, a_operands, a_pendingToken, a_pendingDue, a_locals, a_returnTo)) : wpX_placeData post (f_draftCount, f_openCount, f_operandsDue, f_faultPlace, f_listCount, f_takenCount, f_culpritName, nI o, f_operandCount, f_pendingCount, f_frameCount, f_next, f_outcome, f_lastResult, f_stepCount, a_draftKind, a_draftValue, a_draftPartner, a_openBlock, a_unitKind, a_unitValue, a_unitPartner, a_unitLength, a_listedUnit, a_listedAsLibrary, a_takenUnit, a_definition, a_isDuplicate, a_isWanted, a_codeKind, a_codeValue, a_codePartner, a_functionOf, a_placeOf, a_memory, a_operands, a_pendingToken, a_pendingDue, a_locals, a_returnTo) (nI a) := by
  have hin : vp_in (nI a) 250 := pk_in a 250 (by omega)
  have ec : (nI a).toNatClampNeg = a := nI_clamp (by omega)
  have e1 : nI a + 1 = nI (a + 1) := nI_1 a
  have key : ∀ m w mem, w + m = z → (∀ j, j < o → mem j = a_memory j) → (∀ s, s < w → mem (o + s) = v) → wX_placeData_30 post (nI a) (nI z) f_draftCount f_openCount f_operandsDue f_faultPlace f_listCount f_takenCount f_culpritName f_operandCount f_pendingCount f_frameCount f_next f_outcome f_lastResult f_stepCount (m + 1) (nI w) (nI (o + w)) a_draftKind a_draftValue a_draftPartner a_openBlock a_unitKind a_unitValue a_unitPartner a_unitLength a_listedUnit a_listedAsLibrary a_takenUnit a_definition a_isDuplicate a_isWanted a_codeKind a_codeValue a_codePartner a_functionOf (upd a_placeOf nm (nI o)) mem a_operands a_pendingToken a_pendingDue a_locals a_returnTo := by
    intro m
    induction m with
    | zero =>
      intro w mem hw h1 h2
      have e : w = z := by omega
      subst e
      exact br_t (nI_le (Nat.le_refl _) (by omega)) (hp mem h1 h2)
    | succ m ih =>
      intro w mem hw h1 h2
      refine br_f (nI_ge (by omega) (by omega)) (br_f (nI_ge (b := 48) (by omega) (by omega)) ⟨pk_in (a + 1) 250 (by omega) e1, pk_in (o + w) 48 (by omega), nm_r (e' := upd mem (o + w) v) (by rw [nI_clamp (by omega), e1, nI_clamp (by omega), hv]) (nm_r (nI_1 _) (nm_r (nI_1 w) (ih (w + 1) _ (by omega) (fun j hj => by rw [pk_un (by omega)]; exact h1 j hj) (fun s hs => ?_))))⟩)
      by_cases q : s = w
      · rw [q, pk_us]
      · rw [pk_un (by omega)]; exact h2 s (by omega)
  refine ⟨hin, ?_⟩
  show vp_in _ 12 ∧ _
  rw [ec, e15]
  refine ⟨pk_in nm 12 hnm, nm_r (e' := upd a_placeOf nm (nI o)) (by rw [nI_clamp (by omega)]) ⟨hin, ?_⟩⟩
  show ∃ n30, _
  rw [ez]
  exact ⟨z + 1, key z 0 a_memory (by omega) (fun j _ => rfl) (fun s h => absurd h (by omega))⟩
theorem xl_row {post : SX → Prop} {J : Int32 → Int32 → Int32 → Int32 → Int32 → Int32 → Int32 → Int32 → Int32 → Int32 → Int32 → Int32 → Int32 → Int32 → Int32 → Int32 → (Nat → Int32) → (Nat → Int32) → (Nat → Int32) → (Nat → Int32) → (Nat → Int32) → (Nat → Int32) → (Nat → Int32) → (Nat → Int32) → (Nat → Int32) → (Nat → Int32) → (Nat → Int32) → (Nat → Int32) → (Nat → Int32) → (Nat → Int32) → (Nat → Int32) → (Nat → Int32) → (Nat → Int32) → (Nat → Int32) → (Nat → Int32) → (Nat → Int32) → (Nat → Int32) → (Nat → Int32) → (Nat → Int32) → (Nat → Int32) → (Nat → Int32) → Prop} {n k : Nat} (hn : n ≤ 5) (hk : k < n) (hX : ∀ u, u < 5 → yr_R a_unitKind a_unitValue a_unitLength u (C u) (W u) (M u)) (hDN : ∀ u, u < 5 → ∀ t, t < M u → C u t = 29 → t + 1 < M u) (htk : ∀ k, k < n → tk k < 5) (hinj : ∀ k k', k < n → k' < n → tk k = tk k' → k = k') (htu : ∀ k, k < n → a_takenUnit k = nI (tk k))
    (hco : ∀ j, j < 250 → a_codeKind j = a_unitKind j ∧ a_codeValue j = a_unitValue j) (hde : ∀ nm, nm < 12 → a_definition nm = xe tk (lk_b (fun k => C (tk k)) (fun k => W (tk k)) (fun k => M (tk k)) nm n)) (hw : lk_o (fun k => C (tk k)) (fun k => W (tk k)) (fun k => M (tk k)) n (50 * n) ≤ 48)
    (hJ : ∀ ms fo po mem, xl_V (fun k => C (tk k)) (fun k => W (tk k)) (fun k => M (tk k)) tk n (fun d => a_unitValue (50 * tk (d / 50) + d % 50 + 1)) (50 * (k + 1)) ms fo po mem → J (nI (k + 1)) f_draftCount f_openCount f_operandsDue f_faultPlace f_listCount f_takenCount f_culpritName ms f_operandCount f_pendingCount f_frameCount f_next f_outcome f_lastResult f_stepCount a_draftKind a_draftValue a_draftPartner a_openBlock a_unitKind a_unitValue a_unitPartner a_unitLength a_listedUnit a_listedAsLibrary a_takenUnit a_definition a_isDuplicate a_isWanted a_codeKind a_codeValue a_codePartner fo po mem a_operands a_pendingToken a_pendingDue a_locals a_returnTo) :
    ∀ m t ms fo po mem, t + m = M (tk k) → xl_V (fun k => C (tk k)) (fun k => W (tk k)) (fun k => M (tk k)) tk n (fun d => a_unitValue (50 * tk (d / 50) + d % 50 + 1)) (50 * k + t) ms fo po mem → wX_linkNames_26 post J (nI k) (nI (50 * tk k)) (m + 1) (nI (50 * tk k + t)) f_draftCount f_openCount f_operandsDue f_faultPlace f_listCount f_takenCount f_culpritName ms f_operandCount f_pendingCount f_frameCount f_next f_outcome f_lastResult f_stepCount a_draftKind a_draftValue a_draftPartner a_openBlock a_unitKind a_unitValue a_unitPartner a_unitLength a_listedUnit a_listedAsLibrary a_takenUnit a_definition a_isDuplicate a_isWanted a_codeKind a_codeValue a_codePartner fo po mem a_operands a_pendingToken a_pendingDue a_locals a_returnTo := by
  have hLk : ∀ k, k < n → (fun k => M (tk k)) k ≤ 50 := fun k hk => (hX _ (htk k hk)).1
  have h5 := htk k hk
  obtain ⟨hL, hs, hT⟩ := hX (tk k) h5
  have eck : (nI k).toNatClampNeg = k := nI_clamp (by omega)
  have ect : (nI (tk k)).toNatClampNeg = tk k := nI_clamp (by omega)
  have eb : nI (50 * tk k) + a_unitLength (a_takenUnit (nI k).toNatClampNeg).toNatClampNeg = nI (50 * tk k + M (tk k)) := by rw [eck, htu k hk, ect, hs, nI_add]
  have hin1 : vp_in (nI k) 5 := pk_in k 5 (by omega)
  have hin2 : vp_in (a_takenUnit (nI k).toNatClampNeg) 5 := pk_in (tk k) 5 h5 (by rw [eck, htu k hk])
  intro m
  induction m with
  | zero =>
    intro t ms fo po mem ht hV
    refine ⟨hin1, hin2, br_t (by rw [eb]; exact nI_le (by omega) (by omega)) (nm_r (nI_1 k) (hJ ms fo po mem (xl_V_tail hLk hk ?_)))⟩
    rw [show t = M (tk k) by omega] at hV
    exact hV
  | succ m ih =>
    intro t ms fo po mem ht hV
    obtain ⟨a1, a2, a3⟩ := hT t (by omega)
    have hin : vp_in (nI (50 * tk k + t)) 250 := pk_in (50 * tk k + t) 250 (by omega)
    have ec : (nI (50 * tk k + t)).toNatClampNeg = 50 * tk k + t := nI_clamp (by omega)
    obtain ⟨c1, c2⟩ := hco (50 * tk k + t) (by omega)
    have e1 : (50 * k + t) / 50 = k := by omega
    have e2 : (50 * k + t) % 50 = t := by omega
    have h9 := a2.1
    have hnext : ∀ ms fo po mem, xl_V (fun k => C (tk k)) (fun k => W (tk k)) (fun k => M (tk k)) tk n (fun d => a_unitValue (50 * tk (d / 50) + d % 50 + 1)) (50 * k + t + 1) ms fo po mem → wX_linkNames_26 post J (nI k) (nI (50 * tk k)) (m + 1) (nI (50 * tk k + t) + 1) f_draftCount f_openCount f_operandsDue f_faultPlace f_listCount f_takenCount f_culpritName ms f_operandCount f_pendingCount f_frameCount f_next f_outcome f_lastResult f_stepCount a_draftKind a_draftValue a_draftPartner a_openBlock a_unitKind a_unitValue a_unitPartner a_unitLength a_listedUnit a_listedAsLibrary a_takenUnit a_definition a_isDuplicate a_isWanted a_codeKind a_codeValue a_codePartner fo po mem a_operands a_pendingToken a_pendingDue a_locals a_returnTo := by
      intro ms fo po mem h
      rw [nI_1]
      exact ih (t + 1) ms fo po mem (by omega) h
    have hskip : ¬ ((C (tk k) t = 28 ∨ C (tk k) t = 29) ∧ lk_b (fun k => C (tk k)) (fun k => W (tk k)) (fun k => M (tk k)) (W (tk k) t % 16) n = some (50 * k + t)) → xl_V (fun k => C (tk k)) (fun k => W (tk k)) (fun k => M (tk k)) tk n (fun d => a_unitValue (50 * tk (d / 50) + d % 50 + 1)) (50 * k + t + 1) ms fo po mem := by
      intro h
      refine xl_V_skip hLk hV (decide_eq_false ?_) ?_
      · show ¬ ((50 * k + t) % 50 < M (tk ((50 * k + t) / 50)) ∧ C (tk ((50 * k + t) / 50)) ((50 * k + t) % 50) = 29 ∧ lk_b _ _ _ (W (tk ((50 * k + t) / 50)) ((50 * k + t) % 50) % 16) n = some (50 * k + t))
        rw [e1, e2]
        exact fun q => h ⟨Or.inr q.2.1, q.2.2⟩
      · show ¬ ((50 * k + t) % 50 < M (tk ((50 * k + t) / 50)) ∧ C (tk ((50 * k + t) / 50)) ((50 * k + t) % 50) = 28 ∧ lk_b _ _ _ (W (tk ((50 * k + t) / 50)) ((50 * k + t) % 50) % 16) n = some (50 * k + t))
        rw [e1, e2]
        exact fun q => h ⟨Or.inl q.2.1, q.2.2⟩
    have hcmp : ∀ nm, nm < 12 → (a_definition nm = nI (50 * tk k + t) ↔ lk_b (fun k => C (tk k)) (fun k => W (tk k)) (fun k => M (tk k)) nm n = some (50 * k + t)) := by
      intro nm hnm
      rw [hde nm hnm]
      cases eo : lk_b (fun k => C (tk k)) (fun k => W (tk k)) (fun k => M (tk k)) nm n with
      | none => exact ⟨fun z => absurd z.symm (ba_m1 (by omega)), fun z => nomatch z⟩
      | some d =>
        have hd := lk_b_in hLk eo
        have hd5 := htk _ hd.1
        have hd50 : d % 50 < 50 := by omega
        constructor
        · intro z
          have z' : 50 * tk (d / 50) + d % 50 = 50 * tk k + t := ba_inj (by omega) (by omega) z
          have e3 : tk (d / 50) = tk k := by omega
          have e4 := hinj _ _ hd.1 hk e3
          exact congrArg some (by omega)
        · intro z
          cases z
          show nI (50 * tk ((50 * k + t) / 50) + (50 * k + t) % 50) = _
          rw [e1, e2]
    refine ⟨hin1, hin2, br_f (by rw [eb]; exact nI_ge (by omega) (by omega)) ⟨hin, ?_⟩⟩
    show vp_in _ 250 ∧ _
    refine ⟨hin, ?_⟩
    rw [ec, c1, a1, c2]
    have h87 : ∀ x4 : Int32, ¬ (C (tk k) t = 28 ∧ lk_b (fun k => C (tk k)) (fun k => W (tk k)) (fun k => M (tk k)) (W (tk k) t % 16) n = some (50 * k + t)) → ((C (tk k) t = 29) → x4 = nI (W (tk k) t % 16)) → wX_linkNames_87 post J (wX_linkNames_26 post J (nI k) (nI (50 * tk k)) (m + 1)) (nI k) (nI (50 * tk k)) (nI (50 * tk k + t)) x4 f_draftCount f_openCount f_operandsDue f_faultPlace f_listCount f_takenCount f_culpritName ms f_operandCount f_pendingCount f_frameCount f_next f_outcome f_lastResult f_stepCount a_draftKind a_draftValue a_draftPartner a_openBlock a_unitKind a_unitValue a_unitPartner a_unitLength a_listedUnit a_listedAsLibrary a_takenUnit a_definition a_isDuplicate a_isWanted a_codeKind a_codeValue a_codePartner fo po mem a_operands a_pendingToken a_pendingDue a_locals a_returnTo := by
      intro x4 hnf hx4
      refine ⟨hin, ?_⟩
      rw [ec, c1, a1]
      refine pk_eq (C (tk k) t) 29 (fun e29 => ?_) (fun e29 => nm_e (hnext _ _ _ _ (hskip ?_)))
      · obtain ⟨v1, v2, v3⟩ := tw_V a2 (Or.inr e29)
        rw [a3] at v1 v2 v3
        rw [hx4 e29]
        refine ⟨pk_in _ 12 v3, ?_⟩
        rw [nI_clamp (show W (tk k) t % 16 < 2 ^ 31 by omega)]
        refine br_c (fun z => ?_) (fun z => nm_e (hnext _ _ _ _ (hskip (fun q => z ((hcmp _ v3).mpr q.2)))))
        have hb := (hcmp _ v3).mp z
        have hdt : lk_dt (fun k => C (tk k)) (fun k => W (tk k)) (fun k => M (tk k)) n (50 * k + t) = true := by
          refine decide_eq_true ?_
          show (50 * k + t) % 50 < M (tk ((50 * k + t) / 50)) ∧ C (tk ((50 * k + t) / 50)) ((50 * k + t) % 50) = 29 ∧ lk_b _ _ _ (W (tk ((50 * k + t) / 50)) ((50 * k + t) % 50) % 16) n = some (50 * k + t)
          rw [e1, e2]
          exact ⟨by omega, e29, hb⟩
        have hz : lk_z (fun k => W (tk k)) (50 * k + t) = W (tk k) t / 16 % 8 + 1 := by
          show W (tk ((50 * k + t) / 50)) ((50 * k + t) % 50) / 16 % 8 + 1 = _
          rw [e1, e2]
        have hat := lk_o_at hdt
        have hmono := @lk_o_mono (fun k => C (tk k)) (fun k => W (tk k)) (fun k => M (tk k)) n (50 * k + t + 1) (50 * n) (by omega)
        have hdn := hDN _ h5 t (by omega) e29
        obtain ⟨V1, V2, V3⟩ := hV
        subst V1
        refine xl_place (o := lk_o (fun k => C (tk k)) (fun k => W (tk k)) (fun k => M (tk k)) n (50 * k + t)) (z := lk_z (fun k => W (tk k)) (50 * k + t)) (nm := W (tk k) t % 16) (v := a_unitValue (50 * tk k + t + 1)) (by omega) (by omega) v3 (by rw [c2, tw_V16 a2 (Or.inr e29), a3]) (by rw [c2, v1, ba_sz (by omega), nI_1, hz]) (hco _ (by omega)).2 (fun mem' m1 m2 => nm_e ?_)
        refine hnext _ _ _ _ ⟨by rw [hat], fun nm hnm => ?_, lk_m_yes V3 m1 (fun s hs => ?_)⟩
        · have hnf' : ¬ ((50 * k + t) % 50 < (fun k => M (tk k)) ((50 * k + t) / 50) ∧ (fun k => C (tk k)) ((50 * k + t) / 50) ((50 * k + t) % 50) = 28 ∧ lk_b (fun k => C (tk k)) (fun k => W (tk k)) (fun k => M (tk k)) ((fun k => W (tk k)) ((50 * k + t) / 50) ((50 * k + t) % 50) % 16) n = some (50 * k + t)) := by
            show ¬ ((50 * k + t) % 50 < M (tk ((50 * k + t) / 50)) ∧ C (tk ((50 * k + t) / 50)) ((50 * k + t) % 50) = 28 ∧ _)
            rw [e1, e2]
            exact fun q => by have := q.2.1; omega
          rw [lk_q_no hLk hnf', lk_p_yes hLk hdt]
          refine ⟨?_, (V2 nm hnm).2⟩
          show upd po (W (tk k) t % 16) _ nm = if nm = W (tk ((50 * k + t) / 50)) ((50 * k + t) % 50) % 16 then _ else _
          rw [e1, e2]
          by_cases y : nm = W (tk k) t % 16
          · rw [if_pos y, y, pk_us]
          · rw [if_neg y, pk_un y]; exact (V2 nm hnm).1
        · show mem' _ = a_unitValue (50 * tk ((50 * k + t) / 50) + (50 * k + t) % 50 + 1)
          rw [e1, e2]; exact m2 s hs
      · rintro ⟨q1, q2⟩
        rcases q1 with q1 | q1
        · exact hnf ⟨q1, q2⟩
        · exact e29 q1
    by_cases hdef : C (tk k) t = 28 ∨ C (tk k) t = 29
    · obtain ⟨v1, v2, v3⟩ := tw_V a2 hdef
      rw [a3] at v1 v2 v3
      rw [tw_V16 a2 hdef, a3]
      refine pk_eq (C (tk k) t) 28 (fun e28 => ⟨pk_in _ 12 v3, ?_⟩) (fun e28 => h87 _ (fun q => e28 q.1) (fun _ => rfl))
      rw [nI_clamp (show W (tk k) t % 16 < 2 ^ 31 by omega)]
      refine br_c (fun z => ⟨pk_in _ 12 v3, nm_e (nm_e ?_)⟩) (fun z => h87 _ (fun q => z ((hcmp _ v3).mpr q.2)) (fun _ => rfl))
      have hb := (hcmp _ v3).mp z
      obtain ⟨V1, V2, V3⟩ := hV
      have hnd : lk_dt (fun k => C (tk k)) (fun k => W (tk k)) (fun k => M (tk k)) n (50 * k + t) = false := by
        refine decide_eq_false ?_
        show ¬ ((50 * k + t) % 50 < M (tk ((50 * k + t) / 50)) ∧ C (tk ((50 * k + t) / 50)) ((50 * k + t) % 50) = 29 ∧ _)
        rw [e1, e2]
        exact fun q => by have := q.2.1; omega
      refine hnext _ _ _ _ ⟨by rw [lk_o_no hnd]; exact V1, fun nm hnm => ?_, lk_m_no hnd V3⟩
      have h28 : (fun k => C (tk k)) ((50 * k + t) / 50) ((50 * k + t) % 50) = 28 := by
        show C (tk ((50 * k + t) / 50)) ((50 * k + t) % 50) = 28
        rw [e1, e2]; exact e28
      have hb' : lk_b (fun k => C (tk k)) (fun k => W (tk k)) (fun k => M (tk k)) ((fun k => W (tk k)) ((50 * k + t) / 50) ((50 * k + t) % 50) % 16) n = some (50 * k + t) := by
        show lk_b _ _ _ (W (tk ((50 * k + t) / 50)) ((50 * k + t) % 50) % 16) n = _
        rw [e1, e2]; exact hb
      rw [lk_p_no hLk hnd, lk_q_yes hLk h28 hb']
      refine ⟨(V2 nm hnm).1, ?_⟩
      show upd fo (W (tk k) t % 16) (nI (50 * tk k + t)) nm = if nm = W (tk ((50 * k + t) / 50)) ((50 * k + t) % 50) % 16 then nI (50 * tk ((50 * k + t) / 50) + (50 * k + t) % 50) else _
      rw [e1, e2]
      by_cases y : nm = W (tk k) t % 16
      · rw [if_pos y, y, pk_us]
      · rw [if_neg y, pk_un y]; exact (V2 nm hnm).2
    · refine br_f (ba_ne (b := 28) (by omega) (by omega) (by omega)) (h87 _ (fun q => by have := q.1; omega) (fun q => by omega))
theorem xl_names {post : SX → Prop} {n : Nat} (hn : n ≤ 5) (hX : ∀ u, u < 5 → yr_R a_unitKind a_unitValue a_unitLength u (C u) (W u) (M u)) (hDN : ∀ u, u < 5 → ∀ t, t < M u → C u t = 29 → t + 1 < M u) (htk : ∀ k, k < n → tk k < 5) (hinj : ∀ k k', k < n → k' < n → tk k = tk k' → k = k') (htu : ∀ k, k < n → a_takenUnit k = nI (tk k))
    (hco : ∀ j, j < 250 → a_codeKind j = a_unitKind j ∧ a_codeValue j = a_unitValue j) (hde : ∀ nm, nm < 12 → a_definition nm = xe tk (lk_b (fun k => C (tk k)) (fun k => W (tk k)) (fun k => M (tk k)) nm n)) (hw : lk_o (fun k => C (tk k)) (fun k => W (tk k)) (fun k => M (tk k)) n (50 * n) ≤ 48)
    (hp : ∀ ms fo po mem, xl_V (fun k => C (tk k)) (fun k => W (tk k)) (fun k => M (tk k)) tk n (fun d => a_unitValue (50 * tk (d / 50) + d % 50 + 1)) (50 * n) ms fo po mem → post (f_draftCount, f_openCount, f_operandsDue, f_faultPlace, f_listCount, nI n, f_culpritName, ms, f_operandCount, f_pendingCount, f_frameCount, f_next, f_outcome, f_lastResult, f_stepCount, a_draftKind, a_draftValue, a_draftPartner, a_openBlock, a_unitKind, a_unitValue, a_unitPartner, a_unitLength, a_listedUnit, a_listedAsLibrary, a_takenUnit, a_definition, a_isDuplicate, a_isWanted, a_codeKind, a_codeValue, a_codePartner, fo, po, mem, a_operands, a_pendingToken, a_pendingDue, a_locals, a_returnTo)) : wpX_linkNames post (f_draftCount, f_openCount, f_operandsDue, f_faultPlace, f_listCount, nI n, f_culpritName, f_memorySize, f_operandCount, f_pendingCount, f_frameCount, f_next, f_outcome, f_lastResult, f_stepCount, a_draftKind, a_draftValue, a_draftPartner, a_openBlock, a_unitKind, a_unitValue, a_unitPartner, a_unitLength, a_listedUnit, a_listedAsLibrary, a_takenUnit, a_definition, a_isDuplicate, a_isWanted, a_codeKind, a_codeValue, a_codePartner, a_functionOf, a_placeOf, a_memory, a_operands, a_pendingToken, a_pendingDue, a_locals, a_returnTo) := by
  have key : ∀ m k ms fo po mem, k + m = n → xl_V (fun k => C (tk k)) (fun k => W (tk k)) (fun k => M (tk k)) tk n (fun d => a_unitValue (50 * tk (d / 50) + d % 50 + 1)) (50 * k) ms fo po mem → wX_linkNames_6 post (m + 1) (nI k) f_draftCount f_openCount f_operandsDue f_faultPlace f_listCount (nI n) f_culpritName ms f_operandCount f_pendingCount f_frameCount f_next f_outcome f_lastResult f_stepCount a_draftKind a_draftValue a_draftPartner a_openBlock a_unitKind a_unitValue a_unitPartner a_unitLength a_listedUnit a_listedAsLibrary a_takenUnit a_definition a_isDuplicate a_isWanted a_codeKind a_codeValue a_codePartner fo po mem a_operands a_pendingToken a_pendingDue a_locals a_returnTo := by
    intro m
    induction m with
    | zero =>
      intro k ms fo po mem hk hV
      refine br_t (nI_le (by omega) (by omega)) (hp ms fo po mem ?_)
      rw [show n = k by omega] at hV ⊢
      exact hV
    | succ m ih =>
      intro k ms fo po mem hk hV
      refine br_f (nI_ge (by omega) (by omega)) ⟨pk_in k 5 (by omega), nm_r (e' := nI (50 * tk k)) (by rw [nI_clamp (by omega), htu k (by omega), show (50 : Int32) = nI 50 from rfl, pk_mul, Nat.mul_comm]) ⟨M (tk k) + 1, ?_⟩⟩
      exact xl_row hn (by omega) hX hDN htk hinj htu hco hde hw (fun ms' fo' po' mem' hV' => ih (k + 1) ms' fo' po' mem' (by omega) hV') (M (tk k)) 0 ms fo po mem (by omega) hV
  unfold wpX_linkNames
  refine xl_clear (fun fo po h => ⟨n + 1, ?_⟩)
  refine key n 0 0 fo po a_memory (by omega) ⟨rfl, fun nm hnm => ?_, fun d h => absurd h (by omega)⟩
  rw [lk_p_0, lk_q_0]
  exact ⟨(h nm hnm).2, (h nm hnm).1⟩
theorem xl_link {post : Int32 → SX → Prop} {lst : Nat → Nat} {lib : Nat → Prop} {nl n : Nat} (hnl : nl ≤ 5) (hl : f_listCount = nI nl) (hlst : ∀ i, i < nl → lst i < 5 ∧ a_listedUnit i = nI (lst i)) (hlib : ∀ i, i < nl → (a_listedAsLibrary i = 0 ↔ ¬ lib i)) (hX : ∀ u, u < 5 → yr_R a_unitKind a_unitValue a_unitLength u (C u) (W u) (M u)) (hTW : ∀ u, u < 5 → ∀ i j, i < j → j < M u → (C u i = 28 ∨ C u i = 29) → (C u j = 28 ∨ C u j = 29) → W u i % 16 ≠ W u j % 16) (hDN : ∀ u, u < 5 → ∀ t, t < M u → C u t = 29 → t + 1 < M u)
    (hT : lk_T C W M lst lib nl = (n, tk)) (hinj : ∀ k k', k < n → k' < n → tk k = tk k' → k = k')
    (hb : ∀ r cul tu de du wa, lk_Z (fun k => C (tk k)) (fun k => W (tk k)) (fun k => M (tk k)) n r cul → r ≠ 0 → post r (f_draftCount, f_openCount, f_operandsDue, f_faultPlace, 0, nI n, cul, f_memorySize, f_operandCount, f_pendingCount, f_frameCount, f_next, f_outcome, f_lastResult, f_stepCount, a_draftKind, a_draftValue, a_draftPartner, a_openBlock, a_unitKind, a_unitValue, a_unitPartner, a_unitLength, a_listedUnit, a_listedAsLibrary, tu, de, du, wa, a_codeKind, a_codeValue, a_codePartner, a_functionOf, a_placeOf, a_memory, a_operands, a_pendingToken, a_pendingDue, a_locals, a_returnTo))
    (hp : ∀ cul tu de du wa ck cv cp fo po mem, lk_Z (fun k => C (tk k)) (fun k => W (tk k)) (fun k => M (tk k)) n 0 cul → (∀ j, j < 250 → ck j = a_unitKind j ∧ cv j = a_unitValue j ∧ cp j = a_unitPartner j) → xl_V (fun k => C (tk k)) (fun k => W (tk k)) (fun k => M (tk k)) tk n (fun d => a_unitValue (50 * tk (d / 50) + d % 50 + 1)) (50 * n) (nI (lk_o (fun k => C (tk k)) (fun k => W (tk k)) (fun k => M (tk k)) n (50 * n))) fo po mem → post 0 (f_draftCount, f_openCount, f_operandsDue, f_faultPlace, 0, nI n, cul, nI (lk_o (fun k => C (tk k)) (fun k => W (tk k)) (fun k => M (tk k)) n (50 * n)), f_operandCount, f_pendingCount, f_frameCount, f_next, f_outcome, f_lastResult, f_stepCount, a_draftKind, a_draftValue, a_draftPartner, a_openBlock, a_unitKind, a_unitValue, a_unitPartner, a_unitLength, a_listedUnit, a_listedAsLibrary, tu, de, du, wa, ck, cv, cp, fo, po, mem, a_operands, a_pendingToken, a_pendingDue, a_locals, a_returnTo)) : wpX_link post (f_draftCount, f_openCount, f_operandsDue, f_faultPlace, f_listCount, f_takenCount, f_culpritName, f_memorySize, f_operandCount, f_pendingCount, f_frameCount, f_next, f_outcome, f_lastResult, f_stepCount, a_draftKind, a_draftValue, a_draftPartner, a_openBlock, a_unitKind, a_unitValue, a_unitPartner, a_unitLength, a_listedUnit, a_listedAsLibrary, a_takenUnit, a_definition, a_isDuplicate, a_isWanted, a_codeKind, a_codeValue, a_codePartner, a_functionOf, a_placeOf, a_memory, a_operands, a_pendingToken, a_pendingDue, a_locals, a_returnTo) := by
  have hi := @lk_T_in C W M lst lib nl (fun i hi => (hlst i hi).1)
  rw [hT] at hi
  have hi1 : n ≤ nl := hi.1
  have htk : ∀ k, k < n → tk k < 5 := hi.2
  have hLk : ∀ k, k < n → M (tk k) ≤ 50 := fun k hk => (hX _ (htk k hk)).1
  unfold wpX_link
  refine xt_units hnl hl hlst hlib hX hTW hT (fun tu de du wa htu hI => ?_)
  refine xl_fault (by omega) hX htk htu hI (fun r cul hZ => br_c (fun z => ?_) (fun z => hb r cul tu de du wa hZ z))
  subst z
  refine xl_copy (fun ck cv cp hc => ?_)
  have hZ' := hZ
  rcases hZ with ⟨_, _, _, _, h, _⟩ | ⟨hs, ⟨_, _, h, _⟩ | ⟨_, hcu, ⟨_, h⟩ | ⟨hw, _⟩⟩⟩
  · exact absurd h (by decide)
  · exact absurd rfl h
  · exact absurd h (by decide)
  · refine xl_names (by omega) hX hDN htk hinj htu (fun j hj => ⟨(hc j hj).1, (hc j hj).2.1⟩) (fun nm hnm => ?_) hw (fun ms fo po mem hV => ?_)
    · have hag := @lk_agree (fun k => C (tk k)) (fun k => W (tk k)) (fun k => M (tk k)) nm n hLk
      rw [(hI nm hnm).1]
      refine congrArg (xe tk) (hag.2.1 ?_)
      have := hs nm hnm
      cases e : lk_u (fun k => C (tk k)) (fun k => W (tk k)) (fun k => M (tk k)) nm n with
      | false => rfl
      | true => exact absurd (hag.2.2.2.2.2.mp e) (by omega)
    · have e := hV.1
      subst e
      exact hp cul tu de du wa ck cv cp fo po mem hZ' hc hV
end
end
section
/-! the machines: states by their changing fields -/
def mX (E : SX) (oc pc fc nx ou lr sc : Int32) (me op pt pd lo rt : Nat → Int32) : SX := (E.1, E.2.1, E.2.2.1, E.2.2.2.1, E.2.2.2.2.1, E.2.2.2.2.2.1, E.2.2.2.2.2.2.1, E.2.2.2.2.2.2.2.1, oc, pc, fc, nx, ou, lr, sc, E.2.2.2.2.2.2.2.2.2.2.2.2.2.2.2.1, E.2.2.2.2.2.2.2.2.2.2.2.2.2.2.2.2.1, E.2.2.2.2.2.2.2.2.2.2.2.2.2.2.2.2.2.1, E.2.2.2.2.2.2.2.2.2.2.2.2.2.2.2.2.2.2.1, E.2.2.2.2.2.2.2.2.2.2.2.2.2.2.2.2.2.2.2.1, E.2.2.2.2.2.2.2.2.2.2.2.2.2.2.2.2.2.2.2.2.1, E.2.2.2.2.2.2.2.2.2.2.2.2.2.2.2.2.2.2.2.2.2.1, E.2.2.2.2.2.2.2.2.2.2.2.2.2.2.2.2.2.2.2.2.2.2.1, E.2.2.2.2.2.2.2.2.2.2.2.2.2.2.2.2.2.2.2.2.2.2.2.1, E.2.2.2.2.2.2.2.2.2.2.2.2.2.2.2.2.2.2.2.2.2.2.2.2.1, E.2.2.2.2.2.2.2.2.2.2.2.2.2.2.2.2.2.2.2.2.2.2.2.2.2.1, E.2.2.2.2.2.2.2.2.2.2.2.2.2.2.2.2.2.2.2.2.2.2.2.2.2.2.1, E.2.2.2.2.2.2.2.2.2.2.2.2.2.2.2.2.2.2.2.2.2.2.2.2.2.2.2.1, E.2.2.2.2.2.2.2.2.2.2.2.2.2.2.2.2.2.2.2.2.2.2.2.2.2.2.2.2.1, E.2.2.2.2.2.2.2.2.2.2.2.2.2.2.2.2.2.2.2.2.2.2.2.2.2.2.2.2.2.1, E.2.2.2.2.2.2.2.2.2.2.2.2.2.2.2.2.2.2.2.2.2.2.2.2.2.2.2.2.2.2.1, E.2.2.2.2.2.2.2.2.2.2.2.2.2.2.2.2.2.2.2.2.2.2.2.2.2.2.2.2.2.2.2.1, E.2.2.2.2.2.2.2.2.2.2.2.2.2.2.2.2.2.2.2.2.2.2.2.2.2.2.2.2.2.2.2.2.1, E.2.2.2.2.2.2.2.2.2.2.2.2.2.2.2.2.2.2.2.2.2.2.2.2.2.2.2.2.2.2.2.2.2.1, me, op, pt, pd, lo, rt)
def mY (Z : SY) (de wa he fa sc re gv gf ha : Int32) (me pc ba lo wt gt vl : Nat → Int32) : SY := (Z.1, Z.2.1, Z.2.2.1, Z.2.2.2.1, Z.2.2.2.2.1, Z.2.2.2.2.2.1, de, wa, he, fa, sc, re, gv, gf, ha, Z.2.2.2.2.2.2.2.2.2.2.2.2.2.2.2.1, Z.2.2.2.2.2.2.2.2.2.2.2.2.2.2.2.2.1, Z.2.2.2.2.2.2.2.2.2.2.2.2.2.2.2.2.2.1, Z.2.2.2.2.2.2.2.2.2.2.2.2.2.2.2.2.2.2.1, Z.2.2.2.2.2.2.2.2.2.2.2.2.2.2.2.2.2.2.2.1, Z.2.2.2.2.2.2.2.2.2.2.2.2.2.2.2.2.2.2.2.2.1, me, Z.2.2.2.2.2.2.2.2.2.2.2.2.2.2.2.2.2.2.2.2.2.2.1, pc, ba, lo, wt, gt, vl)
def wkX (post : SX → Prop) (n : Nat) (t : Int32) (x : SX) : Prop := match x with
  | (f_draftCount, f_openCount, f_operandsDue, f_faultPlace, f_listCount, f_takenCount, f_culpritName, f_memorySize, f_operandCount, f_pendingCount, f_frameCount, f_next, f_outcome, f_lastResult, f_stepCount, a_draftKind, a_draftValue, a_draftPartner, a_openBlock, a_unitKind, a_unitValue, a_unitPartner, a_unitLength, a_listedUnit, a_listedAsLibrary, a_takenUnit, a_definition, a_isDuplicate, a_isWanted, a_codeKind, a_codeValue, a_codePartner, a_functionOf, a_placeOf, a_memory, a_operands, a_pendingToken, a_pendingDue, a_locals, a_returnTo) => wX_work_2 post n t f_draftCount f_openCount f_operandsDue f_faultPlace f_listCount f_takenCount f_culpritName f_memorySize f_operandCount f_pendingCount f_frameCount f_next f_outcome f_lastResult f_stepCount a_draftKind a_draftValue a_draftPartner a_openBlock a_unitKind a_unitValue a_unitPartner a_unitLength a_listedUnit a_listedAsLibrary a_takenUnit a_definition a_isDuplicate a_isWanted a_codeKind a_codeValue a_codePartner a_functionOf a_placeOf a_memory a_operands a_pendingToken a_pendingDue a_locals a_returnTo
def wkY (post : Int32 → SY → Prop) (n : Nat) (y : SY) : Prop := match y with
  | (g_place, g_culprit, g_listed, g_units, g_taken, g_used, g_depth, g_waiting, g_held, g_fault, g_steps, g_result, g_given, g_gift, g_has, b_kind, b_value, b_size, b_list, b_library, b_places, b_memory, b_wanted, b_pc, b_base, b_locals, b_waits, b_got, b_values) => wY_run_79 post n g_place g_culprit g_listed g_units g_taken g_used g_depth g_waiting g_held g_fault g_steps g_result g_given g_gift g_has b_kind b_value b_size b_list b_library b_places b_memory b_wanted b_pc b_base b_locals b_waits b_got b_values
def xMS (E : SX) : Int32 := E.2.2.2.2.2.2.2.1
def xCK (E : SX) : Nat → Int32 := E.2.2.2.2.2.2.2.2.2.2.2.2.2.2.2.2.2.2.2.2.2.2.2.2.2.2.2.2.2.1
def xCV (E : SX) : Nat → Int32 := E.2.2.2.2.2.2.2.2.2.2.2.2.2.2.2.2.2.2.2.2.2.2.2.2.2.2.2.2.2.2.1
def xCP (E : SX) : Nat → Int32 := E.2.2.2.2.2.2.2.2.2.2.2.2.2.2.2.2.2.2.2.2.2.2.2.2.2.2.2.2.2.2.2.1
def xFO (E : SX) : Nat → Int32 := E.2.2.2.2.2.2.2.2.2.2.2.2.2.2.2.2.2.2.2.2.2.2.2.2.2.2.2.2.2.2.2.2.1
def xPO (E : SX) : Nat → Int32 := E.2.2.2.2.2.2.2.2.2.2.2.2.2.2.2.2.2.2.2.2.2.2.2.2.2.2.2.2.2.2.2.2.2.1
def yUN (Z : SY) : Int32 := Z.2.2.2.1
def yUS (Z : SY) : Int32 := Z.2.2.2.2.2.1
def yK (Z : SY) : Nat → Int32 := Z.2.2.2.2.2.2.2.2.2.2.2.2.2.2.2.1
def yV (Z : SY) : Nat → Int32 := Z.2.2.2.2.2.2.2.2.2.2.2.2.2.2.2.2.1
def yS (Z : SY) : Nat → Int32 := Z.2.2.2.2.2.2.2.2.2.2.2.2.2.2.2.2.2.1
def yPL (Z : SY) : Nat → Int32 := Z.2.2.2.2.2.2.2.2.2.2.2.2.2.2.2.2.2.2.2.2.1
section
variable {E : SX} {Z : SY}
variable {oc pc fc nx ou lr sc : Int32} {me op pt pd lo rt : Nat → Int32}
theorem x_give {post : SX → Prop} {h w : Nat} {v : Int32} (hh : h < 500) (hw : w < 500) (hp : post (mX E (nI (h + 1)) (nI (w + 1)) fc nx ou lr sc me (upd op h v) pt (upd pd w (pd w - 1)) lo rt)) : wpX_give post (mX E (nI h) (nI (w + 1)) fc nx ou lr sc me op pt pd lo rt) v := by
  have e1 : nI (w + 1) - 1 = nI w := nI_pred w
  have ec : (nI (w + 1) - 1).toNatClampNeg = w := by rw [e1, nI_clamp (by omega)]
  have hin : vp_in (nI (w + 1) - 1) 500 := pk_in w 500 hw e1
  refine br_f (nI_ge (b := 500) hh (by omega)) (br_f (nI_nle (Nat.succ_pos w) (by omega)) ⟨pk_in h 500 hh, nm_r (e' := upd op h v) (by rw [nI_clamp (by omega)]) (nm_r (nI_1 h) ⟨hin, hin, nm_r (e' := upd pd w (pd w - 1)) (by rw [ec]) hp⟩)⟩)
theorem x_pop {post : Int32 → SX → Prop} {h : Nat} (hh : h < 500) (hp : post (op h) (mX E (nI h) pc fc nx ou lr sc me op pt pd lo rt)) : wpX_takeOperand post (mX E (nI (h + 1)) pc fc nx ou lr sc me op pt pd lo rt) := by
  refine br_f (nI_ne0 (Nat.succ_pos h) (by omega)) (nm_r (nI_pred h) ⟨pk_in h 500 hh, ?_⟩)
  rw [nI_clamp (by omega)]
  exact hp
theorem x_end {post : SX → Prop} {d : Nat} {v : Int32} (hd : d < 10) (h0 : d = 0 → post (mX E oc pc (nI d) (rt d) 0 v sc me op pt pd lo rt)) (h1 : d ≠ 0 → wpX_give post (mX E oc pc (nI d) (rt d) ou lr sc me op pt pd lo rt) v) : wpX_endFunction post (mX E oc pc (nI (d + 1)) nx ou lr sc me op pt pd lo rt) v := by
  refine nm_r (nI_pred d) ⟨pk_in d 10 hd, nm_r (e' := rt d) (by rw [nI_clamp (by omega)]) (pk_eq d 0 h0 h1)⟩
theorem x_pend {post : SX → Prop} {w t c : Nat} (hw : w < 500) (ht : t < 250) (hk : xCK E t = nI c) (hP : tk_P c (xCV E t)) (hc : c ≠ 29) (hp : post (mX E oc (nI (w + 1)) fc nx ou lr sc me op (upd pt w (nI t)) (upd pd w (nI (tk_n c (xCV E t).toNatClampNeg))) lo rt)) : wpX_pend post (mX E oc (nI w) fc nx ou lr sc me op pt pd lo rt) (nI t) := by
  have hin : vp_in (nI t) 250 := pk_in t 250 ht
  have hinw : vp_in (nI w) 500 := pk_in w 500 hw
  have ec : (nI t).toNatClampNeg = t := nI_clamp (by omega)
  have ecw : (nI w).toNatClampNeg = w := nI_clamp (by omega)
  refine br_f (nI_ge (b := 500) hw (by omega)) ⟨hinw, nm_r (e' := upd pt w (nI t)) (by rw [ecw]) ⟨hin, hin, ?_⟩⟩
  show wpX_operandsOf _ (xCK E (nI t).toNatClampNeg) (xCV E (nI t).toNatClampNeg)
  rw [ec, hk]
  refine xo_ops hP ?_
  rw [if_neg hc]
  exact ⟨hinw, nm_r (e' := upd pd w (nI (tk_n c (xCV E t).toNatClampNeg))) (by rw [ecw]) (nm_r (nI_1 w) hp)⟩
theorem x_step {post : Int32 → SX → Prop} {s : Nat} (hs : s ≤ 200) (h0 : s = 200 → post 0 (mX E oc pc fc nx 8 lr (nI s) me op pt pd lo rt)) (h1 : s < 200 → post 1 (mX E oc pc fc nx ou lr (nI (s + 1)) me op pt pd lo rt)) : wpX_takeStep post (mX E oc pc fc nx ou lr (nI s) me op pt pd lo rt) :=
  pk_eq s 200 (fun e => h0 e) (fun e => nm_r (nI_1 s) (h1 (by omega)))
theorem x_cnt {post : Int32 → Prop} {v : Int32} {a : Nat} (e : (v >>> ((4 : Int32) &&& 31)) &&& 3 = nI a) (h : post (nI a)) : wpX_countIn post v := by
  unfold wpX_countIn
  rw [e]; exact h
def wbX (post : SX → Prop) (x1 x2 x3 : Int32) (n : Nat) (x4 : Int32) (x : SX) : Prop := match x with
  | (f_draftCount, f_openCount, f_operandsDue, f_faultPlace, f_listCount, f_takenCount, f_culpritName, f_memorySize, f_operandCount, f_pendingCount, f_frameCount, f_next, f_outcome, f_lastResult, f_stepCount, a_draftKind, a_draftValue, a_draftPartner, a_openBlock, a_unitKind, a_unitValue, a_unitPartner, a_unitLength, a_listedUnit, a_listedAsLibrary, a_takenUnit, a_definition, a_isDuplicate, a_isWanted, a_codeKind, a_codeValue, a_codePartner, a_functionOf, a_placeOf, a_memory, a_operands, a_pendingToken, a_pendingDue, a_locals, a_returnTo) => wX_beginFunction_50 post x1 x2 x3 n x4 f_draftCount f_openCount f_operandsDue f_faultPlace f_listCount f_takenCount f_culpritName f_memorySize f_operandCount f_pendingCount f_frameCount f_next f_outcome f_lastResult f_stepCount a_draftKind a_draftValue a_draftPartner a_openBlock a_unitKind a_unitValue a_unitPartner a_unitLength a_listedUnit a_listedAsLibrary a_takenUnit a_definition a_isDuplicate a_isWanted a_codeKind a_codeValue a_codePartner a_functionOf a_placeOf a_memory a_operands a_pendingToken a_pendingDue a_locals a_returnTo
/-- the locals of a new function -/
def mlo (lo op : Nat → Int32) (d h a : Nat) : Nat → Int32 := fun j => if 6 * d ≤ j ∧ j < 6 * d + 6 then (if j - 6 * d < a then op (h + (j - 6 * d)) else 0) else lo j
theorem x_begin {post : SX → Prop} {h a d s nm fa : Nat} (hs : s ≤ 200) (hd : d ≤ 10) (hnm : nm < 12) (ha : a ≤ 3) (hh : h + a ≤ 500) (hfa : fa < 250) (hfo : xFO E nm = nI fa) (hcn : (xCV E fa >>> ((4 : Int32) &&& 31)) &&& 3 = nI a)
    (h8 : s = 200 → post (mX E (nI (h + a)) pc (nI d) nx 8 lr (nI s) me op pt pd lo rt)) (h9 : s < 200 → d = 10 → post (mX E (nI (h + a)) pc (nI d) nx 9 lr (nI (s + 1)) me op pt pd lo rt))
    (hp : s < 200 → d < 10 → post (mX E (nI h) pc (nI (d + 1)) (nI (fa + 1)) ou lr (nI (s + 1)) me op pt pd (mlo lo op d h a) (upd rt d nx))) : wpX_beginFunction post (mX E (nI (h + a)) pc (nI d) nx ou lr (nI s) me op pt pd lo rt) (nI nm) := by
  unfold wpX_beginFunction
  refine x_step hs (fun e => br_t rfl (h8 e)) (fun hs' => br_f (by decide) (pk_eq d 10 (fun e => h9 hs' e) (fun e => ?_)))
  have hd' : d < 10 := by omega
  have ecn : (nI nm).toNatClampNeg = nm := nI_clamp (by omega)
  have hin : vp_in (nI nm) 12 := pk_in nm 12 hnm
  refine ⟨hin, pk_in fa 250 hfa (by show xFO E (nI nm).toNatClampNeg = nI fa; rw [ecn, hfo]), x_cnt (a := a) (by show (xCV E (xFO E (nI nm).toNatClampNeg).toNatClampNeg >>> ((4 : Int32) &&& 31)) &&& 3 = nI a; rw [ecn, hfo, nI_clamp (by omega), hcn]) (nm_r (e' := nI (6 * d)) (by rw [show (6 : Int32) = nI 6 from rfl, pk_mul, Nat.mul_comm]) ⟨7, ?_⟩)⟩
  have key : ∀ m l, m ≤ 6 → (∀ j, 6 * d + m ≤ j → j < 6 * d + 6 → l j = mlo lo op d h a j) → (∀ j, ¬ (6 * d + m ≤ j ∧ j < 6 * d + 6) → l j = lo j) → wbX post (nI nm) (nI a) (nI (6 * d)) (m + 1) (nI m + (-1)) (mX E (nI (h + (if m < a then m else a))) pc (nI d) nx ou lr (nI (s + 1)) me op pt pd l rt) := by
    intro m
    induction m with
    | zero =>
      intro l _ h1 h2
      have el : l = mlo lo op d h a := by
        funext j
        by_cases z : 6 * d + 0 ≤ j ∧ j < 6 * d + 6
        · exact h1 j z.1 z.2
        · rw [h2 j z]
          exact (if_neg (by omega)).symm
      subst el
      have e0 : h + (if 0 < a then 0 else a) = h := by split <;> omega
      rw [e0]
      have hpp := hp hs' hd'
      refine br_t (by decide) ⟨pk_in d 10 hd', nm_r (e' := upd rt d nx) (by rw [nI_clamp (by omega)]) (nm_r (nI_1 d) ⟨hin, nm_r (e' := nI (fa + 1)) (by show xFO E (nI nm).toNatClampNeg + 1 = _; rw [ecn, hfo, nI_1]) hpp⟩)⟩
    | succ m ih =>
      intro l hm h1 h2
      have e1 : nI (6 * d) + nI m = nI (6 * d + m) := nI_add _ _
      have hinm : vp_in (nI (6 * d) + nI m) 60 := pk_in (6 * d + m) 60 (by omega) e1
      have ecm : (nI (6 * d) + nI m).toNatClampNeg = 6 * d + m := by rw [e1, nI_clamp (by omega)]
      rw [pk_m1]
      have step : ∀ v, v = mlo lo op d h a (6 * d + m) → wbX post (nI nm) (nI a) (nI (6 * d)) (m + 1) (nI m + (-1)) (mX E (nI (h + (if m < a then m else a))) pc (nI d) nx ou lr (nI (s + 1)) me op pt pd (upd l (6 * d + m) v) rt) := by
        intro v hv
        refine ih _ (by omega) (fun j a1 a2 => ?_) (fun j a1 => ?_)
        · by_cases z : j = 6 * d + m
          · rw [z, pk_us, hv]
          · rw [pk_un z]; exact h1 j (by omega) a2
        · rw [pk_un (by omega)]; exact h2 j (by omega)
      have em : mlo lo op d h a (6 * d + m) = if m < a then op (h + m) else 0 := by
        unfold mlo
        rw [if_pos (by omega), Nat.add_sub_cancel_left]
      refine br_f (nI_pos (by omega)) (pk_le a m (fun ham => ?_) (fun ham => ?_))
      · refine ⟨hinm, nm_r (e' := upd l (6 * d + m) 0) (by rw [ecm]) (nm_e ?_)⟩
        have := step 0 (by rw [em, if_neg (by omega)])
        rw [if_neg (by omega)] at this
        rw [if_neg (by omega)]
        exact this
      · have e3 : h + (if m + 1 < a then m + 1 else a) = h + m + 1 := by split <;> omega
        rw [e3]
        refine x_pop (by omega) ⟨hinm, nm_r (e' := upd l (6 * d + m) (op (h + m))) (by rw [ecm]) (nm_e ?_)⟩
        have := step (op (h + m)) (by rw [em, if_pos ham])
        rw [if_pos ham] at this
        exact this
  have := key 6 lo (by omega) (fun j a1 a2 => by omega) (fun j _ => rfl)
  rw [if_neg (by omega)] at this
  exact this
end
end
section
/-! the reference's machine, small steps; the program both run -/
def pK (Z : SY) (k i : Nat) : Nat := kn (yK Z) (550 + 50 * k + i)
def pV (Z : SY) (k i : Nat) : Nat := kn (yV Z) (550 + 50 * k + i)
def pO (Z : SY) (k i : Nat) : Nat := tk_n (pK Z k i) (pV Z k i)
def pT (E : SX) (Z : SY) (tk : Nat → Nat) (k i : Nat) : Prop := xCK E (50 * tk k + i) = nI (pK Z k i) ∧ yK Z (550 + 50 * k + i) = nI (pK Z k i) ∧ xCV E (50 * tk k + i) = yV Z (550 + 50 * k + i) ∧ tk_P (pK Z k i) (yV Z (550 + 50 * k + i))
def pR (E : SX) (Z : SY) (n m : Nat) (tk ln : Nat → Nat) (D B pr : Nat → Nat → Nat) : Prop :=
  n ≤ 5 ∧ m ≤ 48 ∧ yUN Z = nI n ∧ yUS Z = nI m ∧ xMS E = nI m ∧
  (∀ k, k < n → tk k < 5 ∧ ln k ≤ 50 ∧ yS Z (11 + k) = nI (ln k) ∧ (∀ i, i < ln k → pT E Z tk k i) ∧ wf_S (pK Z k) (pO Z k) (ln k) (D k) (B k) ∧ wf_J (pK Z k) (ln k) (fun i => xCP E (50 * tk k + i)) (50 * tk k) (B k) (pr k)) ∧
  (∀ nm, nm < 12 → xPO E nm = yPL Z nm) ∧ (∀ nm, nm < 12 → xFO E nm = lk_q (pK Z) (pV Z) ln tk n (50 * n) nm) ∧
  (∀ k, k < n → ∀ i, i < ln k → (pK Z k i = 2 → ∃ p, p < m ∧ yPL Z (pV Z k i) = nI p) ∧ (pK Z k i = 5 → ∃ d, lk_b (pK Z) (pV Z) ln (pV Z k i % 16) n = some d ∧ pK Z (d / 50) (d % 50) = 28 ∧ pV Z (d / 50) (d % 50) / 16 % 4 = pV Z k i / 16))
theorem pR_rows {E : SX} {Z : SY} {n m : Nat} {tk ln : Nat → Nat} {D B pr : Nat → Nat → Nat} (h : pR E Z n m tk ln D B pr) : ∀ k, k < n → yr_R (yK Z) (yV Z) (yS Z) (11 + k) (pK Z k) (pV Z k) (ln k) := by
  intro k hk
  obtain ⟨_, _, _, _, _, h6, _⟩ := h
  obtain ⟨_, a, b, c, _⟩ := h6 k hk
  refine ⟨a, b, fun i hi => ?_⟩
  obtain ⟨_, c2, _, c4⟩ := c i hi
  rw [show 50 * (11 + k) + i = 550 + 50 * k + i by omega]
  exact ⟨c2, c4, rfl⟩
def wbY (post : SY → Prop) (x1 x2 : Int32) (n : Nat) (x3 : Int32) (y : SY) : Prop := match y with
  | (g_place, g_culprit, g_listed, g_units, g_taken, g_used, g_depth, g_waiting, g_held, g_fault, g_steps, g_result, g_given, g_gift, g_has, b_kind, b_value, b_size, b_list, b_library, b_places, b_memory, b_wanted, b_pc, b_base, b_locals, b_waits, b_got, b_values) => wY_begin_55 post x1 x2 g_place g_culprit g_listed g_units g_taken g_used g_depth g_waiting g_held g_fault g_steps g_result g_given g_gift g_has n x3 b_kind b_value b_size b_list b_library b_places b_memory b_wanted b_pc b_base b_locals b_waits b_got b_values
/-- the reference's place: at the loop, or in front of a completion -/
def wcY (due : Nat) (post : Int32 → SY → Prop) (n : Nat) (y : SY) : Prop := match due with
  | 0 => wpY_complete (fun u => wkY post n u) y
  | _ + 1 => wkY post n y
section
variable {E : SX} {Z : SY} {n m : Nat} {tk ln : Nat → Nat} {D B pr : Nat → Nat → Nat}
variable {de wa he fa sc re gv gf ha : Int32} {me pc ba lo wt gt vl : Nat → Int32}
theorem y_begin {post : SY → Prop} {h a d s nm c w : Nat} (hR : pR E Z n m tk ln D B pr) (hs : s ≤ 200) (hd : d ≤ 10) (hnm : nm < 12) (ha' : a ≤ 3) (hh : h + a ≤ 500) (hw : w < 600) (hc : lk_b (pK Z) (pV Z) ln nm n = some c)
    (h8 : s = 200 → post (mY Z (nI d) (nI w) (nI h) 8 (nI s) re gv gf ha me pc ba lo wt gt vl)) (h9 : s < 200 → d = 10 → post (mY Z (nI d) (nI w) (nI h) 9 (nI (s + 1)) re gv gf ha me pc ba lo wt gt vl))
    (hp : s < 200 → d < 10 → post (mY Z (nI (d + 1)) (nI w) (nI h) fa (nI (s + 1)) re gv gf ha me (upd pc d (nI (550 + c + 1))) (upd ba d (nI w)) (mlo lo vl d h a) wt gt vl)) : wpY_begin post (mY Z (nI d) (nI w) (nI (h + a)) fa (nI s) re gv gf ha me pc ba lo wt gt vl) (nI nm) (nI a) := by
  have hcin := lk_b_in (fun k hk => (pR_rows hR k hk).1) hc
  have hn5 := hR.1
  have h50 := (pR_rows hR _ hcin.1).1
  have hun := hR.2.2.1
  refine nm_r (e' := nI h) (by rw [pk_sub (by omega)]; exact congrArg nI (by omega)) (pk_eq s 200 (fun e => h8 e) (fun e => nm_r (nI_1 s) (pk_eq d 10 (fun e2 => h9 (by omega) e2) (fun e2 => ⟨7, ?_⟩))))
  have hs' : s < 200 := by omega
  have hd' : d < 10 := by omega
  have key : ∀ q k l, k + q = 6 → (∀ j, 6 * d ≤ j → j < 6 * d + k → l j = mlo lo vl d h a j) → (∀ j, ¬ (6 * d ≤ j ∧ j < 6 * d + k) → l j = lo j) → wbY post (nI nm) (nI a) (q + 1) (nI k) (mY Z (nI d) (nI w) (nI h) fa (nI (s + 1)) re gv gf ha me pc ba l wt gt vl) := by
    intro q
    induction q with
    | zero =>
      intro k l hk h1 h2
      have el : l = mlo lo vl d h a := by
        funext j
        by_cases z : 6 * d ≤ j ∧ j < 6 * d + k
        · exact h1 j z.1 z.2
        · rw [h2 j z]
          exact (if_neg (by omega)).symm
      subst el
      have e6 : k = 6 := by omega
      subst e6
      refine br_t (by decide) ?_
      have hdef : ∀ P : Int32 → Prop, P (nI (550 + c)) → wpY_definition P (mY Z (nI d) (nI w) (nI h) fa (nI (s + 1)) re gv gf ha me pc ba (mlo lo vl d h a) wt gt vl) 11 (yUN Z) (nI nm) := by
        intro P hP
        rw [hun]
        refine yl_def (K := pK Z) (V := pV Z) (L := ln) (f := 11) (by omega) (by omega) (pR_rows hR) ?_
        rw [hc]; exact hP
      refine hdef _ ?_
      have hin : vp_in (nI d) 10 := pk_in d 10 hd'
      have ecd : (nI d).toNatClampNeg = d := nI_clamp (by omega)
      exact ⟨hin, nm_r (e' := upd pc d (nI (550 + c + 1))) (by rw [ecd, nI_1, ba_nss (by omega)]) (nm_r (nI_1 d) ⟨hin, nm_r (e' := upd ba d (nI w)) (by rw [ecd, ba_nss (by omega)]) (hp hs' hd')⟩)⟩
    | succ q ih =>
      intro k l hk h1 h2
      have e0 : (6 : Int32) * nI d + nI k = nI (6 * d + k) := by rw [show (6 : Int32) = nI 6 from rfl, pk_mul, nI_add]
      have hinm : vp_in ((6 : Int32) * nI d + nI k) 60 := pk_in (6 * d + k) 60 (by omega) e0
      have ecm : ((6 : Int32) * nI d + nI k).toNatClampNeg = 6 * d + k := by rw [e0, nI_clamp (by omega)]
      have step : ∀ v, v = mlo lo vl d h a (6 * d + k) → wbY post (nI nm) (nI a) (q + 1) (nI (k + 1)) (mY Z (nI d) (nI w) (nI h) fa (nI (s + 1)) re gv gf ha me pc ba (upd l (6 * d + k) v) wt gt vl) := by
        intro v hv
        refine ih (k + 1) _ (by omega) (fun j a1 a2 => ?_) (fun j a1 => ?_)
        · by_cases z : j = 6 * d + k
          · rw [z, pk_us, hv]
          · rw [pk_un z]; exact h1 j a1 (by omega)
        · rw [pk_un (by omega)]; exact h2 j (by omega)
      have em : mlo lo vl d h a (6 * d + k) = if k < a then vl (h + k) else 0 := by
        unfold mlo
        rw [if_pos (by omega), Nat.add_sub_cancel_left]
      refine br_f (nI_ge (b := 6) (by omega) (by omega)) (pk_le a k (fun hak => ?_) (fun hak => ?_))
      · exact ⟨hinm, nm_r (e' := upd l (6 * d + k) 0) (by rw [ecm]) (nm_r (nI_1 k) (step 0 (by rw [em, if_neg (by omega)])))⟩
      · have e3 : nI h + nI k = nI (h + k) := nI_add _ _
        exact ⟨pk_in (h + k) 1200 (by omega) e3, hinm, nm_r (e' := upd l (6 * d + k) (vl (h + k))) (by rw [ecm, e3, nI_clamp (by omega)]) (nm_r (nI_1 k) (step _ (by rw [em, if_pos hak])))⟩
  exact key 6 0 lo (by omega) (fun j a1 a2 => by omega) (fun j _ => rfl)
theorem y_leave {post : SY → Prop} {d : Nat} {v : Int32} (hd : d < 10) (h0 : d = 0 → post (mY Z (nI d) (ba d) he fa sc re v gf ha me pc ba lo wt gt vl)) (h1 : d ≠ 0 → post (mY Z (nI d) (ba d) he fa sc re gv v 1 me pc ba lo wt gt vl)) : wpY_leave post (mY Z (nI (d + 1)) wa he fa sc re gv gf ha me pc ba lo wt gt vl) v := by
  refine nm_r (nI_pred d) ⟨pk_in d 10 hd, nm_r (e' := ba d) (by rw [nI_clamp (by omega)]) (pk_eq d 0 h0 h1)⟩
theorem y_ops {post : Int32 → Prop} {k t : Nat} (hR : pR E Z n m tk ln D B pr) (hk : k < n) (ht : t < ln k) (hp : post (nI (pO Z k t))) : wpY_operands post (mY Z de wa he fa sc re gv gf ha me pc ba lo wt gt vl) (nI (550 + 50 * k + t)) := by
  have hn5 := hR.1
  obtain ⟨_, _, _, _, _, h6, _⟩ := hR
  obtain ⟨_, h50, _, hT, _⟩ := h6 k hk
  obtain ⟨_, c2, _, c4⟩ := hT t ht
  exact yo_ops (by omega) c2 c4 hp
/-- what was given is delivered -/
theorem y_deliver {post : Int32 → SY → Prop} {f w h due k t : Nat} {v : Int32} (hR : pR E Z n m tk ln D B pr) (hk : k < n) (ht : t < ln k) (hh : h < 1200) (hw : w < 600) (hd : 1 ≤ de.toNatClampNeg) (hde : de = nI de.toNatClampNeg) (hde2 : de.toNatClampNeg < 100) (hwt : wt w = nI (550 + 50 * k + t)) (hgt : gt w = nI (pO Z k t - (due + 1))) (hdu : due + 1 ≤ pO Z k t) (hO : pO Z k t ≤ 3)
    (hp : wcY due post f (mY Z de (nI (w + 1)) (nI (h + 1)) 0 sc re gv v 0 me pc ba lo wt (upd gt w (nI (pO Z k t - due))) (upd vl h v))) : wkY post (f + 1) (mY Z de (nI (w + 1)) (nI h) 0 sc re gv v 1 me pc ba lo wt gt vl) := by
  have e1 : nI (w + 1) - 1 = nI w := nI_pred w
  have ec : (nI (w + 1) - 1).toNatClampNeg = w := by rw [e1, nI_clamp (by omega)]
  have hin : vp_in (nI (w + 1) - 1) 600 := pk_in w 600 hw e1
  have hn0 : ¬ de ≤ 0 := by rw [hde]; exact nI_nle hd (by omega)
  refine br_f hn0 (br_t rfl (br_f (by decide) ?_))
  refine nm_r (nI_1 h) ⟨pk_in h 1200 hh, nm_r (e' := upd vl h v) (by rw [nI_clamp (by omega)]) ⟨hin, hin, nm_r (e' := upd gt w (nI (pO Z k t - due))) (by rw [ec, hgt, nI_1, show pO Z k t - (due + 1) + 1 = pO Z k t - due by omega, ba_nbb (by omega)]) ⟨hin, hin, ?_⟩⟩⟩
  rw [ec, hwt]
  refine y_ops hR hk ht ?_
  rw [pk_us]
  refine pk_eq (pO Z k t - due) (pO Z k t) (fun e => ?_) (fun e => ?_)
  · have e0 : due = 0 := by omega
    subst e0
    exact hp
  · obtain ⟨q, rfl⟩ : ∃ q, due = q + 1 := ⟨due - 1, by omega⟩
    exact hp
end
end
section
/-! the reference's jumps -/
section
variable {E : SX} {Z : SY} {n m : Nat} {tk ln : Nat → Nat} {D B pr : Nat → Nat → Nat}
variable {de wa he fa sc re gv gf ha : Int32} {me pc ba lo wt gt vl : Nat → Int32}
def weY (post : Int32 → Prop) (n : Nat) (x2 x3 : Int32) (y : SY) : Prop := match y with
  | (g_place, g_culprit, g_listed, g_units, g_taken, g_used, g_depth, g_waiting, g_held, g_fault, g_steps, g_result, g_given, g_gift, g_has, b_kind, b_value, b_size, b_list, b_library, b_places, b_memory, b_wanted, b_pc, b_base, b_locals, b_waits, b_got, b_values) => wY_endOf_4 post g_place g_culprit g_listed g_units g_taken g_used g_depth g_waiting g_held g_fault g_steps g_result g_given g_gift g_has b_kind b_value b_size b_list b_library b_places b_memory b_wanted b_pc b_base b_locals b_waits b_got b_values n x2 x3
def woY (post : Int32 → Prop) (n : Nat) (x2 x3 : Int32) (y : SY) : Prop := match y with
  | (g_place, g_culprit, g_listed, g_units, g_taken, g_used, g_depth, g_waiting, g_held, g_fault, g_steps, g_result, g_given, g_gift, g_has, b_kind, b_value, b_size, b_list, b_library, b_places, b_memory, b_wanted, b_pc, b_base, b_locals, b_waits, b_got, b_values) => wY_otherwise_4 post g_place g_culprit g_listed g_units g_taken g_used g_depth g_waiting g_held g_fault g_steps g_result g_given g_gift g_has b_kind b_value b_size b_list b_library b_places b_memory b_wanted b_pc b_base b_locals b_waits b_got b_values n x2 x3
def wfY (post : SY → Prop) (n : Nat) (x2 x3 : Int32) (y : SY) : Prop := match y with
  | (g_place, g_culprit, g_listed, g_units, g_taken, g_used, g_depth, g_waiting, g_held, g_fault, g_steps, g_result, g_given, g_gift, g_has, b_kind, b_value, b_size, b_list, b_library, b_places, b_memory, b_wanted, b_pc, b_base, b_locals, b_waits, b_got, b_values) => wY_end_4 post g_place g_culprit g_listed g_units g_taken g_used g_depth g_waiting g_held g_fault g_steps g_result g_given g_gift g_has b_kind b_value b_size b_list b_library b_places b_memory b_wanted b_pc b_base b_locals b_waits b_got b_values n x2 x3
def w36Y (post : Int32 → Prop) (n : Nat) (x2 x3 : Int32) (y : SY) : Prop := match y with
  | (g_place, g_culprit, g_listed, g_units, g_taken, g_used, g_depth, g_waiting, g_held, g_fault, g_steps, g_result, g_given, g_gift, g_has, b_kind, b_value, b_size, b_list, b_library, b_places, b_memory, b_wanted, b_pc, b_base, b_locals, b_waits, b_got, b_values) => wY_endOf_36 post (wY_endOf_4 post g_place g_culprit g_listed g_units g_taken g_used g_depth g_waiting g_held g_fault g_steps g_result g_given g_gift g_has b_kind b_value b_size b_list b_library b_places b_memory b_wanted b_pc b_base b_locals b_waits b_got b_values n) x2 x3 g_place g_culprit g_listed g_units g_taken g_used g_depth g_waiting g_held g_fault g_steps g_result g_given g_gift g_has b_kind b_value b_size b_list b_library b_places b_memory b_wanted b_pc b_base b_locals b_waits b_got b_values
def w54Y (post : Int32 → Prop) (n : Nat) (x2 x3 : Int32) (y : SY) : Prop := match y with
  | (g_place, g_culprit, g_listed, g_units, g_taken, g_used, g_depth, g_waiting, g_held, g_fault, g_steps, g_result, g_given, g_gift, g_has, b_kind, b_value, b_size, b_list, b_library, b_places, b_memory, b_wanted, b_pc, b_base, b_locals, b_waits, b_got, b_values) => wY_otherwise_54 post (wY_otherwise_4 post g_place g_culprit g_listed g_units g_taken g_used g_depth g_waiting g_held g_fault g_steps g_result g_given g_gift g_has b_kind b_value b_size b_list b_library b_places b_memory b_wanted b_pc b_base b_locals b_waits b_got b_values n) x2 x3 g_place g_culprit g_listed g_units g_taken g_used g_depth g_waiting g_held g_fault g_steps g_result g_given g_gift g_has b_kind b_value b_size b_list b_library b_places b_memory b_wanted b_pc b_base b_locals b_waits b_got b_values
def w29Y (post : Int32 → Prop) (n : Nat) (x2 x3 : Int32) (y : SY) : Prop := match y with
  | (g_place, g_culprit, g_listed, g_units, g_taken, g_used, g_depth, g_waiting, g_held, g_fault, g_steps, g_result, g_given, g_gift, g_has, b_kind, b_value, b_size, b_list, b_library, b_places, b_memory, b_wanted, b_pc, b_base, b_locals, b_waits, b_got, b_values) => wY_otherwise_29 post (wY_otherwise_4 post g_place g_culprit g_listed g_units g_taken g_used g_depth g_waiting g_held g_fault g_steps g_result g_given g_gift g_has b_kind b_value b_size b_list b_library b_places b_memory b_wanted b_pc b_base b_locals b_waits b_got b_values n) x2 x3 g_place g_culprit g_listed g_units g_taken g_used g_depth g_waiting g_held g_fault g_steps g_result g_given g_gift g_has b_kind b_value b_size b_list b_library b_places b_memory b_wanted b_pc b_base b_locals b_waits b_got b_values
def w25Y (post : SY → Prop) (n : Nat) (x2 x3 : Int32) (y : SY) : Prop := match y with
  | (g_place, g_culprit, g_listed, g_units, g_taken, g_used, g_depth, g_waiting, g_held, g_fault, g_steps, g_result, g_given, g_gift, g_has, b_kind, b_value, b_size, b_list, b_library, b_places, b_memory, b_wanted, b_pc, b_base, b_locals, b_waits, b_got, b_values) => wY_end_25 post (wY_end_4 post g_place g_culprit g_listed g_units g_taken g_used g_depth g_waiting g_held g_fault g_steps g_result g_given g_gift g_has b_kind b_value b_size b_list b_library b_places b_memory b_wanted b_pc b_base b_locals b_waits b_got b_values n) x2 x3 g_place g_culprit g_listed g_units g_taken g_used g_depth g_waiting g_held g_fault g_steps g_result g_given g_gift g_has b_kind b_value b_size b_list b_library b_places b_memory b_wanted b_pc b_base b_locals b_waits b_got b_values
theorem B_le {K N : Nat → Nat} {c : Nat} {D B : Nat → Nat} (hS : wf_S K N c D B) {q : Nat} (hq : q < c) (hb : 1 ≤ B q) : (K q = 22 ∨ K q = 24) ∧ B (q + 1) = B q + 1 ∨ K q = 27 ∧ B (q + 1) + 1 = B q ∨ (K q ≠ 22 ∧ K q ≠ 24 ∧ K q ≠ 27) ∧ B (q + 1) = B q := by
  obtain ⟨_, _, _, h⟩ := hS
  obtain ⟨_, _, _, h1, h2, h3⟩ := h q hq hb
  by_cases a : K q = 22 ∨ K q = 24
  · exact Or.inl ⟨a, h1 a⟩
  · by_cases b : K q = 27
    · exact Or.inr (Or.inl ⟨b, h2 b⟩)
    · exact Or.inr (Or.inr ⟨⟨by omega, by omega, b⟩, h3 (by omega) (by omega) b⟩)
theorem y_endOf {post : Int32 → Prop} {k o e : Nat} (hR : pR E Z n m tk ln D B pr) (hk : k < n) (hoe : o < e) (he' : e < ln k) (h27 : pK Z k e = 27) (hb1 : 1 ≤ B k e) (hbe : B k (o + 1) = B k e) (hq : ∀ q, o < q → q ≤ e → B k e ≤ B k q) (hp : post (nI (550 + 50 * k + e))) : wpY_endOf post (mY Z de wa he fa sc re gv gf ha me pc ba lo wt gt vl) (nI (550 + 50 * k + o)) := by
  have hn5 := hR.1
  obtain ⟨_, _, _, _, _, h6, _⟩ := hR
  obtain ⟨_, h50, _, hT, hS, _⟩ := h6 k hk
  have hBe : B k (e + 1) + 1 = B k e := (hS.2.2.2 e he' hb1).2.2.2.2.1 h27
  have hlim : ∀ q, q ≤ ln k → o < q → q ≤ e + 1 → B k q ≤ B k (o + 1) + (q - (o + 1)) := by
    intro q
    induction q with
    | zero => intro _ a _; omega
    | succ q ih =>
      intro h1 h2 h3
      by_cases z : q = o
      · subst z; omega
      · have := ih (by omega) (by omega) (by omega)
        have hb := hq q (by omega) (by omega)
        rcases B_le hS (q := q) (by omega) (by omega) with h | h | h <;> omega
  have key : ∀ f a, a + f = e → o ≤ a → weY post (f + 1) (nI (B k (a + 1) + 1 - B k e)) (nI (550 + 50 * k + a)) (mY Z de wa he fa sc re gv gf ha me pc ba lo wt gt vl) := by
    intro f
    induction f with
    | zero =>
      intro a hae hoa
      have : a = e := by omega
      subst this
      rw [show B k (a + 1) + 1 - B k a = 0 by omega]
      exact br_t (by decide) hp
    | succ f ih =>
      intro a hae hoa
      have hb := hq (a + 1) (by omega) (by omega)
      have hlm := hlim (a + 1) (by omega) (by omega) (by omega)
      obtain ⟨_, c2, _, c4⟩ := hT (a + 1) (by omega)
      have h9 := c4.1
      have hin : vp_in (nI (550 + 50 * k + (a + 1))) 800 := pk_in (550 + 50 * k + (a + 1)) 800 (by omega)
      have ec : (nI (550 + 50 * k + (a + 1))).toNatClampNeg = 550 + 50 * k + (a + 1) := nI_clamp (by omega)
      have hop : ¬ nI (B k (a + 1) + 1 - B k e) ≤ 0 := nI_nle (by omega) (by omega)
      have hnext : ∀ x : Int32, x = nI (B k (a + 1 + 1) + 1 - B k e) → weY post (f + 1) x (nI (550 + 50 * k + (a + 1))) (mY Z de wa he fa sc re gv gf ha me pc ba lo wt gt vl) := by
        intro x hx
        rw [hx]; exact ih (a + 1) (by omega) (by omega)
      have h36 : ∀ x : Int32, (pK Z k (a + 1) = 27 → x + (-1) = nI (B k (a + 1 + 1) + 1 - B k e)) → (pK Z k (a + 1) ≠ 27 → x = nI (B k (a + 1 + 1) + 1 - B k e)) → w36Y post (f + 1) x (nI (550 + 50 * k + (a + 1))) (mY Z de wa he fa sc re gv gf ha me pc ba lo wt gt vl) := by
        intro x x1 x2
        refine ⟨hin, ?_⟩
        show (yK Z (nI (550 + 50 * k + (a + 1))).toNatClampNeg = 27 → _) ∧ (¬ yK Z (nI (550 + 50 * k + (a + 1))).toNatClampNeg = 27 → _)
        rw [ec, c2]
        exact pk_eq (pK Z k (a + 1)) 27 (fun z => nm_e (hnext _ (x1 z))) (fun z => hnext _ (x2 z))
      refine br_f hop (nm_r (e' := nI (550 + 50 * k + (a + 1))) (nI_1 _) ⟨hin, ?_⟩)
      show (yK Z (nI (550 + 50 * k + (a + 1))).toNatClampNeg = 22 → _) ∧ (¬ yK Z (nI (550 + 50 * k + (a + 1))).toNatClampNeg = 22 → _ ∧ (yK Z (nI (550 + 50 * k + (a + 1))).toNatClampNeg = 24 → _) ∧ (¬ yK Z (nI (550 + 50 * k + (a + 1))).toNatClampNeg = 24 → _))
      rw [ec, c2]
      have hB := B_le hS (q := a + 1) (by omega) (by omega)
      refine pk_eq (pK Z k (a + 1)) 22 (fun z => nm_e (h36 _ (fun y => by omega) (fun y => ?_))) (fun z => ⟨hin, pk_eq (pK Z k (a + 1)) 24 (fun z2 => nm_e (h36 _ (fun y => by omega) (fun y => ?_))) (fun z2 => h36 _ (fun y => ?_) (fun y => ?_))⟩)
      · rw [nI_1]; exact congrArg nI (by omega)
      · rw [nI_1]; exact congrArg nI (by omega)
      · have e3 : B k (a + 1) + 1 - B k e = (B k (a + 1 + 1) + 1 - B k e) + 1 := by omega
        rw [e3, pk_m1]
      · exact congrArg nI (by omega)
  exact ⟨e - o + 1, by have := key (e - o) o (by omega) (Nat.le_refl _); rw [hbe, show B k e + 1 - B k e = 1 by omega] at this; exact this⟩
theorem y_other {post : Int32 → Prop} {k o e : Nat} (hR : pR E Z n m tk ln D B pr) (hk : k < n) (hoe : o < e) (he' : e < ln k) (h27 : pK Z k e = 27 ∨ pK Z k e = 23) (hb1 : 1 ≤ B k e) (hbe : B k (o + 1) = B k e) (hq : ∀ q, o < q → q ≤ e → B k e ≤ B k q) (hne : ∀ q, o < q → q < e → pK Z k q = 23 → B k q ≠ B k e) (hp : post (nI (550 + 50 * k + e))) : wpY_otherwise post (mY Z de wa he fa sc re gv gf ha me pc ba lo wt gt vl) (nI (550 + 50 * k + o)) := by
  have hn5 := hR.1
  obtain ⟨_, _, _, _, _, h6, _⟩ := hR
  obtain ⟨_, h50, _, hT, hS, _⟩ := h6 k hk
  have hlim : ∀ q, q ≤ ln k → o < q → q ≤ e + 1 → B k q ≤ B k (o + 1) + (q - (o + 1)) := by
    intro q
    induction q with
    | zero => intro _ a _; omega
    | succ q ih =>
      intro h1 h2 h3
      by_cases z : q = o
      · subst z; omega
      · have := ih (by omega) (by omega) (by omega)
        have hb := hq q (by omega) (by omega)
        rcases B_le hS (q := q) (by omega) (by omega) with h | h | h <;> omega
  have key : ∀ f a, a + f = e → o ≤ a → (a = e → pK Z k e = 27) → woY post (f + 1) (nI (B k (a + 1) + 1 - B k e)) (nI (550 + 50 * k + a)) (mY Z de wa he fa sc re gv gf ha me pc ba lo wt gt vl) := by
    intro f
    induction f with
    | zero =>
      intro a hae hoa h7
      have : a = e := by omega
      subst this
      have hBe : B k (a + 1) + 1 = B k a := (hS.2.2.2 a he' hb1).2.2.2.2.1 (h7 rfl)
      rw [show B k (a + 1) + 1 - B k a = 0 by omega]
      exact br_t (by decide) hp
    | succ f ih =>
      intro a hae hoa h7
      have hb := hq (a + 1) (by omega) (by omega)
      have hlm := hlim (a + 1) (by omega) (by omega) (by omega)
      obtain ⟨_, c2, _, c4⟩ := hT (a + 1) (by omega)
      have h9 := c4.1
      have hin : vp_in (nI (550 + 50 * k + (a + 1))) 800 := pk_in (550 + 50 * k + (a + 1)) 800 (by omega)
      have ec : (nI (550 + 50 * k + (a + 1))).toNatClampNeg = 550 + 50 * k + (a + 1) := nI_clamp (by omega)
      have hop : ¬ nI (B k (a + 1) + 1 - B k e) ≤ 0 := nI_nle (by omega) (by omega)
      have hB := B_le hS (q := a + 1) (by omega) (by omega)
      refine br_f hop (nm_r (e' := nI (550 + 50 * k + (a + 1))) (nI_1 _) ⟨hin, ?_⟩)
      have h29 : (a + 1 = e → pK Z k e = 27) → w29Y post (f + 1) (nI (B k (a + 1) + 1 - B k e)) (nI (550 + 50 * k + (a + 1))) (mY Z de wa he fa sc re gv gf ha me pc ba lo wt gt vl) := by
        intro h8
        have hnext : ∀ x : Int32, x = nI (B k (a + 1 + 1) + 1 - B k e) → woY post (f + 1) x (nI (550 + 50 * k + (a + 1))) (mY Z de wa he fa sc re gv gf ha me pc ba lo wt gt vl) := by
          intro x hx
          rw [hx]; exact ih (a + 1) (by omega) (by omega) h8
        have h54 : ∀ x : Int32, (pK Z k (a + 1) = 27 → x + (-1) = nI (B k (a + 1 + 1) + 1 - B k e)) → (pK Z k (a + 1) ≠ 27 → x = nI (B k (a + 1 + 1) + 1 - B k e)) → w54Y post (f + 1) x (nI (550 + 50 * k + (a + 1))) (mY Z de wa he fa sc re gv gf ha me pc ba lo wt gt vl) := by
          intro x x1 x2
          refine ⟨hin, ?_⟩
          show (yK Z (nI (550 + 50 * k + (a + 1))).toNatClampNeg = 27 → _) ∧ (¬ yK Z (nI (550 + 50 * k + (a + 1))).toNatClampNeg = 27 → _)
          rw [ec, c2]
          exact pk_eq (pK Z k (a + 1)) 27 (fun z => nm_e (hnext _ (x1 z))) (fun z => hnext _ (x2 z))
        refine ⟨hin, ?_⟩
        show (yK Z (nI (550 + 50 * k + (a + 1))).toNatClampNeg = 22 → _) ∧ (¬ yK Z (nI (550 + 50 * k + (a + 1))).toNatClampNeg = 22 → _ ∧ (yK Z (nI (550 + 50 * k + (a + 1))).toNatClampNeg = 24 → _) ∧ (¬ yK Z (nI (550 + 50 * k + (a + 1))).toNatClampNeg = 24 → _))
        rw [ec, c2]
        refine pk_eq (pK Z k (a + 1)) 22 (fun z => nm_e (h54 _ (fun y => by omega) (fun y => ?_))) (fun z => ⟨hin, pk_eq (pK Z k (a + 1)) 24 (fun z2 => nm_e (h54 _ (fun y => by omega) (fun y => ?_))) (fun z2 => h54 _ (fun y => ?_) (fun y => ?_))⟩)
        · rw [nI_1]; exact congrArg nI (by omega)
        · rw [nI_1]; exact congrArg nI (by omega)
        · have e3 : B k (a + 1) + 1 - B k e = (B k (a + 1 + 1) + 1 - B k e) + 1 := by omega
          rw [e3, pk_m1]
        · exact congrArg nI (by omega)
      show (yK Z (nI (550 + 50 * k + (a + 1))).toNatClampNeg = 23 → _) ∧ (¬ yK Z (nI (550 + 50 * k + (a + 1))).toNatClampNeg = 23 → _)
      rw [ec, c2]
      refine pk_eq (pK Z k (a + 1)) 23 (fun z => pk_eq (B k (a + 1) + 1 - B k e) 1 (fun z1 => ?_) (fun z1 => h29 (fun z2 => ?_))) (fun z => h29 (fun z2 => ?_))
      · have : a + 1 = e := Classical.byContradiction (fun q => hne (a + 1) (by omega) (by omega) z (by omega))
        rw [this]; exact hp
      · rw [z2] at z1; omega
      · rw [z2] at z; exact h27.resolve_right z
  exact ⟨e - o + 1, by have := key (e - o) o (by omega) (Nat.le_refl _) (fun z => by omega); rw [hbe, show B k e + 1 - B k e = 1 by omega] at this; exact this⟩
theorem y_end {post : SY → Prop} {k d e f : Nat} (hR : pR E Z n m tk ln D B pr) (hk : k < n) (hd : d < 10) (hfe : f < e) (he' : e < ln k) (hb1 : 1 ≤ B k e) (hkf : pK Z k f = 22 ∨ pK Z k f = 24 ∨ pK Z k f = 28) (hbf : B k f + 1 = B k e) (hq : ∀ q, f < q → q ≤ e → B k e ≤ B k q)
    (h22 : pK Z k f = 22 → post (mY Z (nI (d + 1)) wa he fa sc re gv gf ha me pc ba lo wt gt vl)) (h24 : pK Z k f = 24 → post (mY Z (nI (d + 1)) wa he fa sc re gv gf ha me (upd pc d (nI (550 + 50 * k + f))) ba lo wt gt vl)) (h28 : pK Z k f = 28 → wpY_leave post (mY Z (nI (d + 1)) wa he fa sc re gv gf ha me pc ba lo wt gt vl) 0) : wpY_end post (mY Z (nI (d + 1)) wa he fa sc re gv gf ha me pc ba lo wt gt vl) (nI (550 + 50 * k + e)) := by
  have hn5 := hR.1
  obtain ⟨_, _, _, _, _, h6, _⟩ := hR
  obtain ⟨_, h50, _, hT, hS, _⟩ := h6 k hk
  have hf1 : B k (f + 1) = B k e := by
    by_cases z : pK Z k f = 28
    · have h1 := (hS.2.2.1 f (by omega) z).1
      have h2 := hq (f + 1) (by omega) (by omega)
      omega
    · have h1 := (hS.2.1 f (by omega) (by omega) (by omega)).1
      rcases B_le hS (q := f) (by omega) h1 with h | h | h <;> omega
  have hlim : ∀ q, f < q → q ≤ e → B k q ≤ B k e + (q - (f + 1)) := by
    intro q
    induction q with
    | zero => intro a _; omega
    | succ q ih =>
      intro h2 h3
      by_cases z : q = f
      · subst z; omega
      · have := ih (by omega) (by omega)
        have hb := hq q (by omega) (by omega)
        rcases B_le hS (q := q) (by omega) (by omega) with h | h | h <;> omega
  have key : ∀ q a, a = f + q → a ≤ e → wfY post (q + 1) (nI (B k a + 1 - B k e)) (nI (550 + 50 * k + a)) (mY Z (nI (d + 1)) wa he fa sc re gv gf ha me pc ba lo wt gt vl) := by
    intro q
    induction q with
    | zero =>
      intro a haf hae
      have : a = f := by omega
      subst this
      obtain ⟨_, c2, _, c4⟩ := hT a (by omega)
      have h9 := c4.1
      have hin : vp_in (nI (550 + 50 * k + a)) 800 := pk_in (550 + 50 * k + a) 800 (by omega)
      have ec : (nI (550 + 50 * k + a)).toNatClampNeg = 550 + 50 * k + a := nI_clamp (by omega)
      have ed : nI (d + 1) - 1 = nI d := nI_pred d
      rw [show B k a + 1 - B k e = 0 by omega]
      refine br_t (by decide) ⟨hin, ?_⟩
      show (yK Z (nI (550 + 50 * k + a)).toNatClampNeg = 24 → _) ∧ (¬ yK Z (nI (550 + 50 * k + a)).toNatClampNeg = 24 → _)
      rw [ec, c2]
      refine pk_eq (pK Z k a) 24 (fun z => ⟨pk_in d 10 hd ed, nm_r (e' := upd pc d (nI (550 + 50 * k + a))) (by rw [ed, nI_clamp (by omega), ba_nss (by omega)]) ⟨hin, ?_⟩⟩) (fun z => ⟨hin, ?_⟩)
      · show (yK Z (nI (550 + 50 * k + a)).toNatClampNeg = 28 → _) ∧ (¬ yK Z (nI (550 + 50 * k + a)).toNatClampNeg = 28 → _)
        rw [ec, c2]
        exact pk_eq (pK Z k a) 28 (fun z2 => by omega) (fun z2 => h24 z)
      · show (yK Z (nI (550 + 50 * k + a)).toNatClampNeg = 28 → _) ∧ (¬ yK Z (nI (550 + 50 * k + a)).toNatClampNeg = 28 → _)
        rw [ec, c2]
        exact pk_eq (pK Z k a) 28 (fun z2 => h28 z2) (fun z2 => h22 (by omega))
    | succ q ih =>
      intro a haf hae
      obtain ⟨b, rfl⟩ : ∃ b, a = b + 1 := ⟨a - 1, by omega⟩
      have hb := hq (b + 1) (by omega) (by omega)
      have hlm := hlim (b + 1) (by omega) (by omega)
      obtain ⟨_, c2, _, c4⟩ := hT b (by omega)
      have h9 := c4.1
      have hin : vp_in (nI (550 + 50 * k + b)) 800 := pk_in (550 + 50 * k + b) 800 (by omega)
      have ec : (nI (550 + 50 * k + b)).toNatClampNeg = 550 + 50 * k + b := nI_clamp (by omega)
      have hop : ¬ nI (B k (b + 1) + 1 - B k e) ≤ 0 := nI_nle (by omega) (by omega)
      have hnext : ∀ x : Int32, x = nI (B k b + 1 - B k e) → wfY post (q + 1) x (nI (550 + 50 * k + b)) (mY Z (nI (d + 1)) wa he fa sc re gv gf ha me pc ba lo wt gt vl) := by
        intro x hx
        rw [hx]; exact ih b (by omega) (by omega)
      have hk28 : pK Z k b = 28 → b = f := by
        intro z
        apply Classical.byContradiction
        intro y
        have h1 := hq b (by omega) (by omega)
        have h2 := (hS.2.2.2 b (by omega) (by omega))
        by_cases zd : D k b = 0
        · have := h2.2.2.1 zd; omega
        · have := h2.2.1 (by omega); omega
      have hcase : (pK Z k b = 22 ∨ pK Z k b = 24 ∨ pK Z k b = 28) ∧ B k (b + 1) = B k b + 1 ∨ pK Z k b = 27 ∧ B k (b + 1) + 1 = B k b ∨ (pK Z k b ≠ 22 ∧ pK Z k b ≠ 24 ∧ pK Z k b ≠ 27 ∧ pK Z k b ≠ 28) ∧ B k (b + 1) = B k b := by
        by_cases z : b = f
        · subst z
          exact Or.inl ⟨hkf, by omega⟩
        · have h1 := hq b (by omega) (by omega)
          rcases B_le hS (q := b) (by omega) (by omega) with h | h | h
          · exact Or.inl ⟨by omega, h.2⟩
          · exact Or.inr (Or.inl h)
          · exact Or.inr (Or.inr ⟨⟨h.1.1, h.1.2.1, h.1.2.2, fun y => z (hk28 y)⟩, h.2⟩)
      refine br_f hop (nm_r (e' := nI (550 + 50 * k + b)) (pk_m1 _) ⟨hin, ?_⟩)
      have h25 : ∀ x : Int32, ((pK Z k b = 22 ∨ pK Z k b = 24 ∨ pK Z k b = 28) → x + (-1) = nI (B k b + 1 - B k e)) → (¬ (pK Z k b = 22 ∨ pK Z k b = 24 ∨ pK Z k b = 28) → x = nI (B k b + 1 - B k e)) → w25Y post (q + 1) x (nI (550 + 50 * k + b)) (mY Z (nI (d + 1)) wa he fa sc re gv gf ha me pc ba lo wt gt vl) := by
        intro x x1 x2
        refine ⟨hin, ?_⟩
        show (yK Z (nI (550 + 50 * k + b)).toNatClampNeg = 22 → _) ∧ (¬ yK Z (nI (550 + 50 * k + b)).toNatClampNeg = 22 → _ ∧ (yK Z (nI (550 + 50 * k + b)).toNatClampNeg = 24 → _) ∧ (¬ yK Z (nI (550 + 50 * k + b)).toNatClampNeg = 24 → _ ∧ (yK Z (nI (550 + 50 * k + b)).toNatClampNeg = 28 → _) ∧ (¬ yK Z (nI (550 + 50 * k + b)).toNatClampNeg = 28 → _)))
        rw [ec, c2]
        exact pk_eq (pK Z k b) 22 (fun z => nm_e (hnext _ (x1 (by omega)))) (fun z => ⟨hin, pk_eq (pK Z k b) 24 (fun z2 => nm_e (hnext _ (x1 (by omega)))) (fun z2 => ⟨hin, pk_eq (pK Z k b) 28 (fun z3 => nm_e (hnext _ (x1 (by omega)))) (fun z3 => hnext _ (x2 (by omega)))⟩)⟩)
      show (yK Z (nI (550 + 50 * k + b)).toNatClampNeg = 27 → _) ∧ (¬ yK Z (nI (550 + 50 * k + b)).toNatClampNeg = 27 → _)
      rw [ec, c2]
      refine pk_eq (pK Z k b) 27 (fun z => nm_e (h25 _ (fun y => by omega) (fun y => ?_))) (fun z => h25 _ (fun y => ?_) (fun y => ?_))
      · rw [nI_1]; exact congrArg nI (by omega)
      · rw [show B k (b + 1) + 1 - B k e = (B k b + 1 - B k e) + 1 by omega, pk_m1]
      · exact congrArg nI (by omega)
  exact ⟨e - f + 1, by have := key (e - f) e (by omega) (Nat.le_refl _); rw [show B k e + 1 - B k e = 1 by omega] at this; exact this⟩
theorem y_jump {post : SY → Prop} {k d o e : Nat} {b : Int32} (hR : pR E Z n m tk ln D B pr) (hk : k < n) (hd : d < 10) (hoe : o < e) (he' : e < ln k) (hb : (b = 1 ∧ pK Z k e = 27) ∨ (b = 0 ∧ (pK Z k e = 27 ∨ pK Z k e = 23) ∧ ∀ q, o < q → q < e → pK Z k q = 23 → B k q ≠ B k e)) (hb1 : 1 ≤ B k e) (hbe : B k (o + 1) = B k e) (hq : ∀ q, o < q → q ≤ e → B k e ≤ B k q)
    (hp : post (mY Z (nI (d + 1)) wa he fa sc re gv gf ha me (upd pc d (nI (550 + 50 * k + e + 1))) ba lo wt gt vl)) : wpY_jump post (mY Z (nI (d + 1)) wa he fa sc re gv gf ha me pc ba lo wt gt vl) (nI (550 + 50 * k + o)) b := by
  have hn5 := hR.1
  have h50 := (hR.2.2.2.2.2.1 k hk).2.1
  have ed : nI (d + 1) - 1 = nI d := nI_pred d
  have fin : vp_in (nI (d + 1) - 1) 10 ∧ ∀ a : Nat → Int32, a = upd pc (nI (d + 1) - 1).toNatClampNeg (vp_nar .short ((nI (550 + 50 * k + e) + 1).toInt16.toInt32)) → post (mY Z (nI (d + 1)) wa he fa sc re gv gf ha me a ba lo wt gt vl) :=
    ⟨pk_in d 10 hd ed, nm_r (e' := upd pc d (nI (550 + 50 * k + e + 1))) (by rw [ed, nI_clamp (by omega), nI_1, ba_nss (by omega)]) hp⟩
  rcases hb with ⟨e1, h27⟩ | ⟨e0, h27, hne⟩
  · subst e1
    exact br_f (by decide) (y_endOf hR hk hoe he' h27 hb1 hbe hq fin)
  · subst e0
    exact br_t rfl (y_other hR hk hoe he' h27 hb1 hbe hq hne fin)
end
end
section
/-! chains of pending tokens, suspended functions, and what both machines end in -/
theorem in_next {K N : Nat → Nat} {c : Nat} {D B : Nat → Nat} (hS : wf_S K N c D B) {p : Nat} (hp : p < c) (hb : 1 ≤ B p) (hne : K p ≠ 27) : p + 1 < c ∧ 1 ≤ B (p + 1) ∧ D (p + 1) = D p - 1 + N p := by
  have h1 : 1 ≤ B (p + 1) := by rcases B_le hS hp hb with h | h | h <;> omega
  refine ⟨?_, h1, (hS.2.2.2 p hp hb).1⟩
  apply Classical.byContradiction
  intro z
  have : p + 1 = c := by omega
  rw [this, hS.1] at h1
  omega
theorem in_E {K N : Nat → Nat} {c : Nat} {D B : Nat → Nat} (hS : wf_S K N c D B) {p : Nat} (hp : p < c) (hb : 1 ≤ B p) (hk : K p ≤ 19) : 1 ≤ D p := by
  apply Classical.byContradiction
  intro z
  have := (hS.2.2.2 p hp hb).2.2.1 (by omega)
  omega
theorem in_S {K N : Nat → Nat} {c : Nat} {D B : Nat → Nat} (hS : wf_S K N c D B) {p : Nat} (hp : p < c) (hb : 1 ≤ B p) (hk : 19 ≤ K p) : D p = 0 := by
  apply Classical.byContradiction
  intro z
  have := (hS.2.2.2 p hp hb).2.1 (by omega)
  omega
section
variable (Z : SY) (n : Nat) (D B : Nat → Nat → Nat) (tk ln : Nat → Nat)
def cnP (pt pd wt gt : Nat → Int32) (j k t due : Nat) : Prop := pt j = nI (50 * tk k + t) ∧ pd j = nI due ∧ wt j = nI (550 + 50 * k + t) ∧ gt j = nI (pO Z k t - due)
def cn (pt pd wt gt : Nat → Int32) (k f lo ho : Nat) : Nat → Nat → Nat → Nat → Nat → Prop
  | 0, _, dx, h, due => dx = 0 ∧ h = ho ∧ 1 ≤ due
  | j + 1, x, dx, h, due => ∃ t g du, cnP Z tk pt pd wt gt (lo + j) k t due ∧ t < x ∧ t < ln k ∧ 1 ≤ B k t ∧ (4 ≤ pK Z k t ∧ pK Z k t ≠ 23 ∧ pK Z k t ≠ 27) ∧ due ≤ pO Z k t ∧ dx = D k t - 1 + due ∧ (∀ q, t < q → q < x → 1 ≤ D k q) ∧ h = g + (pO Z k t - due) ∧ lo + j + g ≤ 50 * f + t ∧ 1 ≤ du ∧ cn pt pd wt gt k f lo ho j t (D k t) g du
def fr (pt pd wt gt rt pc ba : Nat → Int32) : Nat → Nat → Nat → Nat → Prop
  | 0, lo, ho, M => lo = 0 ∧ ho = 0 ∧ M = 0
  | d + 1, lo, ho, M => ∃ k p lo' ho' j due M', k < n ∧ p < ln k ∧ 1 ≤ B k p ∧ rt (d + 1) = nI (50 * tk k + p) ∧ pc d = nI (550 + 50 * k + p) ∧ ba d = nI lo' ∧ lo = lo' + (j + 1) ∧ 1 ≤ due ∧ cn Z D B tk ln pt pd wt gt k d lo' ho' (j + 1) p (D k p + 1) ho due ∧ lo + ho + 1 ≤ 50 * d + p ∧ lo' + ho' ≤ 50 * d ∧ M = M' + 3 * (51 - p) ∧ fr pt pd wt gt rt pc ba d lo' ho' M'
variable {Z n D B tk ln}
theorem cn_ext {pt pd wt gt pt' pd' wt' gt' : Nat → Int32} {k f lo ho : Nat} : ∀ {j x dx h due}, (∀ i, i < lo + j → pt' i = pt i ∧ pd' i = pd i ∧ wt' i = wt i ∧ gt' i = gt i) → cn Z D B tk ln pt pd wt gt k f lo ho j x dx h due → cn Z D B tk ln pt' pd' wt' gt' k f lo ho j x dx h due := by
  intro j
  induction j with
  | zero => exact fun _ h => h
  | succ j ih =>
    intro x dx h due he hc
    obtain ⟨t, g, du, ⟨p1, p2, p3, p4⟩, r1, r2, r3, r4, r5, r6, r7, r8, r9, r10, r11⟩ := hc
    obtain ⟨e1, e2, e3, e4⟩ := he (lo + j) (by omega)
    exact ⟨t, g, du, ⟨by rw [e1, p1], by rw [e2, p2], by rw [e3, p3], by rw [e4, p4]⟩, r1, r2, r3, r4, r5, r6, r7, r8, r9, r10, ih (fun i hi => he i (by omega)) r11⟩
/-- the place moves on behind the chain -/
theorem cn_adv {pt pd wt gt : Nat → Int32} {k f lo ho j x y dx h due : Nat} (hxy : x ≤ y) (hD : ∀ q, x ≤ q → q < y → 1 ≤ D k q) (hc : cn Z D B tk ln pt pd wt gt k f lo ho (j + 1) x dx h due) : cn Z D B tk ln pt pd wt gt k f lo ho (j + 1) y dx h due := by
  obtain ⟨t, g, du, p, r1, r2, r3, r4, r5, r6, r7, r8, r9, r10, r11⟩ := hc
  refine ⟨t, g, du, p, by omega, r2, r3, r4, r5, r6, fun q a b => ?_, r8, r9, r10, r11⟩
  by_cases z : q < x
  · exact r7 q a z
  · exact hD q (by omega) b
theorem fr_ext {pt pd wt gt rt pc ba pt' pd' wt' gt' rt' pc' ba' : Nat → Int32} : ∀ {d lo ho M}, (∀ i, i < lo → pt' i = pt i ∧ pd' i = pd i ∧ wt' i = wt i ∧ gt' i = gt i) → (∀ i, i ≤ d → rt' i = rt i) → (∀ i, i < d → pc' i = pc i ∧ ba' i = ba i) → fr Z n D B tk ln pt pd wt gt rt pc ba d lo ho M → fr Z n D B tk ln pt' pd' wt' gt' rt' pc' ba' d lo ho M := by
  intro d
  induction d with
  | zero => exact fun _ _ _ h => h
  | succ d ih =>
    intro lo ho M h1 h2 h3 hf
    obtain ⟨k, p, lo', ho', j, due, M', r1, r2, r3, r4, r5, r6, r7, r8, r9, r10, r11, r12, r13⟩ := hf
    refine ⟨k, p, lo', ho', j, due, M', r1, r2, r3, by rw [h2 _ (by omega), r4], by rw [(h3 d (by omega)).1, r5], by rw [(h3 d (by omega)).2, r6], r7, r8, cn_ext (fun i hi => h1 i (by omega)) r9, r10, r11, r12, ih (fun i hi => h1 i (by omega)) (fun i hi => h2 i (by omega)) (fun i hi => h3 i (by omega)) r13⟩
theorem cn_h {pt pd wt gt : Nat → Int32} {k f lo ho : Nat} : ∀ {j x dx h due}, cn Z D B tk ln pt pd wt gt k f lo ho j x dx h due → ho ≤ h := by
  intro j
  induction j with
  | zero => intro x dx h due hc; rw [hc.2.1]; exact Nat.le_refl _
  | succ j ih =>
    intro x dx h due hc
    obtain ⟨t, g, du, p, r1, r2, r3, r4, r5, r6, r7, r8, r9, r10, r11⟩ := hc
    have := ih r11
    omega
end
/-- the end of a run on both sides, with answer o -/
def fN (E : SX) (Z : SY) (m : Nat) (o : Int32) (x : SX) (y : SY) : Prop := ∃ (oc pc fc nx lr sc de wa he gv gf ha : Int32) (me my op lc pt pd rt cp ba wt gt : Nat → Int32), x = mX E oc pc fc nx o lr sc me op pt pd lc rt ∧ y = mY Z de wa he o sc lr gv gf ha my cp ba lc wt gt op ∧ ∀ i, i < m → me i = my i
def sG (E : SX) (Z : SY) (m : Nat) (PX : (SX → Prop) → Nat → Prop) (PY : (Int32 → SY → Prop) → Nat → Prop) : Prop := ∃ o x y, fN E Z m o x y ∧ (∀ post, post x → ∃ f, PX post f) ∧ (∀ post, post o y → ∃ f, PY post f)
theorem sG_map {E : SX} {Z : SY} {m : Nat} {PX PX' : (SX → Prop) → Nat → Prop} {PY PY' : (Int32 → SY → Prop) → Nat → Prop} (h : sG E Z m PX PY) (hx : ∀ post f, PX post f → ∃ f', PX' post f') (hy : ∀ post f, PY post f → ∃ f', PY' post f') : sG E Z m PX' PY' := by
  obtain ⟨o, x, y, a, b, c⟩ := h
  refine ⟨o, x, y, a, fun post hp => ?_, fun post hp => ?_⟩
  · obtain ⟨f, hf⟩ := b post hp
    exact hx post f hf
  · obtain ⟨f, hf⟩ := c post hp
    exact hy post f hf
def xs (E : SX) (tk : Nat → Nat) (d k p w h s : Nat) (me op lc pt pd rt : Nat → Int32) : SX := mX E (nI h) (nI w) (nI (d + 1)) (nI (50 * tk k + p)) (-2) 0 (nI s) me op pt pd lc rt
def ys (Z : SY) (d w h s : Nat) (gv gf ha : Int32) (my op lc pc ba wt gt : Nat → Int32) : SY := mY Z (nI (d + 1)) (nI w) (nI h) 0 (nI s) 0 gv gf ha my pc ba lc wt gt op
/-- the weight of the place of the function at work -/
def wg (Z : SY) (k p j : Nat) : Nat := if j = 0 ∧ pK Z k p = 24 then 1 else 3 * (51 - p)
theorem wg_le (Z : SY) (k p j : Nat) (hp : p < 50) : wg Z k p j ≤ 3 * (51 - p) ∧ 1 ≤ wg Z k p j := by
  unfold wg
  split <;> omega
theorem wg_pl {Z : SY} {k p j : Nat} (h : ¬ (j = 0 ∧ pK Z k p = 24)) : wg Z k p j = 3 * (51 - p) := if_neg h
/-- what ties the two machines -/
def mF (Z : SY) (n m : Nat) (tk ln : Nat → Nat) (D B : Nat → Nat → Nat) (d k p lo ho j h due s M : Nat) (me my pt pd wt gt rt pc ba : Nat → Int32) : Prop := k < n ∧ p < ln k ∧ 1 ≤ B k p ∧ d < 10 ∧ s ≤ 200 ∧ pc d = nI (550 + 50 * k + p) ∧ ba d = nI lo ∧ (∀ i, i < m → me i = my i) ∧ lo + ho ≤ 50 * d ∧ lo + j + h ≤ 50 * d + p ∧ cn Z D B tk ln pt pd wt gt k d lo ho j p (D k p) h due ∧ fr Z n D B tk ln pt pd wt gt rt pc ba d lo ho M
def iH (E : SX) (Z : SY) (n m : Nat) (tk ln : Nat → Nat) (D B : Nat → Nat → Nat) (t μ : Nat) : Prop := ∀ d k p lo ho j h due s M me my op lc pt pd wt gt rt pc ba gv gf, mF Z n m tk ln D B d k p lo ho j h due s M me my pt pd wt gt rt pc ba → 160 * (200 - s) + M + wg Z k p j + (lo + j) < μ → sG E Z m (fun post f => wkX post f (nI t) (xs E tk d k p (lo + j) h s me op lc pt pd rt)) (fun post f => wcY due post f (ys Z d (lo + j) h s gv gf 0 my op lc pc ba wt gt))
section
variable {E : SX} {Z : SY} {n m : Nat} {tk ln : Nat → Nat} {D B pr : Nat → Nat → Nat}
theorem pO3 (hR : pR E Z n m tk ln D B pr) {k i : Nat} (hk : k < n) (hi : i < ln k) : pO Z k i ≤ 3 := by
  obtain ⟨_, _, _, _, _, h6, _⟩ := hR
  obtain ⟨_, _, _, hT, _⟩ := h6 k hk
  exact tk_n3 (hT i hi).2.2.2
/-- a value is given and delivered -/
theorem s_give (hR : pR E Z n m tk ln D B pr) {t μ : Nat} (IH : iH E Z n m tk ln D B t μ) {d k p lo ho j h due s M : Nat} {me my op lc pt pd wt gt rt pc ba : Nat → Int32} {gv v : Int32}
    (hk : k < n) (hp : p < ln k) (hb : 1 ≤ B k p) (hd : d < 10) (hs : s ≤ 200) (hpc : pc d = nI (550 + 50 * k + p)) (hba : ba d = nI lo) (hm : ∀ i, i < m → me i = my i) (hlo : lo + ho ≤ 50 * d) (hw : lo + (j + 1) + (h + 1) ≤ 50 * d + p)
    (hc : cn Z D B tk ln pt pd wt gt k d lo ho (j + 1) p (D k p + 1) h due) (hdu : 1 ≤ due) (hf : fr Z n D B tk ln pt pd wt gt rt pc ba d lo ho M) (hmu : 160 * (200 - s) + M + 3 * (51 - p) + (lo + (j + 1)) < μ) :
    sG E Z m (fun post f => wkX post f (nI t) (xs E tk d k p (lo + j + 1) (h + 1) s me (upd op h v) lc pt (upd pd (lo + j) (pd (lo + j) - 1)) rt)) (fun post f => wkY post f (ys Z d (lo + j + 1) h s gv v 1 my op lc pc ba wt gt)) := by
  have h50 := (hR.2.2.2.2.2.1 k hk).2.1
  obtain ⟨du1, rfl⟩ : ∃ q, due = q + 1 := ⟨due - 1, by omega⟩
  obtain ⟨t0, g, du, ⟨p1, p2, p3, p4⟩, r1, r2, r3, r4, r5, r6, r7, r8, r9, r10, r11⟩ := hc
  have hO3 := pO3 hR hk r2
  have epd : pd (lo + j) - 1 = nI du1 := by rw [p2]; exact nI_pred du1
  have hne : ∀ i, i < lo + j → pt i = pt i ∧ upd pd (lo + j) (nI du1) i = pd i ∧ wt i = wt i ∧ upd gt (lo + j) (nI (pO Z k t0 - du1)) i = gt i := fun i hi => ⟨rfl, pk_un (by omega), rfl, pk_un (by omega)⟩
  have := IH d k p lo ho (j + 1) (h + 1) du1 s M me my (upd op h v) lc pt (upd pd (lo + j) (nI du1)) wt (upd gt (lo + j) (nI (pO Z k t0 - du1))) rt pc ba gv v
    ⟨hk, hp, hb, hd, hs, hpc, hba, hm, hlo, by omega, ⟨t0, g, du, ⟨p1, pk_us, p3, pk_us⟩, r1, r2, r3, r4, by omega, by omega, r7, by omega, r9, r10, cn_ext hne r11⟩, fr_ext (fun i hi => hne i (by omega)) (fun _ _ => rfl) (fun _ _ => ⟨rfl, rfl⟩) hf⟩ (by rw [wg_pl (by omega)]; omega)
  refine sG_map this (fun post f hf => ⟨f, ?_⟩) (fun post f hf => ⟨f + 1, ?_⟩)
  · rw [epd]; exact hf
  · have ede : (nI (d + 1)).toNatClampNeg = d + 1 := nI_clamp (by omega)
    exact y_deliver (due := du1) hR hk r2 (by omega) (by omega) (by rw [ede]; omega) (by rw [ede]) (by rw [ede]; omega) p3 p4 r5 hO3 hf
end
end
section
/-! one token, on each side -/
def kX (post : SX → Prop) (f t : Nat) (u : SX) : Prop := match u with
  | (f_draftCount, f_openCount, f_operandsDue, f_faultPlace, f_listCount, f_takenCount, f_culpritName, f_memorySize, f_operandCount, f_pendingCount, f_frameCount, f_next, f_outcome, f_lastResult, f_stepCount, a_draftKind, a_draftValue, a_draftPartner, a_openBlock, a_unitKind, a_unitValue, a_unitPartner, a_unitLength, a_listedUnit, a_listedAsLibrary, a_takenUnit, a_definition, a_isDuplicate, a_isWanted, a_codeKind, a_codeValue, a_codePartner, a_functionOf, a_placeOf, a_memory, a_operands, a_pendingToken, a_pendingDue, a_locals, a_returnTo) => ∀ x : Int32, x = nI t + 1 → wX_work_2 post f x f_draftCount f_openCount f_operandsDue f_faultPlace f_listCount f_takenCount f_culpritName f_memorySize f_operandCount f_pendingCount f_frameCount f_next f_outcome f_lastResult f_stepCount a_draftKind a_draftValue a_draftPartner a_openBlock a_unitKind a_unitValue a_unitPartner a_unitLength a_listedUnit a_listedAsLibrary a_takenUnit a_definition a_isDuplicate a_isWanted a_codeKind a_codeValue a_codePartner a_functionOf a_placeOf a_memory a_operands a_pendingToken a_pendingDue a_locals a_returnTo
theorem kX_of {post : SX → Prop} {f t : Nat} {u : SX} (h : wkX post f (nI (t + 1)) u) : kX post f t u := by
  obtain ⟨f_draftCount, f_openCount, f_operandsDue, f_faultPlace, f_listCount, f_takenCount, f_culpritName, f_memorySize, f_operandCount, f_pendingCount, f_frameCount, f_next, f_outcome, f_lastResult, f_stepCount, a_draftKind, a_draftValue, a_draftPartner, a_openBlock, a_unitKind, a_unitValue, a_unitPartner, a_unitLength, a_listedUnit, a_listedAsLibrary, a_takenUnit, a_definition, a_isDuplicate, a_isWanted, a_codeKind, a_codeValue, a_codePartner, a_functionOf, a_placeOf, a_memory, a_operands, a_pendingToken, a_pendingDue, a_locals, a_returnTo⟩ := u
  intro x hx
  rw [hx, nI_1]
  exact h
section
variable {E : SX} {Z : SY} {n m : Nat} {tk ln : Nat → Nat} {D B pr : Nat → Nat → Nat}
variable {oc pc fc nx ou lr sc : Int32} {me op pt pd lo rt : Nat → Int32}
theorem x_take {post : SX → Prop} {f t w a : Nat} (ht : t < 1000000) (ha : a < 250) (hw : w = 0 ∨ ∃ w', w = w' + 1 ∧ w' < 500 ∧ ∃ q, pd w' = nI (q + 1) ∧ q < 100) (h : wpX_takeToken (kX post f t) (mX E oc (nI w) fc (nI a) (-2) lr sc me op pt pd lo rt)) : wkX post (f + 1) (nI t) (mX E oc (nI w) fc (nI a) (-2) lr sc me op pt pd lo rt) := by
  refine br_f (nI_ge (b := 1000000) ht (by omega)) (br_t rfl (br_f (nI_ge (b := 250) ha (by omega)) ?_))
  rcases hw with e | ⟨w', e, h5, q, hq, hq1⟩
  · subst e
    exact br_t (by decide) h
  · subst e
    have e1 : nI (w' + 1) - 1 = nI w' := nI_pred w'
    have e2 : pd (nI (w' + 1) - 1).toNatClampNeg = nI (q + 1) := by rw [e1, nI_clamp (by omega), hq]
    exact br_f (nI_nle (Nat.succ_pos _) (by omega)) ⟨pk_in w' 500 h5 e1, br_f (by rw [e2]; exact nI_ne0 (Nat.succ_pos _) (by omega)) h⟩
theorem x_fin {post : SX → Prop} {f t w a : Nat} (ht : t < 1000000) (ha : a < 250) (hw : w < 500) (hd : pd w = nI 0) (h : wpX_finishPending (kX post f t) (mX E oc (nI (w + 1)) fc (nI a) (-2) lr sc me op pt pd lo rt)) : wkX post (f + 1) (nI t) (mX E oc (nI (w + 1)) fc (nI a) (-2) lr sc me op pt pd lo rt) := by
  have e1 : nI (w + 1) - 1 = nI w := nI_pred w
  have e2 : pd (nI (w + 1) - 1).toNatClampNeg = 0 := by rw [e1, nI_clamp (by omega), hd]; rfl
  exact br_f (nI_ge (b := 1000000) ht (by omega)) (br_t rfl (br_f (nI_ge (b := 250) ha (by omega)) (br_f (nI_nle (Nat.succ_pos _) (by omega)) ⟨pk_in w 500 hw e1, br_t e2 h⟩)))
theorem x_over {post : SX → Prop} {t : Nat} {u : SX} (hou : ¬ ou = -2) (h : post (mX E oc pc fc nx ou lr sc me op pt pd lo rt)) : wkX post 1 (nI t) (mX E oc pc fc nx ou lr sc me op pt pd lo rt) := br_c (fun _ => h) (fun _ => br_f hou h)
theorem xt0 {post : SX → Prop} {a h w : Nat} (ha : a < 250) (hh : h < 500) (hw : w < 500) (hk : xCK E a = 0) (hp : post (mX E (nI (h + 1)) (nI (w + 1)) fc (nI (a + 1)) ou lr sc me (upd op h (xCV E a)) pt (upd pd w (pd w - 1)) lo rt)) : wpX_takeToken post (mX E (nI h) (nI (w + 1)) fc (nI a) ou lr sc me op pt pd lo rt) := by
  have hin : vp_in (nI a) 250 := pk_in a 250 ha
  have ec : (nI a).toNatClampNeg = a := nI_clamp (by omega)
  refine ⟨hin, nm_r (e' := xCV E a) (by rw [ec]; rfl) (nm_r (nI_1 a) ⟨hin, nm_r (e' := 0) (by rw [ec]; exact hk) (br_t rfl (x_give hh hw hp))⟩)⟩
theorem xt1 {post : SX → Prop} {a h w d q : Nat} (ha : a < 250) (hh : h < 500) (hw : w < 500) (hk : xCK E a = 1) (hv : xCV E a = nI q) (hq : q < 6) (hd : d < 10) (hp : post (mX E (nI (h + 1)) (nI (w + 1)) (nI (d + 1)) (nI (a + 1)) ou lr sc me (upd op h (lo (6 * d + q))) pt (upd pd w (pd w - 1)) lo rt)) : wpX_takeToken post (mX E (nI h) (nI (w + 1)) (nI (d + 1)) (nI a) ou lr sc me op pt pd lo rt) := by
  have hin : vp_in (nI a) 250 := pk_in a 250 ha
  have ec : (nI a).toNatClampNeg = a := nI_clamp (by omega)
  have e1 : (nI (d + 1) - 1) * 6 + nI q = nI (6 * d + q) := by rw [nI_pred, show (6 : Int32) = nI 6 from rfl, pk_mul, nI_add, Nat.mul_comm]
  refine ⟨hin, nm_r (e' := nI q) (by rw [ec]; exact hv) (nm_r (nI_1 a) ⟨hin, nm_r (e' := 1) (by rw [ec]; exact hk) (br_f (by decide) (br_t rfl ⟨pk_in (6 * d + q) 60 (by omega) e1, ?_⟩))⟩)⟩
  rw [e1, nI_clamp (show 6 * d + q < 2 ^ 31 by omega)]
  exact x_give hh hw hp
theorem x_inuse {post : Int32 → Prop} {M : Nat} {v : Int32} (hM : xMS E = nI M) (hM4 : M ≤ 48) (h1 : ∀ r, r < M → v = nI r → post 1) (h0 : (v < 0 ∨ nI M ≤ v) → post 0) : wpX_isInUse post (mX E oc pc fc nx ou lr sc me op pt pd lo rt) v := by
  refine br_c (fun z => h0 (Or.inl z)) (fun z => ?_)
  show (xMS E ≤ v → _) ∧ (¬ xMS E ≤ v → _)
  rw [hM]
  refine br_c (fun y => h0 (Or.inr y)) (fun y => ?_)
  obtain ⟨r, hr, rfl⟩ := nI_of z
  rw [nI_leI (by omega) hr] at y
  exact h1 r (by omega) rfl
theorem x_get {post : SX → Prop} {h w M : Nat} {v : Int32} (hh : h < 500) (hw : w < 500) (hM : xMS E = nI M) (hM4 : M ≤ 48) (h1 : ∀ r, r < M → v = nI r → post (mX E (nI (h + 1)) (nI (w + 1)) fc nx ou lr sc me (upd op h (me r)) pt (upd pd w (pd w - 1)) lo rt)) (h0 : (v < 0 ∨ nI M ≤ v) → post (mX E (nI h) (nI (w + 1)) fc nx 7 lr sc me op pt pd lo rt)) : wpX_getWord post (mX E (nI h) (nI (w + 1)) fc nx ou lr sc me op pt pd lo rt) v := by
  unfold wpX_getWord
  refine x_inuse hM hM4 (fun r hr e => br_f (by decide) ⟨pk_in r 48 (by omega) e, ?_⟩) (fun z => br_t rfl (h0 z))
  rw [e, nI_clamp (show r < 2 ^ 31 by omega)]
  exact x_give hh hw (h1 r hr e)
theorem xt2 {post : SX → Prop} {a h w q r M : Nat} (ha : a < 250) (hh : h < 500) (hw : w < 500) (hk : xCK E a = 2) (hv : xCV E a = nI q) (hq : q < 12) (hpo : xPO E q = nI r) (hr : r < M) (hM : xMS E = nI M) (hM4 : M ≤ 48) (hp : post (mX E (nI (h + 1)) (nI (w + 1)) fc (nI (a + 1)) ou lr sc me (upd op h (me r)) pt (upd pd w (pd w - 1)) lo rt)) : wpX_takeToken post (mX E (nI h) (nI (w + 1)) fc (nI a) ou lr sc me op pt pd lo rt) := by
  have hin : vp_in (nI a) 250 := pk_in a 250 ha
  have ec : (nI a).toNatClampNeg = a := nI_clamp (by omega)
  refine ⟨hin, nm_r (e' := nI q) (by rw [ec]; exact hv) (nm_r (nI_1 a) ⟨hin, nm_r (e' := 2) (by rw [ec]; exact hk) (br_f (by decide) (br_f (by decide) (br_t rfl ⟨pk_in q 12 hq, ?_⟩)))⟩)⟩
  have e : xPO E (nI q).toNatClampNeg = nI r := by rw [nI_clamp (by omega), hpo]
  have key : ∀ v, v = nI r → wpX_getWord post (mX E (nI h) (nI (w + 1)) fc (nI (a + 1)) ou lr sc me op pt pd lo rt) v := by
    intro v hv
    refine x_get hh hw hM hM4 (fun r' hr' e' => ?_) (fun z => ?_)
    · have := ba_inj (by omega) (by omega) (hv.symm.trans e')
      subst this
      exact hp
    · exfalso
      rw [hv] at z
      rcases z with z | z
      · exact nI_pos (by omega) z
      · exact nI_ge hr (by omega) z
  exact key _ e
theorem xt3 {post : SX → Prop} {a h w q : Nat} (ha : a < 250) (hh : h < 500) (hw : w < 500) (hk : xCK E a = 3) (hv : xCV E a = nI q) (hq : q < 12) (hp : post (mX E (nI (h + 1)) (nI (w + 1)) fc (nI (a + 1)) ou lr sc me (upd op h (xPO E q)) pt (upd pd w (pd w - 1)) lo rt)) : wpX_takeToken post (mX E (nI h) (nI (w + 1)) fc (nI a) ou lr sc me op pt pd lo rt) := by
  have hin : vp_in (nI a) 250 := pk_in a 250 ha
  have ec : (nI a).toNatClampNeg = a := nI_clamp (by omega)
  refine ⟨hin, nm_r (e' := nI q) (by rw [ec]; exact hv) (nm_r (nI_1 a) ⟨hin, nm_r (e' := 3) (by rw [ec]; exact hk) (br_f (by decide) (br_f (by decide) (br_f (by decide) (br_t rfl ⟨pk_in q 12 hq, ?_⟩))))⟩)⟩
  rw [nI_clamp (show q < 2 ^ 31 by omega)]
  exact x_give hh hw hp
theorem xt23 {post : SX → Prop} {a e : Nat} (ha : a < 250) (hk : xCK E a = 23) (hcp : xCP E a = nI e) (hp : post (mX E oc pc fc (nI (e + 1)) ou lr sc me op pt pd lo rt)) : wpX_takeToken post (mX E oc pc fc (nI a) ou lr sc me op pt pd lo rt) := by
  have hin : vp_in (nI a) 250 := pk_in a 250 ha
  have ec : (nI a).toNatClampNeg = a := nI_clamp (by omega)
  exact ⟨hin, nm_e (nm_r (nI_1 a) ⟨hin, nm_r (e' := 23) (by rw [ec]; exact hk) (br_f (by decide) (br_f (by decide) (br_f (by decide) (br_f (by decide) (br_t rfl ⟨hin, nm_r (e' := nI (e + 1)) (by rw [ec]; show xCP E a + 1 = _; rw [hcp, nI_1]) hp⟩)))))⟩)⟩
theorem xt24 {post : SX → Prop} {a w s : Nat} (ha : a < 250) (hw : w < 500) (hs : s ≤ 200) (hk : xCK E a = 24) (hP : tk_P 24 (xCV E a)) (h8 : s = 200 → post (mX E oc (nI w) fc (nI (a + 1)) 8 lr (nI s) me op pt pd lo rt)) (hp : s < 200 → post (mX E oc (nI (w + 1)) fc (nI (a + 1)) ou lr (nI (s + 1)) me op (upd pt w (nI a)) (upd pd w (nI 1)) lo rt)) : wpX_takeToken post (mX E oc (nI w) fc (nI a) ou lr (nI s) me op pt pd lo rt) := by
  have hin : vp_in (nI a) 250 := pk_in a 250 ha
  have ec : (nI a).toNatClampNeg = a := nI_clamp (by omega)
  exact ⟨hin, nm_e (nm_r (nI_1 a) ⟨hin, nm_r (e' := 24) (by rw [ec]; exact hk) (br_f (by decide) (br_f (by decide) (br_f (by decide) (br_f (by decide) (br_f (by decide) (br_t rfl (x_step hs (fun e => br_t rfl (h8 e)) (fun e => br_f (by decide) (x_pend (c := 24) hw ha hk hP (by decide) (hp e)))))))))) ⟩)⟩
theorem xt27 {post : SX → Prop} {a o c : Nat} (ha : a < 250) (ho : o < 250) (hk : xCK E a = 27) (hcp : xCP E a = nI o) (hko : xCK E o = nI c) (hc : c ≤ 29) (h24 : c = 24 → post (mX E oc pc fc (nI o) ou lr sc me op pt pd lo rt)) (h28 : c = 28 → wpX_endFunction post (mX E oc pc fc (nI (a + 1)) ou lr sc me op pt pd lo rt) 0) (h22 : c ≠ 24 → c ≠ 28 → post (mX E oc pc fc (nI (a + 1)) ou lr sc me op pt pd lo rt)) : wpX_takeToken post (mX E oc pc fc (nI a) ou lr sc me op pt pd lo rt) := by
  have hin : vp_in (nI a) 250 := pk_in a 250 ha
  have ec : (nI a).toNatClampNeg = a := nI_clamp (by omega)
  have key : ∀ v, v = nI o → wpX_reachEnd post (mX E oc pc fc (nI (a + 1)) ou lr sc me op pt pd lo rt) v := by
    intro v hv
    subst hv
    have hino : vp_in (nI o) 250 := pk_in o 250 ho
    have e3 : xCK E (nI o).toNatClampNeg = nI c := by rw [nI_clamp (by omega), hko]
    refine ⟨hino, ?_⟩
    show (xCK E (nI o).toNatClampNeg = 24 → _) ∧ (¬ xCK E (nI o).toNatClampNeg = 24 → _ ∧ (xCK E (nI o).toNatClampNeg = 28 → _) ∧ (¬ xCK E (nI o).toNatClampNeg = 28 → _))
    rw [e3]
    exact pk_eq c 24 (fun z => h24 z) (fun z => ⟨hino, pk_eq c 28 (fun z2 => h28 z2) (fun z2 => h22 z z2)⟩)
  exact ⟨hin, nm_e (nm_r (nI_1 a) ⟨hin, nm_r (e' := 27) (by rw [ec]; exact hk) (br_f (by decide) (br_f (by decide) (br_f (by decide) (br_f (by decide) (br_f (by decide) (br_f (by decide) (br_t rfl ⟨hin, key _ (by rw [ec]; exact hcp)⟩)))))))⟩)⟩
theorem xtd {post : SX → Prop} {a w c : Nat} (ha : a < 250) (hw : w < 500) (hk : xCK E a = nI c) (hP : tk_P c (xCV E a)) (hc : 4 ≤ c ∧ c ≠ 23 ∧ c ≠ 24 ∧ c ≠ 27 ∧ c ≠ 29) (hp : post (mX E oc (nI (w + 1)) fc (nI (a + 1)) ou lr sc me op (upd pt w (nI a)) (upd pd w (nI (tk_n c (xCV E a).toNatClampNeg))) lo rt)) : wpX_takeToken post (mX E oc (nI w) fc (nI a) ou lr sc me op pt pd lo rt) := by
  have hin : vp_in (nI a) 250 := pk_in a 250 ha
  have ec : (nI a).toNatClampNeg = a := nI_clamp (by omega)
  have h9 := hP.1
  have ne : ∀ b : Nat, b < 30 → c ≠ b → ¬ nI c = nI b := fun b hb h => ba_ne (by omega) (by omega) h
  exact ⟨hin, nm_e (nm_r (nI_1 a) ⟨hin, nm_r (e' := nI c) (by rw [ec]; exact hk) (br_f (ne 0 (by omega) (by omega)) (br_f (ne 1 (by omega) (by omega)) (br_f (ne 2 (by omega) (by omega)) (br_f (ne 3 (by omega) (by omega)) (br_f (ne 23 (by omega) (by omega)) (br_f (ne 24 (by omega) (by omega)) (br_f (ne 27 (by omega) (by omega)) (x_pend (c := c) hw ha hk hP (by omega) hp))))))))⟩)⟩
end
section
variable {E : SX} {Z : SY} {n m : Nat} {tk ln : Nat → Nat} {D B pr : Nat → Nat → Nat}
variable {wa he sc re gv gf : Int32} {me pc ba lo wt gt vl : Nat → Int32}
theorem yt0 {post : Int32 → SY → Prop} {f d k p : Nat} (hR : pR E Z n m tk ln D B pr) (hk : k < n) (hp : p < ln k) (hd : d < 10) (hpc : pc d = nI (550 + 50 * k + p)) (hc : pK Z k p = 0) (H : wkY post f (mY Z (nI (d + 1)) wa he 0 sc re gv (yV Z (550 + 50 * k + p)) 1 me (upd pc d (nI (550 + 50 * k + (p + 1)))) ba lo wt gt vl)) : wkY post (f + 1) (mY Z (nI (d + 1)) wa he 0 sc re gv gf 0 me pc ba lo wt gt vl) := by
  have hn5 := hR.1
  obtain ⟨_, h50, _, hT, _⟩ := hR.2.2.2.2.2.1 k hk
  obtain ⟨_, c2, _, c4⟩ := hT p hp
  have ed : nI (d + 1) - 1 = nI d := nI_pred d
  have hin1 : vp_in (nI d) 10 := pk_in d 10 hd
  have hin : vp_in (nI (550 + 50 * k + p)) 800 := pk_in (550 + 50 * k + p) 800 (by omega)
  have ec : (nI (550 + 50 * k + p)).toNatClampNeg = 550 + 50 * k + p := nI_clamp (by omega)
  have ecd : (nI d).toNatClampNeg = d := nI_clamp (by omega)
  rw [hc] at c2
  refine br_f (nI_nle (Nat.succ_pos _) (by omega)) (br_t rfl (br_t rfl (nm_r ed ⟨hin1, hin1, nm_r (e' := upd pc d (nI (550 + 50 * k + (p + 1)))) (by rw [ecd, hpc, nI_1, ba_nss (by omega)]; rfl) (nm_r (e' := nI (550 + 50 * k + p)) (by rw [ecd, hpc]) ⟨hin, nm_r (e' := 0) (by rw [ec]; exact c2) (br_t rfl ⟨hin, ?_⟩)⟩)⟩)))
  show wkY post f (mY Z (nI (d + 1)) wa he 0 sc re gv (yV Z (nI (550 + 50 * k + p)).toNatClampNeg) 1 me _ ba lo wt gt vl)
  rw [ec]; exact H
theorem yt1 {post : Int32 → SY → Prop} {f d k p q : Nat} (hR : pR E Z n m tk ln D B pr) (hk : k < n) (hp : p < ln k) (hd : d < 10) (hpc : pc d = nI (550 + 50 * k + p)) (hc : pK Z k p = 1) (hv : yV Z (550 + 50 * k + p) = nI q) (hq : q < 6) (H : wkY post f (mY Z (nI (d + 1)) wa he 0 sc re gv (lo (6 * d + q)) 1 me (upd pc d (nI (550 + 50 * k + (p + 1)))) ba lo wt gt vl)) : wkY post (f + 1) (mY Z (nI (d + 1)) wa he 0 sc re gv gf 0 me pc ba lo wt gt vl) := by
  have hn5 := hR.1
  obtain ⟨_, h50, _, hT, _⟩ := hR.2.2.2.2.2.1 k hk
  obtain ⟨_, c2, _, c4⟩ := hT p hp
  have ed : nI (d + 1) - 1 = nI d := nI_pred d
  have hin1 : vp_in (nI d) 10 := pk_in d 10 hd
  have hin : vp_in (nI (550 + 50 * k + p)) 800 := pk_in (550 + 50 * k + p) 800 (by omega)
  have ec : (nI (550 + 50 * k + p)).toNatClampNeg = 550 + 50 * k + p := nI_clamp (by omega)
  have ecd : (nI d).toNatClampNeg = d := nI_clamp (by omega)
  rw [hc] at c2
  refine br_f (nI_nle (Nat.succ_pos _) (by omega)) (br_t rfl (br_t rfl (nm_r ed ⟨hin1, hin1, nm_r (e' := upd pc d (nI (550 + 50 * k + (p + 1)))) (by rw [ecd, hpc, nI_1, ba_nss (by omega)]; rfl) (nm_r (e' := nI (550 + 50 * k + p)) (by rw [ecd, hpc]) ⟨hin, nm_r (e' := 1) (by rw [ec]; exact c2) (br_f (by decide) (br_t rfl ⟨hin, ?_⟩))⟩)⟩)))
  have e1 : (6 : Int32) * nI d + yV Z (nI (550 + 50 * k + p)).toNatClampNeg = nI (6 * d + q) := by rw [ec, hv, show (6 : Int32) = nI 6 from rfl, pk_mul, nI_add]
  refine ⟨pk_in (6 * d + q) 60 (by omega) e1, ?_⟩
  show wkY post f (mY Z (nI (d + 1)) wa he 0 sc re gv (lo ((6 : Int32) * nI d + yV Z (nI (550 + 50 * k + p)).toNatClampNeg).toNatClampNeg) 1 me _ ba lo wt gt vl)
  rw [e1, nI_clamp (by omega)]; exact H
theorem yt2 {post : Int32 → SY → Prop} {f d k p q r : Nat} (hR : pR E Z n m tk ln D B pr) (hk : k < n) (hp : p < ln k) (hd : d < 10) (hpc : pc d = nI (550 + 50 * k + p)) (hc : pK Z k p = 2) (hv : yV Z (550 + 50 * k + p) = nI q) (hq : q < 12) (hr : r < 48) (hpl : yPL Z q = nI r) (H : wkY post f (mY Z (nI (d + 1)) wa he 0 sc re gv (me r) 1 me (upd pc d (nI (550 + 50 * k + (p + 1)))) ba lo wt gt vl)) : wkY post (f + 1) (mY Z (nI (d + 1)) wa he 0 sc re gv gf 0 me pc ba lo wt gt vl) := by
  have hn5 := hR.1
  obtain ⟨_, h50, _, hT, _⟩ := hR.2.2.2.2.2.1 k hk
  obtain ⟨_, c2, _, c4⟩ := hT p hp
  have ed : nI (d + 1) - 1 = nI d := nI_pred d
  have hin1 : vp_in (nI d) 10 := pk_in d 10 hd
  have hin : vp_in (nI (550 + 50 * k + p)) 800 := pk_in (550 + 50 * k + p) 800 (by omega)
  have ec : (nI (550 + 50 * k + p)).toNatClampNeg = 550 + 50 * k + p := nI_clamp (by omega)
  have ecd : (nI d).toNatClampNeg = d := nI_clamp (by omega)
  rw [hc] at c2
  refine br_f (nI_nle (Nat.succ_pos _) (by omega)) (br_t rfl (br_t rfl (nm_r ed ⟨hin1, hin1, nm_r (e' := upd pc d (nI (550 + 50 * k + (p + 1)))) (by rw [ecd, hpc, nI_1, ba_nss (by omega)]; rfl) (nm_r (e' := nI (550 + 50 * k + p)) (by rw [ecd, hpc]) ⟨hin, nm_r (e' := 2) (by rw [ec]; exact c2) (br_f (by decide) (br_f (by decide) (br_t rfl ⟨hin, ?_⟩)))⟩)⟩)))
  have e1 : yV Z (nI (550 + 50 * k + p)).toNatClampNeg = nI q := by rw [ec, hv]
  have e2 : yPL Z (yV Z (nI (550 + 50 * k + p)).toNatClampNeg).toNatClampNeg = nI r := by rw [e1, nI_clamp (by omega), hpl]
  refine ⟨pk_in q 12 hq e1, pk_in r 48 hr e2, ?_⟩
  show wkY post f (mY Z (nI (d + 1)) wa he 0 sc re gv (me (yPL Z (yV Z (nI (550 + 50 * k + p)).toNatClampNeg).toNatClampNeg).toNatClampNeg) 1 me _ ba lo wt gt vl)
  rw [e2, nI_clamp (by omega)]; exact H
theorem yt3 {post : Int32 → SY → Prop} {f d k p q : Nat} (hR : pR E Z n m tk ln D B pr) (hk : k < n) (hp : p < ln k) (hd : d < 10) (hpc : pc d = nI (550 + 50 * k + p)) (hc : pK Z k p = 3) (hv : yV Z (550 + 50 * k + p) = nI q) (hq : q < 12) (H : wkY post f (mY Z (nI (d + 1)) wa he 0 sc re gv (yPL Z q) 1 me (upd pc d (nI (550 + 50 * k + (p + 1)))) ba lo wt gt vl)) : wkY post (f + 1) (mY Z (nI (d + 1)) wa he 0 sc re gv gf 0 me pc ba lo wt gt vl) := by
  have hn5 := hR.1
  obtain ⟨_, h50, _, hT, _⟩ := hR.2.2.2.2.2.1 k hk
  obtain ⟨_, c2, _, c4⟩ := hT p hp
  have ed : nI (d + 1) - 1 = nI d := nI_pred d
  have hin1 : vp_in (nI d) 10 := pk_in d 10 hd
  have hin : vp_in (nI (550 + 50 * k + p)) 800 := pk_in (550 + 50 * k + p) 800 (by omega)
  have ec : (nI (550 + 50 * k + p)).toNatClampNeg = 550 + 50 * k + p := nI_clamp (by omega)
  have ecd : (nI d).toNatClampNeg = d := nI_clamp (by omega)
  rw [hc] at c2
  refine br_f (nI_nle (Nat.succ_pos _) (by omega)) (br_t rfl (br_t rfl (nm_r ed ⟨hin1, hin1, nm_r (e' := upd pc d (nI (550 + 50 * k + (p + 1)))) (by rw [ecd, hpc, nI_1, ba_nss (by omega)]; rfl) (nm_r (e' := nI (550 + 50 * k + p)) (by rw [ecd, hpc]) ⟨hin, nm_r (e' := 3) (by rw [ec]; exact c2) (br_f (by decide) (br_f (by decide) (br_f (by decide) (br_t rfl ⟨hin, ?_⟩))))⟩)⟩)))
  have e1 : yV Z (nI (550 + 50 * k + p)).toNatClampNeg = nI q := by rw [ec, hv]
  refine ⟨pk_in q 12 hq e1, ?_⟩
  show wkY post f (mY Z (nI (d + 1)) wa he 0 sc re gv (yPL Z (yV Z (nI (550 + 50 * k + p)).toNatClampNeg).toNatClampNeg) 1 me _ ba lo wt gt vl)
  rw [e1, nI_clamp (by omega)]; exact H
theorem yt23 {post : Int32 → SY → Prop} {f d k p e : Nat} (hR : pR E Z n m tk ln D B pr) (hk : k < n) (hp : p < ln k) (hd : d < 10) (hpc : pc d = nI (550 + 50 * k + p)) (hc : pK Z k p = 23) (hoe : p < e) (he' : e < ln k) (h27 : pK Z k e = 27) (hb1 : 1 ≤ B k e) (hbe : B k (p + 1) = B k e) (hq : ∀ q, p < q → q ≤ e → B k e ≤ B k q) (H : wkY post f (mY Z (nI (d + 1)) wa he 0 sc re gv gf 0 me (upd (upd pc d (nI (550 + 50 * k + (p + 1)))) d (nI (550 + 50 * k + e + 1))) ba lo wt gt vl)) : wkY post (f + 1) (mY Z (nI (d + 1)) wa he 0 sc re gv gf 0 me pc ba lo wt gt vl) := by
  have hn5 := hR.1
  obtain ⟨_, h50, _, hT, _⟩ := hR.2.2.2.2.2.1 k hk
  obtain ⟨_, c2, _, c4⟩ := hT p hp
  have ed : nI (d + 1) - 1 = nI d := nI_pred d
  have hin1 : vp_in (nI d) 10 := pk_in d 10 hd
  have hin : vp_in (nI (550 + 50 * k + p)) 800 := pk_in (550 + 50 * k + p) 800 (by omega)
  have ec : (nI (550 + 50 * k + p)).toNatClampNeg = 550 + 50 * k + p := nI_clamp (by omega)
  have ecd : (nI d).toNatClampNeg = d := nI_clamp (by omega)
  rw [hc] at c2
  refine br_f (nI_nle (Nat.succ_pos _) (by omega)) (br_t rfl (br_t rfl (nm_r ed ⟨hin1, hin1, nm_r (e' := upd pc d (nI (550 + 50 * k + (p + 1)))) (by rw [ecd, hpc, nI_1, ba_nss (by omega)]; rfl) (nm_r (e' := nI (550 + 50 * k + p)) (by rw [ecd, hpc]) ⟨hin, nm_r (e' := 23) (by rw [ec]; exact c2) (br_f (by decide) (br_f (by decide) (br_f (by decide) (br_f (by decide) (br_t rfl (y_jump hR hk hd hoe he' (Or.inl ⟨rfl, h27⟩) hb1 hbe hq H))))))⟩)⟩)))
theorem yt27 {post : Int32 → SY → Prop} {f d k p g : Nat} (hR : pR E Z n m tk ln D B pr) (hk : k < n) (hp : p < ln k) (hd : d < 10) (hpc : pc d = nI (550 + 50 * k + p)) (hc : pK Z k p = 27) (hfe : g < p) (hb1 : 1 ≤ B k p) (hkf : pK Z k g = 22 ∨ pK Z k g = 24 ∨ pK Z k g = 28) (hbf : B k g + 1 = B k p) (hq : ∀ q, g < q → q ≤ p → B k p ≤ B k q) (h22 : pK Z k g = 22 → wkY post f (mY Z (nI (d + 1)) wa he 0 sc re gv gf 0 me (upd pc d (nI (550 + 50 * k + (p + 1)))) ba lo wt gt vl)) (h24 : pK Z k g = 24 → wkY post f (mY Z (nI (d + 1)) wa he 0 sc re gv gf 0 me (upd (upd pc d (nI (550 + 50 * k + (p + 1)))) d (nI (550 + 50 * k + g))) ba lo wt gt vl)) (h28 : pK Z k g = 28 → wpY_leave (fun u => wkY post f u) (mY Z (nI (d + 1)) wa he 0 sc re gv gf 0 me (upd pc d (nI (550 + 50 * k + (p + 1)))) ba lo wt gt vl) 0) : wkY post (f + 1) (mY Z (nI (d + 1)) wa he 0 sc re gv gf 0 me pc ba lo wt gt vl) := by
  have hn5 := hR.1
  obtain ⟨_, h50, _, hT, _⟩ := hR.2.2.2.2.2.1 k hk
  obtain ⟨_, c2, _, c4⟩ := hT p hp
  have ed : nI (d + 1) - 1 = nI d := nI_pred d
  have hin1 : vp_in (nI d) 10 := pk_in d 10 hd
  have hin : vp_in (nI (550 + 50 * k + p)) 800 := pk_in (550 + 50 * k + p) 800 (by omega)
  have ec : (nI (550 + 50 * k + p)).toNatClampNeg = 550 + 50 * k + p := nI_clamp (by omega)
  have ecd : (nI d).toNatClampNeg = d := nI_clamp (by omega)
  rw [hc] at c2
  refine br_f (nI_nle (Nat.succ_pos _) (by omega)) (br_t rfl (br_t rfl (nm_r ed ⟨hin1, hin1, nm_r (e' := upd pc d (nI (550 + 50 * k + (p + 1)))) (by rw [ecd, hpc, nI_1, ba_nss (by omega)]; rfl) (nm_r (e' := nI (550 + 50 * k + p)) (by rw [ecd, hpc]) ⟨hin, nm_r (e' := 27) (by rw [ec]; exact c2) (br_f (by decide) (br_f (by decide) (br_f (by decide) (br_f (by decide) (br_f (by decide) (br_t rfl (y_end hR hk hd hfe hp hb1 hkf hbf hq h22 h24 h28)))))))⟩)⟩)))
theorem yt24 {post : Int32 → SY → Prop} {f d k p s w : Nat} (hR : pR E Z n m tk ln D B pr) (hk : k < n) (hp : p < ln k) (hd : d < 10) (hpc : pc d = nI (550 + 50 * k + p)) (hc : pK Z k p = 24) (hs : s ≤ 200) (hw : w < 600) (h8 : s = 200 → wkY post f (mY Z (nI (d + 1)) (nI w) he 8 (nI s) re gv gf 0 me (upd pc d (nI (550 + 50 * k + (p + 1)))) ba lo wt gt vl)) (H : s < 200 → wkY post f (mY Z (nI (d + 1)) (nI (w + 1)) he 0 (nI (s + 1)) re gv gf 0 me (upd pc d (nI (550 + 50 * k + (p + 1)))) ba lo (upd wt w (nI (550 + 50 * k + p))) (upd gt w (nI 0)) vl)) : wkY post (f + 1) (mY Z (nI (d + 1)) (nI w) he 0 (nI s) re gv gf 0 me pc ba lo wt gt vl) := by
  have hn5 := hR.1
  obtain ⟨_, h50, _, hT, _⟩ := hR.2.2.2.2.2.1 k hk
  obtain ⟨_, c2, _, c4⟩ := hT p hp
  have ed : nI (d + 1) - 1 = nI d := nI_pred d
  have hin1 : vp_in (nI d) 10 := pk_in d 10 hd
  have hin : vp_in (nI (550 + 50 * k + p)) 800 := pk_in (550 + 50 * k + p) 800 (by omega)
  have ec : (nI (550 + 50 * k + p)).toNatClampNeg = 550 + 50 * k + p := nI_clamp (by omega)
  have ecd : (nI d).toNatClampNeg = d := nI_clamp (by omega)
  rw [hc] at c2
  refine br_f (nI_nle (Nat.succ_pos _) (by omega)) (br_t rfl (br_t rfl (nm_r ed ⟨hin1, hin1, nm_r (e' := upd pc d (nI (550 + 50 * k + (p + 1)))) (by rw [ecd, hpc, nI_1, ba_nss (by omega)]; rfl) (nm_r (e' := nI (550 + 50 * k + p)) (by rw [ecd, hpc]) ⟨hin, nm_r (e' := 24) (by rw [ec]; exact c2) (br_f (by decide) (br_f (by decide) (br_f (by decide) (br_f (by decide) (br_f (by decide) (br_f (by decide) (br_t rfl (pk_eq s 200 (fun e => h8 e) (fun e => ?_)))))))))⟩)⟩)))
  have hinw : vp_in (nI w) 600 := pk_in w 600 hw
  have ecw : (nI w).toNatClampNeg = w := nI_clamp (by omega)
  have hO : pO Z k p = 1 := by unfold pO; rw [hc]; rfl
  refine ⟨hin, ?_⟩
  show (yK Z (nI (550 + 50 * k + p)).toNatClampNeg = 24 → _) ∧ (¬ yK Z (nI (550 + 50 * k + p)).toNatClampNeg = 24 → _)
  rw [ec, c2]
  refine br_t rfl (nm_r (nI_1 s) ⟨hinw, nm_r (e' := upd wt w (nI (550 + 50 * k + p))) (by rw [ecw, ba_nss (by omega)]) (nm_r (nI_1 w) ⟨hinw, nm_r (e' := upd gt w (nI 0)) (by rw [ecw]; exact congrArg (upd gt w) (ba_nb (n := 0) (by omega))) ?_⟩)⟩)
  refine y_ops hR hk hp ?_
  rw [hO]
  exact br_f (by decide) (H (by omega))
theorem ytd {post : Int32 → SY → Prop} {f d k p w c : Nat} (hR : pR E Z n m tk ln D B pr) (hk : k < n) (hp : p < ln k) (hd : d < 10) (hpc : pc d = nI (550 + 50 * k + p)) (hc : pK Z k p = c) (hcc : 4 ≤ c ∧ c ≠ 23 ∧ c ≠ 24 ∧ c ≠ 27) (hw : w < 600) (H : wcY (pO Z k p) post f (mY Z (nI (d + 1)) (nI (w + 1)) he 0 sc re gv gf 0 me (upd pc d (nI (550 + 50 * k + (p + 1)))) ba lo (upd wt w (nI (550 + 50 * k + p))) (upd gt w (nI 0)) vl)) : wkY post (f + 1) (mY Z (nI (d + 1)) (nI w) he 0 sc re gv gf 0 me pc ba lo wt gt vl) := by
  have hn5 := hR.1
  obtain ⟨_, h50, _, hT, _⟩ := hR.2.2.2.2.2.1 k hk
  obtain ⟨_, c2, _, c4⟩ := hT p hp
  have ed : nI (d + 1) - 1 = nI d := nI_pred d
  have hin1 : vp_in (nI d) 10 := pk_in d 10 hd
  have hin : vp_in (nI (550 + 50 * k + p)) 800 := pk_in (550 + 50 * k + p) 800 (by omega)
  have ec : (nI (550 + 50 * k + p)).toNatClampNeg = 550 + 50 * k + p := nI_clamp (by omega)
  have ecd : (nI d).toNatClampNeg = d := nI_clamp (by omega)
  rw [hc] at c2 c4
  have h9 := c4.1
  have ne : ∀ b : Nat, b < 30 → c ≠ b → ¬ nI c = nI b := fun b hb h => ba_ne (by omega) (by omega) h
  refine br_f (nI_nle (Nat.succ_pos _) (by omega)) (br_t rfl (br_t rfl (nm_r ed ⟨hin1, hin1, nm_r (e' := upd pc d (nI (550 + 50 * k + (p + 1)))) (by rw [ecd, hpc, nI_1, ba_nss (by omega)]; rfl) (nm_r (e' := nI (550 + 50 * k + p)) (by rw [ecd, hpc]) ⟨hin, nm_r (e' := nI c) (by rw [ec]; exact c2) (br_f (ne 0 (by omega) (by omega)) (br_f (ne 1 (by omega) (by omega)) (br_f (ne 2 (by omega) (by omega)) (br_f (ne 3 (by omega) (by omega)) (br_f (ne 23 (by omega) (by omega)) (br_f (ne 27 (by omega) (by omega)) (br_f (ne 24 (by omega) (by omega)) ⟨hin, ?_⟩)))))))⟩)⟩)))
  have hinw : vp_in (nI w) 600 := pk_in w 600 hw
  have ecw : (nI w).toNatClampNeg = w := nI_clamp (by omega)
  show (yK Z (nI (550 + 50 * k + p)).toNatClampNeg = 24 → _) ∧ (¬ yK Z (nI (550 + 50 * k + p)).toNatClampNeg = 24 → _)
  rw [ec, c2]
  refine br_f (ne 24 (by omega) (by omega)) ⟨hinw, nm_r (e' := upd wt w (nI (550 + 50 * k + p))) (by rw [ecw, ba_nss (by omega)]) (nm_r (nI_1 w) ⟨hinw, nm_r (e' := upd gt w (nI 0)) (by rw [ecw]; exact congrArg (upd gt w) (ba_nb (n := 0) (by omega))) ?_⟩)⟩
  refine y_ops hR hk hp ?_
  have hO3 := pO3 hR hk hp
  refine pk_eq (pO Z k p) 0 (fun e => ?_) (fun e => ?_)
  · rw [e] at H; exact H
  · obtain ⟨q, hq⟩ : ∃ q, pO Z k p = q + 1 := ⟨pO Z k p - 1, by omega⟩
    rw [hq] at H; exact H
end
end
section
/-! a token is finished, on each side -/
def tv (c : Nat) (x y : Int32) : Int32 := if c = 6 then x + y else if c = 7 then x - y else if c = 8 then x * y else if c = 9 then (if y = 0 then -1 else x / y) else if c = 10 then (if y = 0 then x else x - x / y * y) else if c = 11 then x &&& y else if c = 12 then x ||| y else if c = 13 then x ^^^ y else if c = 14 then x <<< ((y &&& 31) &&& 31) else if c = 15 then x >>> ((y &&& 31) &&& 31) else if c = 16 then (if y ≤ x then 0 else 1) else (if x = y then 1 else 0)
theorem tv_12 {P : Nat → Prop} (h6 : P 6) (h7 : P 7) (h8 : P 8) (h9 : P 9) (h10 : P 10) (h11 : P 11) (h12 : P 12) (h13 : P 13) (h14 : P 14) (h15 : P 15) (h16 : P 16) (h17 : P 17) {c : Nat} (h1 : 6 ≤ c) (h2 : c ≤ 17) : P c := by
  rcases (by omega : c = 6 ∨ c = 7 ∨ c = 8 ∨ c = 9 ∨ c = 10 ∨ c = 11 ∨ c = 12 ∨ c = 13 ∨ c = 14 ∨ c = 15 ∨ c = 16 ∨ c = 17) with e | e | e | e | e | e | e | e | e | e | e | e <;> subst e <;> assumption
theorem tv_y {post : Int32 → Prop} {c : Nat} {x y : Int32} (h1 : 6 ≤ c) (h2 : c ≤ 17) : post (tv c x y) → wpY_two post (nI c) x y := by
  refine tv_12 (P := fun c => post (tv c x y) → wpY_two post (nI c) x y) ?_ ?_ ?_ ?_ ?_ ?_ ?_ ?_ ?_ ?_ ?_ ?_ h1 h2
  · intro hp; exact br_f (by decide) (br_f (by decide) (br_t (by decide) hp))
  · intro hp; exact br_f (by decide) (br_f (by decide) (br_f (by decide) (br_t (by decide) hp)))
  · intro hp; exact br_f (by decide) (br_f (by decide) (br_f (by decide) (br_f (by decide) (br_t (by decide) hp))))
  · intro hp
    have hp' : post (if y = 0 then -1 else x / y) := hp
    refine br_f (by decide) (br_f (by decide) (br_f (by decide) (br_f (by decide) (br_f (by decide) (br_t (by decide) (br_c (fun z => ?_) (fun z => ⟨z, ?_⟩)))))))
    · rw [if_pos z] at hp'; exact hp'
    · rw [if_neg z] at hp'; exact hp'
  · intro hp
    have hp' : post (if y = 0 then x else x - x / y * y) := hp
    refine br_f (by decide) (br_f (by decide) (br_f (by decide) (br_f (by decide) (br_f (by decide) (br_f (by decide) (br_t (by decide) (br_c (fun z => ?_) (fun z => ⟨z, ?_⟩))))))))
    · rw [if_pos z] at hp'; exact hp'
    · rw [if_neg z] at hp'; exact hp'
  · intro hp; exact br_f (by decide) (br_f (by decide) (br_f (by decide) (br_f (by decide) (br_f (by decide) (br_f (by decide) (br_f (by decide) (br_t (by decide) hp)))))))
  · intro hp; exact br_f (by decide) (br_f (by decide) (br_f (by decide) (br_f (by decide) (br_f (by decide) (br_f (by decide) (br_f (by decide) (br_f (by decide) (br_t (by decide) hp))))))))
  · intro hp; exact br_f (by decide) (br_f (by decide) (br_f (by decide) (br_f (by decide) (br_f (by decide) (br_f (by decide) (br_f (by decide) (br_f (by decide) (br_f (by decide) (br_t (by decide) hp)))))))))
  · intro hp; exact br_f (by decide) (br_f (by decide) (br_f (by decide) (br_f (by decide) (br_f (by decide) (br_f (by decide) (br_f (by decide) (br_f (by decide) (br_f (by decide) (br_f (by decide) (br_t (by decide) hp))))))))))
  · intro hp; exact br_f (by decide) (br_f (by decide) (br_f (by decide) (br_f (by decide) (br_f (by decide) (br_f (by decide) (br_f (by decide) (br_f (by decide) (br_f (by decide) (br_f (by decide) (br_f (by decide) (br_t (by decide) hp)))))))))))
  · intro hp
    have hp' : post (if y ≤ x then 0 else 1) := hp
    refine br_f (by decide) (br_f (by decide) (br_f (by decide) (br_f (by decide) (br_f (by decide) (br_f (by decide) (br_f (by decide) (br_f (by decide) (br_f (by decide) (br_f (by decide) (br_f (by decide) (br_f (by decide) (br_t (by decide) (br_c (fun z => ?_) (fun z => ?_))))))))))))))
    · rw [if_pos z] at hp'; exact hp'
    · rw [if_neg z] at hp'; exact hp'
  · intro hp
    have hp' : post (if x = y then 1 else 0) := hp
    refine br_f (by decide) (br_t (by decide) (br_c (fun z => ?_) (fun z => ?_)))
    · rw [if_pos z] at hp'; exact hp'
    · rw [if_neg z] at hp'; exact hp'
theorem tv_x {post : Int32 → Prop} {c : Nat} {x y : Int32} (h1 : 6 ≤ c) (h2 : c ≤ 17) : post (tv c x y) → (10 < nI c → wpX_combine post (nI c) x y) ∧ (¬ 10 < nI c → wpX_calculate post (nI c) x y) := by
  refine tv_12 (P := fun c => post (tv c x y) → (10 < nI c → wpX_combine post (nI c) x y) ∧ (¬ 10 < nI c → wpX_calculate post (nI c) x y)) ?_ ?_ ?_ ?_ ?_ ?_ ?_ ?_ ?_ ?_ ?_ ?_ h1 h2
  · intro hp; exact br_f (by decide) (br_f (by decide) (br_f (by decide) (br_t (by decide) hp)))
  · intro hp; exact br_f (by decide) (br_f (by decide) (br_f (by decide) (br_f (by decide) (br_t (by decide) hp))))
  · intro hp; exact br_f (by decide) (br_f (by decide) (br_f (by decide) (br_f (by decide) (br_f (by decide) (br_t (by decide) hp)))))
  · intro hp
    have hp' : post (if y = 0 then -1 else x / y) := hp
    refine br_f (by decide) (br_f (by decide) (br_f (by decide) (br_f (by decide) (br_f (by decide) (br_f (by decide) (br_t (by decide) (br_c (fun z => ?_) (fun z => ⟨z, ?_⟩))))))))
    · rw [if_pos z] at hp'; exact hp'
    · rw [if_neg z] at hp'; exact hp'
  · intro hp
    have hp' : post (if y = 0 then x else x - x / y * y) := hp
    refine br_f (by decide) (br_f (by decide) (br_t (by decide) (br_c (fun z => ?_) (fun z => ⟨z, ?_⟩))))
    · rw [if_pos z] at hp'; exact hp'
    · rw [if_neg z] at hp'; exact hp'
  · intro hp; exact br_t (by decide) (br_f (by decide) (br_f (by decide) (br_t (by decide) hp)))
  · intro hp; exact br_t (by decide) (br_f (by decide) (br_f (by decide) (br_f (by decide) (br_t (by decide) hp))))
  · intro hp; exact br_t (by decide) (br_f (by decide) (br_f (by decide) (br_f (by decide) (br_f (by decide) (br_t (by decide) hp)))))
  · intro hp; exact br_t (by decide) (br_f (by decide) (br_f (by decide) (br_f (by decide) (br_f (by decide) (br_f (by decide) (br_t (by decide) hp))))))
  · intro hp; exact br_t (by decide) (br_f (by decide) (br_f (by decide) (br_f (by decide) (br_f (by decide) (br_f (by decide) (br_f (by decide) (br_t (by decide) hp)))))))
  · intro hp
    have hp' : post (if y ≤ x then 0 else 1) := hp
    refine br_t (by decide) (br_f (by decide) (br_f (by decide) (br_f (by decide) (br_f (by decide) (br_f (by decide) (br_f (by decide) (br_f (by decide) (br_t (by decide) (br_c (fun z => ?_) (fun z => ?_))))))))))
    · rw [if_pos z] at hp'; exact hp'
    · rw [if_neg z] at hp'; exact hp'
  · intro hp
    have hp' : post (if x = y then 1 else 0) := hp
    refine br_t (by decide) (br_f (by decide) (br_t (by decide) (br_c (fun z => ?_) (fun z => ?_))))
    · rw [if_pos z] at hp'; exact hp'
    · rw [if_neg z] at hp'; exact hp'
section
variable {E : SX} {Z : SY} {n m : Nat} {tk ln : Nat → Nat} {D B pr : Nat → Nat → Nat}
variable {oc pc fc nx ou lr sc : Int32} {me op pt pd lo rt : Nat → Int32}
def wX_fE66 (post : SX → Prop) (z0 : Int32) (x : SX) : Prop := match x with
  | (f_draftCount, f_openCount, f_operandsDue, f_faultPlace, f_listCount, f_takenCount, f_culpritName, f_memorySize, f_operandCount, f_pendingCount, f_frameCount, f_next, f_outcome, f_lastResult, f_stepCount, a_draftKind, a_draftValue, a_draftPartner, a_openBlock, a_unitKind, a_unitValue, a_unitPartner, a_unitLength, a_listedUnit, a_listedAsLibrary, a_takenUnit, a_definition, a_isDuplicate, a_isWanted, a_codeKind, a_codeValue, a_codePartner, a_functionOf, a_placeOf, a_memory, a_operands, a_pendingToken, a_pendingDue, a_locals, a_returnTo) => wX_finishExpression_66 post z0 f_draftCount f_openCount f_operandsDue f_faultPlace f_listCount f_takenCount f_culpritName f_memorySize f_operandCount f_pendingCount f_frameCount f_next f_outcome f_lastResult f_stepCount a_draftKind a_draftValue a_draftPartner a_openBlock a_unitKind a_unitValue a_unitPartner a_unitLength a_listedUnit a_listedAsLibrary a_takenUnit a_definition a_isDuplicate a_isWanted a_codeKind a_codeValue a_codePartner a_functionOf a_placeOf a_memory a_operands a_pendingToken a_pendingDue a_locals a_returnTo
/-- the front of finishing, by kind -/
theorem xf_5 {post : SX → Prop} {a w nm : Nat} (ha : a < 250) (hw : w < 500) (hpt : pt w = nI a) (hk : xCK E a = 5) (hv : xCV E a &&& 15 = nI nm) (H : wpX_beginFunction post (mX E oc (nI w) fc nx ou lr sc me op pt pd lo rt) (nI nm)) : wpX_finishPending post (mX E oc (nI (w + 1)) fc nx ou lr sc me op pt pd lo rt) := by
  have hin : vp_in (nI a) 250 := pk_in a 250 ha
  have ec : (nI a).toNatClampNeg = a := nI_clamp (by omega)
  refine nm_r (nI_pred w) ⟨pk_in w 500 hw, nm_r (e' := nI a) (by rw [nI_clamp (by omega), hpt]) ⟨hin, nm_r (e' := 5) (by rw [ec]; exact hk) (br_t rfl ⟨hin, ?_⟩)⟩⟩
  have key : ∀ v, v = nI nm → wpX_beginFunction post (mX E oc (nI w) fc nx ou lr sc me op pt pd lo rt) v := fun v e => by rw [e]; exact H
  exact key _ (by rw [ec]; exact hv)
theorem xf_E {post : SX → Prop} {a w c : Nat} (ha : a < 250) (hw : w < 500) (hpt : pt w = nI a) (hk : xCK E a = nI c) (hc : c ≤ 18) (h5 : c ≠ 5) (H : wpX_finishExpression post (mX E oc (nI w) fc nx ou lr sc me op pt pd lo rt) (nI c)) : wpX_finishPending post (mX E oc (nI (w + 1)) fc nx ou lr sc me op pt pd lo rt) := by
  have hin : vp_in (nI a) 250 := pk_in a 250 ha
  have ec : (nI a).toNatClampNeg = a := nI_clamp (by omega)
  exact nm_r (nI_pred w) ⟨pk_in w 500 hw, nm_r (e' := nI a) (by rw [nI_clamp (by omega), hpt]) ⟨hin, nm_r (e' := nI c) (by rw [ec]; exact hk) (br_f (ba_ne (b := 5) (by omega) (by omega) h5) (br_f (nI_nlt (b := c) (a := 18) hc (by omega)) H))⟩⟩
theorem xf_S {post : SX → Prop} {a w c : Nat} (ha : a < 250) (hw : w < 500) (hpt : pt w = nI a) (hk : xCK E a = nI c) (hc : 18 < c) (hc9 : c ≤ 29) (H : wpX_finishStatement post (mX E oc (nI w) fc nx ou lr sc me op pt pd lo rt) (nI a)) : wpX_finishPending post (mX E oc (nI (w + 1)) fc nx ou lr sc me op pt pd lo rt) := by
  have hin : vp_in (nI a) 250 := pk_in a 250 ha
  have ec : (nI a).toNatClampNeg = a := nI_clamp (by omega)
  exact nm_r (nI_pred w) ⟨pk_in w 500 hw, nm_r (e' := nI a) (by rw [nI_clamp (by omega), hpt]) ⟨hin, nm_r (e' := nI c) (by rw [ec]; exact hk) (br_f (ba_ne (b := 5) (by omega) (by omega) (by omega)) (br_t (nI_lt (a := 18) hc (by omega)) H))⟩⟩
theorem xe_not {post : SX → Prop} {g w : Nat} (hg : g < 500) (hw : w < 500) (hp : post (mX E (nI (g + 1)) (nI (w + 1)) fc nx ou lr sc me (upd op g (if op g = 0 then 1 else 0)) pt (upd pd w (pd w - 1)) lo rt)) : wpX_finishExpression post (mX E (nI (g + 1)) (nI (w + 1)) fc nx ou lr sc me op pt pd lo rt) 18 := by
  unfold wpX_finishExpression
  refine x_pop hg (br_t rfl (br_c (fun z => x_give hg hw ?_) (fun z => x_give hg hw ?_)))
  · rw [if_pos z] at hp; exact hp
  · rw [if_neg z] at hp; exact hp
theorem xe_get {post : SX → Prop} {g w M : Nat} (hg : g < 500) (hw : w < 500) (hM : xMS E = nI M) (hM4 : M ≤ 48) (h1 : ∀ r, r < M → op g = nI r → post (mX E (nI (g + 1)) (nI (w + 1)) fc nx ou lr sc me (upd op g (me r)) pt (upd pd w (pd w - 1)) lo rt)) (h0 : (op g < 0 ∨ nI M ≤ op g) → post (mX E (nI g) (nI (w + 1)) fc nx 7 lr sc me op pt pd lo rt)) : wpX_finishExpression post (mX E (nI (g + 1)) (nI (w + 1)) fc nx ou lr sc me op pt pd lo rt) 4 := by
  unfold wpX_finishExpression
  exact x_pop hg (br_f (by decide) (br_t rfl (x_get hg hw hM hM4 h1 h0)))
theorem xe_two {post : SX → Prop} {g w c : Nat} (hg : g + 1 < 500) (hw : w < 500) (h6 : 6 ≤ c) (h17 : c ≤ 17) (hp : post (mX E (nI (g + 1)) (nI (w + 1)) fc nx ou lr sc me (upd op g (tv c (op g) (op (g + 1)))) pt (upd pd w (pd w - 1)) lo rt)) : wpX_finishExpression post (mX E (nI (g + 1 + 1)) (nI (w + 1)) fc nx ou lr sc me op pt pd lo rt) (nI c) := by
  unfold wpX_finishExpression
  refine x_pop hg (br_f (ba_ne (b := 18) (by omega) (by omega) (by omega)) (br_f (ba_ne (b := 4) (by omega) (by omega) (by omega)) (x_pop (by omega) ?_)))
  exact tv_x (post := fun r => wX_fE66 post r (mX E (nI g) (nI (w + 1)) fc nx ou lr sc me op pt pd lo rt)) h6 h17 (x_give (by omega) hw hp)
theorem xs_20 {post : SX → Prop} {a h d q : Nat} (ha : a < 250) (hh : h < 500) (hk : xCK E a = 20) (hv : xCV E a = nI q) (hq : q < 6) (hd : d < 10) (hp : post (mX E (nI h) pc (nI (d + 1)) nx ou lr sc me op pt pd (upd lo (6 * d + q) (op h)) rt)) : wpX_finishStatement post (mX E (nI (h + 1)) pc (nI (d + 1)) nx ou lr sc me op pt pd lo rt) (nI a) := by
  have hin : vp_in (nI a) 250 := pk_in a 250 ha
  have ec : (nI a).toNatClampNeg = a := nI_clamp (by omega)
  unfold wpX_finishStatement
  refine x_pop hh ⟨hin, nm_r (e' := 20) (by rw [ec]; exact hk) (br_f (by decide) (br_f (by decide) (br_t rfl ⟨hin, ?_⟩)))⟩
  have e1 : (nI (d + 1) - 1) * 6 + xCV E (nI a).toNatClampNeg = nI (6 * d + q) := by rw [ec, hv, nI_pred, show (6 : Int32) = nI 6 from rfl, pk_mul, nI_add, Nat.mul_comm]
  exact ⟨pk_in (6 * d + q) 60 (by omega) e1, nm_r (e' := upd lo (6 * d + q) (op h)) (congrArg (fun z => upd lo z (op h)) (by show ((nI (d + 1) - 1) * 6 + xCV E (nI a).toNatClampNeg).toNatClampNeg = _; rw [e1, nI_clamp (by omega)])) hp⟩
theorem xs_21 {post : SX → Prop} {a g M : Nat} (ha : a < 250) (hg : g + 1 < 500) (hk : xCK E a = 21) (hM : xMS E = nI M) (hM4 : M ≤ 48) (h1 : ∀ r, r < M → op g = nI r → post (mX E (nI g) pc fc nx ou lr sc (upd me r (op (g + 1))) op pt pd lo rt)) (h0 : (op g < 0 ∨ nI M ≤ op g) → post (mX E (nI g) pc fc nx 7 lr sc me op pt pd lo rt)) : wpX_finishStatement post (mX E (nI (g + 1 + 1)) pc fc nx ou lr sc me op pt pd lo rt) (nI a) := by
  have hin : vp_in (nI a) 250 := pk_in a 250 ha
  have ec : (nI a).toNatClampNeg = a := nI_clamp (by omega)
  unfold wpX_finishStatement
  refine x_pop hg ⟨hin, nm_r (e' := 21) (by rw [ec]; exact hk) (br_f (by decide) (br_f (by decide) (br_f (by decide) (br_t rfl ?_))))⟩
  unfold wpX_putWord
  refine x_pop (by omega) (x_inuse hM hM4 (fun r hr e => br_f (by decide) ⟨pk_in r 48 (by omega) e, nm_r (e' := upd me r (op (g + 1))) (by rw [e, nI_clamp (by omega)]) (h1 r hr e)⟩) (fun z => br_t rfl (h0 z)))
theorem xs_22 {post : SX → Prop} {a h c e : Nat} (ha : a < 250) (hh : h < 500) (hk : xCK E a = nI c) (hc : c = 22 ∨ c = 24) (hcp : xCP E a = nI e) (h0 : op h = 0 → post (mX E (nI h) pc fc (nI (e + 1)) ou lr sc me op pt pd lo rt)) (h1 : ¬ op h = 0 → post (mX E (nI h) pc fc nx ou lr sc me op pt pd lo rt)) : wpX_finishStatement post (mX E (nI (h + 1)) pc fc nx ou lr sc me op pt pd lo rt) (nI a) := by
  have hin : vp_in (nI a) 250 := pk_in a 250 ha
  have ec : (nI a).toNatClampNeg = a := nI_clamp (by omega)
  have e2 : xCP E (nI a).toNatClampNeg + 1 = nI (e + 1) := by rw [ec, hcp, nI_1]
  unfold wpX_finishStatement
  refine x_pop hh ⟨hin, nm_r (e' := nI c) (by rw [ec]; exact hk) ?_⟩
  rcases hc with z | z <;> subst z
  · exact br_f (by decide) (br_f (by decide) (br_f (by decide) (br_f (by decide) (br_t (by decide) (br_c (fun z => ⟨hin, nm_r (e' := nI (e + 1)) e2 (h0 z)⟩) (fun z => h1 z))))))
  · exact br_f (by decide) (br_f (by decide) (br_f (by decide) (br_f (by decide) (br_f (by decide) (br_f (by decide) (br_t (by decide) (br_c (fun z => ⟨hin, nm_r (e' := nI (e + 1)) e2 (h0 z)⟩) (fun z => h1 z))))))))
theorem xs_25 {post : SX → Prop} {a h : Nat} (ha : a < 250) (hh : h < 500) (hk : xCK E a = 25) (H : wpX_endFunction post (mX E (nI h) pc fc nx ou lr sc me op pt pd lo rt) (op h)) : wpX_finishStatement post (mX E (nI (h + 1)) pc fc nx ou lr sc me op pt pd lo rt) (nI a) := by
  have hin : vp_in (nI a) 250 := pk_in a 250 ha
  have ec : (nI a).toNatClampNeg = a := nI_clamp (by omega)
  unfold wpX_finishStatement
  exact x_pop hh ⟨hin, nm_r (e' := 25) (by rw [ec]; exact hk) (br_f (by decide) (br_f (by decide) (br_f (by decide) (br_f (by decide) (br_f (by decide) (br_f (by decide) (br_f (by decide) (br_t rfl H))))))))⟩
theorem xs_26 {post : SX → Prop} {a h : Nat} (ha : a < 250) (hh : h < 500) (hk : xCK E a = 26) (H : post (mX E (nI h) pc fc nx ou lr sc me op pt pd lo rt)) : wpX_finishStatement post (mX E (nI (h + 1)) pc fc nx ou lr sc me op pt pd lo rt) (nI a) := by
  have hin : vp_in (nI a) 250 := pk_in a 250 ha
  have ec : (nI a).toNatClampNeg = a := nI_clamp (by omega)
  unfold wpX_finishStatement
  exact x_pop hh ⟨hin, nm_r (e' := 26) (by rw [ec]; exact hk) (br_f (by decide) (br_t (by decide) H))⟩
end
section
variable {E : SX} {Z : SY} {n m : Nat} {tk ln : Nat → Nat} {D B pr : Nat → Nat → Nat}
variable {wa he fa sc re gv gf ha : Int32} {me pc ba lo wt gt vl : Nat → Int32}
def w99Y (post : SY → Prop) (x1 x2 x4 x5 z0 : Int32) (y : SY) : Prop := match y with
  | (g_place, g_culprit, g_listed, g_units, g_taken, g_used, g_depth, g_waiting, g_held, g_fault, g_steps, g_result, g_given, g_gift, g_has, b_kind, b_value, b_size, b_list, b_library, b_places, b_memory, b_wanted, b_pc, b_base, b_locals, b_waits, b_got, b_values) => wY_complete_99 post x1 x2 x4 x5 z0 g_place g_culprit g_listed g_units g_taken g_used g_depth g_waiting g_held g_fault g_steps g_result g_given g_gift g_has b_kind b_value b_size b_list b_library b_places b_memory b_wanted b_pc b_base b_locals b_waits b_got b_values
def w342Y (post : SY → Prop) (x2 x5 x6 : Int32) (y : SY) : Prop := match y with
  | (g_place, g_culprit, g_listed, g_units, g_taken, g_used, g_depth, g_waiting, g_held, g_fault, g_steps, g_result, g_given, g_gift, g_has, b_kind, b_value, b_size, b_list, b_library, b_places, b_memory, b_wanted, b_pc, b_base, b_locals, b_waits, b_got, b_values) => wY_complete_342 post x2 x5 x6 g_place g_culprit g_listed g_units g_taken g_used g_depth g_waiting g_held g_fault g_steps g_result g_given g_gift g_has b_kind b_value b_size b_list b_library b_places b_memory b_wanted b_pc b_base b_locals b_waits b_got b_values
theorem yc_pre {post : SY → Prop} {d k t w g c : Nat} (hR : pR E Z n m tk ln D B pr) (hk : k < n) (ht : t < ln k) (hw : w < 600) (hg : g + pO Z k t < 1200) (hO1 : 1 ≤ pO Z k t) (hwt : wt w = nI (550 + 50 * k + t)) (hc : pK Z k t = c) (h5 : c ≠ 5)
    (H1 : pO Z k t = 1 → w99Y post (nI (550 + 50 * k + t)) (nI c) (nI d) (vl g) 0 (mY Z (nI (d + 1)) (nI w) (nI g) fa sc re gv gf ha me pc ba lo wt gt vl)) (H2 : 2 ≤ pO Z k t → w99Y post (nI (550 + 50 * k + t)) (nI c) (nI d) (vl g) (vl (g + 1)) (mY Z (nI (d + 1)) (nI w) (nI g) fa sc re gv gf ha me pc ba lo wt gt vl)) : wpY_complete post (mY Z (nI (d + 1)) (nI (w + 1)) (nI (g + pO Z k t)) fa sc re gv gf ha me pc ba lo wt gt vl) := by
  have hn5 := hR.1
  have hO3 := pO3 hR hk ht
  obtain ⟨_, h50, _, hT, _⟩ := hR.2.2.2.2.2.1 k hk
  obtain ⟨_, c2, _, c4⟩ := hT t ht
  rw [hc] at c2 c4
  have h9 := c4.1
  have e1 : nI (w + 1) - 1 = nI w := nI_pred w
  have hin : vp_in (nI (550 + 50 * k + t)) 800 := pk_in (550 + 50 * k + t) 800 (by omega)
  have ec : (nI (550 + 50 * k + t)).toNatClampNeg = 550 + 50 * k + t := nI_clamp (by omega)
  refine nm_r e1 ⟨pk_in w 600 hw e1, nm_r (e' := nI (550 + 50 * k + t)) (by rw [e1, nI_clamp (by omega), hwt]) ⟨hin, nm_r (e' := nI c) (by rw [ec]; exact c2) (y_ops hR hk ht (nm_r (nI_pred d) (br_f (ba_ne (b := 5) (by omega) (by omega) h5) (nm_r (e' := nI g) (by rw [pk_sub (by omega)]; exact congrArg nI (by omega)) ⟨pk_in g 1200 (by omega), nm_r (e' := vl g) (by rw [nI_clamp (by omega)]) (pk_le (pO Z k t) 1 (fun z => H1 (by omega)) (fun z => ?_))⟩))))⟩⟩
  have e2 : nI g + 1 = nI (g + 1) := nI_1 g
  refine ⟨pk_in (g + 1) 1200 (by omega) e2, ?_⟩
  rw [e2, nI_clamp (show g + 1 < 2 ^ 31 by omega)]
  exact H2 (by omega)
theorem yc_5 {post : SY → Prop} {d k t w g nm : Nat} (hR : pR E Z n m tk ln D B pr) (hk : k < n) (ht : t < ln k) (hw : w < 600) (hwt : wt w = nI (550 + 50 * k + t)) (hc : pK Z k t = 5) (hv : yV Z (550 + 50 * k + t) &&& 15 = nI nm)
    (H : wpY_begin post (mY Z (nI (d + 1)) (nI w) (nI g) fa sc re gv gf ha me pc ba lo wt gt vl) (nI nm) (nI (pO Z k t))) : wpY_complete post (mY Z (nI (d + 1)) (nI (w + 1)) (nI g) fa sc re gv gf ha me pc ba lo wt gt vl) := by
  have hn5 := hR.1
  obtain ⟨_, h50, _, hT, _⟩ := hR.2.2.2.2.2.1 k hk
  obtain ⟨_, c2, _, c4⟩ := hT t ht
  rw [hc] at c2
  have e1 : nI (w + 1) - 1 = nI w := nI_pred w
  have hin : vp_in (nI (550 + 50 * k + t)) 800 := pk_in (550 + 50 * k + t) 800 (by omega)
  have ec : (nI (550 + 50 * k + t)).toNatClampNeg = 550 + 50 * k + t := nI_clamp (by omega)
  have key : ∀ v, v = nI nm → wpY_begin post (mY Z (nI (d + 1)) (nI w) (nI g) fa sc re gv gf ha me pc ba lo wt gt vl) v (nI (pO Z k t)) := fun v e => by rw [e]; exact H
  exact nm_r e1 ⟨pk_in w 600 hw e1, nm_r (e' := nI (550 + 50 * k + t)) (by rw [e1, nI_clamp (by omega), hwt]) ⟨hin, nm_r (e' := nI 5) (by rw [ec]; exact c2) (y_ops hR hk ht (nm_e (br_t (by decide) ⟨hin, key _ (by show yV Z (nI (550 + 50 * k + t)).toNatClampNeg &&& 15 = _; rw [ec]; exact hv)⟩)))⟩⟩
theorem y9_two {post : SY → Prop} {de x1 x4 x5 z0 : Int32} {c : Nat} (h6 : 6 ≤ c) (h17 : c ≤ 17) (H : post (mY Z de wa he fa sc re gv (tv c x5 z0) 1 me pc ba lo wt gt vl)) : w99Y post x1 (nI c) x4 x5 z0 (mY Z de wa he fa sc re gv gf ha me pc ba lo wt gt vl) := by
  have h : w342Y post (nI c) x5 z0 (mY Z de wa he fa sc re gv gf ha me pc ba lo wt gt vl) := tv_y h6 h17 H
  exact br_f (nI_nlt (a := c) (b := 4) (by omega) (by omega)) (br_f (nI_nlt (a := 26) (by omega) (by omega)) (br_f (ba_ne (b := 4) (by omega) (by omega) (by omega)) (br_f (ba_ne (b := 5) (by omega) (by omega) (by omega)) (pk_eq c 6 (fun _ => h) (fun z6 => pk_eq c 7 (fun _ => h) (fun z7 => pk_eq c 8 (fun _ => h) (fun z8 => pk_eq c 9 (fun _ => h) (fun z9 => pk_eq c 10 (fun _ => h) (fun z10 => pk_eq c 11 (fun _ => h) (fun z11 => pk_eq c 12 (fun _ => h) (fun z12 => pk_eq c 13 (fun _ => h) (fun z13 => pk_eq c 14 (fun _ => h) (fun z14 => pk_eq c 15 (fun _ => h) (fun z15 => pk_eq c 16 (fun _ => h) (fun z16 => pk_eq c 17 (fun _ => h) (fun z17 => False.elim (by omega)))))))))))))))))
theorem y9_4 {post : SY → Prop} {de x1 x4 x5 z0 : Int32} {M : Nat} (hM : yUS Z = nI M) (hM4 : M ≤ 48) (h1 : ∀ r, r < M → x5 = nI r → post (mY Z de wa he fa sc re gv (me r) 1 me pc ba lo wt gt vl)) (h0 : (x5 < 0 ∨ nI M ≤ x5) → post (mY Z de wa he 7 sc re gv gf ha me pc ba lo wt gt vl)) : w99Y post x1 4 x4 x5 z0 (mY Z de wa he fa sc re gv gf ha me pc ba lo wt gt vl) := by
  refine br_f (by decide) (br_f (by decide) (br_t rfl ?_))
  show wpY_out _ x5 (yUS Z)
  rw [hM]
  rcases pk_ix x5 (n := M) (by omega) with z | z | ⟨r, hr, e⟩
  · exact yu_out1 (Or.inl z) (br_f (by decide) (h0 (Or.inl z)))
  · exact yu_out1 (Or.inr z) (br_f (by decide) (h0 (Or.inr z)))
  · subst e
    refine yu_out hr (by omega) (br_t rfl ⟨pk_in r 48 (by omega), ?_⟩)
    have := h1 r hr rfl
    rw [nI_clamp (show r < 2 ^ 31 by omega)]
    exact this
theorem y9_18 {post : SY → Prop} {de x1 x4 x5 z0 : Int32} (H : post (mY Z de wa he fa sc re gv (if x5 = 0 then 1 else 0) 1 me pc ba lo wt gt vl)) : w99Y post x1 18 x4 x5 z0 (mY Z de wa he fa sc re gv gf ha me pc ba lo wt gt vl) := by
  refine br_f (by decide) (br_f (by decide) (br_f (by decide) (br_f (by decide) (br_f (by decide) (br_f (by decide) (br_f (by decide) (br_f (by decide) (br_f (by decide) (br_f (by decide) (br_f (by decide) (br_f (by decide) (br_f (by decide) (br_f (by decide) (br_f (by decide) (br_f (by decide) (br_t (by decide) (br_c (fun z => ?_) (fun z => ?_))))))))))))))))))
  · rw [if_pos z] at H; exact H
  · rw [if_neg z] at H; exact H
theorem y9_20 {post : SY → Prop} {de x5 z0 : Int32} {a d q : Nat} (ha' : a < 800) (hv : yV Z a = nI q) (hq : q < 6) (hd : d < 10) (H : post (mY Z de wa he fa sc re gv gf ha me pc ba (upd lo (6 * d + q) x5) wt gt vl)) : w99Y post (nI a) 20 (nI d) x5 z0 (mY Z de wa he fa sc re gv gf ha me pc ba lo wt gt vl) := by
  have e1 : (6 : Int32) * nI d + yV Z (nI a).toNatClampNeg = nI (6 * d + q) := by rw [nI_clamp (by omega), hv, show (6 : Int32) = nI 6 from rfl, pk_mul, nI_add]
  exact br_f (by decide) (br_f (by decide) (br_f (by decide) (br_f (by decide) (br_f (by decide) (br_f (by decide) (br_f (by decide) (br_f (by decide) (br_f (by decide) (br_f (by decide) (br_f (by decide) (br_f (by decide) (br_f (by decide) (br_f (by decide) (br_f (by decide) (br_f (by decide) (br_f (by decide) (br_f (by decide) (br_t (by decide) ⟨pk_in a 800 ha', pk_in (6 * d + q) 60 (by omega) e1, nm_r (e' := upd lo (6 * d + q) x5) (congrArg (fun z => upd lo z x5) (by show ((6 : Int32) * nI d + yV Z (nI a).toNatClampNeg).toNatClampNeg = _; rw [e1, nI_clamp (by omega)])) H⟩))))))))))))))))))
theorem y9_21 {post : SY → Prop} {de x1 x4 x5 z0 : Int32} {M : Nat} (hM : yUS Z = nI M) (hM4 : M ≤ 48) (h1 : ∀ r, r < M → x5 = nI r → post (mY Z de wa he fa sc re gv gf ha (upd me r z0) pc ba lo wt gt vl)) (h0 : (x5 < 0 ∨ nI M ≤ x5) → post (mY Z de wa he 7 sc re gv gf ha me pc ba lo wt gt vl)) : w99Y post x1 21 x4 x5 z0 (mY Z de wa he fa sc re gv gf ha me pc ba lo wt gt vl) := by
  refine br_f (by decide) (br_f (by decide) (br_f (by decide) (br_f (by decide) (br_f (by decide) (br_f (by decide) (br_f (by decide) (br_f (by decide) (br_f (by decide) (br_f (by decide) (br_f (by decide) (br_f (by decide) (br_f (by decide) (br_f (by decide) (br_f (by decide) (br_f (by decide) (br_f (by decide) (br_f (by decide) (br_f (by decide) (br_t (by decide) ?_)))))))))))))))))))
  unfold wpY_poke
  show wpY_out _ x5 (yUS Z)
  rw [hM]
  rcases pk_ix x5 (n := M) (by omega) with z | z | ⟨r, hr, e⟩
  · exact yu_out1 (Or.inl z) (br_f (by decide) (br_t rfl (h0 (Or.inl z))))
  · exact yu_out1 (Or.inr z) (br_f (by decide) (br_t rfl (h0 (Or.inr z))))
  · subst e
    exact yu_out hr (by omega) (br_t rfl ⟨pk_in r 48 (by omega), nm_r (e' := upd me r z0) (by rw [nI_clamp (by omega)]) (br_f (by decide) (h1 r hr rfl))⟩)
theorem y9_22 {post : SY → Prop} {de x1 x4 x5 z0 : Int32} (h0 : x5 = 0 → wpY_jump post (mY Z de wa he fa sc re gv gf ha me pc ba lo wt gt vl) x1 0) (h1 : ¬ x5 = 0 → post (mY Z de wa he fa sc re gv gf ha me pc ba lo wt gt vl)) : w99Y post x1 22 x4 x5 z0 (mY Z de wa he fa sc re gv gf ha me pc ba lo wt gt vl) := by
  exact br_f (by decide) (br_f (by decide) (br_f (by decide) (br_f (by decide) (br_f (by decide) (br_f (by decide) (br_f (by decide) (br_f (by decide) (br_f (by decide) (br_f (by decide) (br_f (by decide) (br_f (by decide) (br_f (by decide) (br_f (by decide) (br_f (by decide) (br_f (by decide) (br_f (by decide) (br_f (by decide) (br_f (by decide) (br_f (by decide) (br_t (by decide) (br_c h0 h1)))))))))))))))))))))
theorem y9_24 {post : SY → Prop} {de x1 x4 x5 z0 : Int32} (h0 : x5 = 0 → wpY_jump post (mY Z de wa he fa sc re gv gf ha me pc ba lo wt gt vl) x1 1) (h1 : ¬ x5 = 0 → post (mY Z de wa he fa sc re gv gf ha me pc ba lo wt gt vl)) : w99Y post x1 24 x4 x5 z0 (mY Z de wa he fa sc re gv gf ha me pc ba lo wt gt vl) := by
  exact br_f (by decide) (br_f (by decide) (br_f (by decide) (br_f (by decide) (br_f (by decide) (br_f (by decide) (br_f (by decide) (br_f (by decide) (br_f (by decide) (br_f (by decide) (br_f (by decide) (br_f (by decide) (br_f (by decide) (br_f (by decide) (br_f (by decide) (br_f (by decide) (br_f (by decide) (br_f (by decide) (br_f (by decide) (br_f (by decide) (br_f (by decide) (br_f (by decide) (br_t (by decide) (br_c h0 h1)))))))))))))))))))))))
theorem y9_25 {post : SY → Prop} {de x1 x4 x5 z0 : Int32} (H : wpY_leave post (mY Z de wa he fa sc re gv gf ha me pc ba lo wt gt vl) x5) : w99Y post x1 25 x4 x5 z0 (mY Z de wa he fa sc re gv gf ha me pc ba lo wt gt vl) := by
  exact br_f (by decide) (br_f (by decide) (br_f (by decide) (br_f (by decide) (br_f (by decide) (br_f (by decide) (br_f (by decide) (br_f (by decide) (br_f (by decide) (br_f (by decide) (br_f (by decide) (br_f (by decide) (br_f (by decide) (br_f (by decide) (br_f (by decide) (br_f (by decide) (br_f (by decide) (br_f (by decide) (br_f (by decide) (br_f (by decide) (br_f (by decide) (br_f (by decide) (br_f (by decide) (br_t (by decide) H)))))))))))))))))))))))
theorem y9_26 {post : SY → Prop} {de x1 x4 x5 z0 : Int32} (H : post (mY Z de wa he fa sc re gv gf ha me pc ba lo wt gt vl)) : w99Y post x1 26 x4 x5 z0 (mY Z de wa he fa sc re gv gf ha me pc ba lo wt gt vl) := by
  exact br_f (by decide) (br_f (by decide) (br_f (by decide) (br_f (by decide) (br_f (by decide) (br_f (by decide) (br_f (by decide) (br_f (by decide) (br_f (by decide) (br_f (by decide) (br_f (by decide) (br_f (by decide) (br_f (by decide) (br_f (by decide) (br_f (by decide) (br_f (by decide) (br_f (by decide) (br_f (by decide) (br_f (by decide) (br_f (by decide) (br_f (by decide) (br_f (by decide) (br_f (by decide) (br_f (by decide) (br_t (by decide) H))))))))))))))))))))))))
end
end
section
/-! the two machines run alike -/
section
variable {E : SX} {Z : SY} {n m : Nat} {tk ln : Nat → Nat} {D B pr : Nat → Nat → Nat}
def tpD (pd : Nat → Int32) (w : Nat) : Prop := w = 0 ∨ ∃ w', w = w' + 1 ∧ w' < 500 ∧ ∃ q, pd w' = nI (q + 1) ∧ q < 100
theorem top_due (hR : pR E Z n m tk ln D B pr) {d k p lo ho j h q s M : Nat} {me my pt pd wt gt rt pc ba : Nat → Int32} (hF : mF Z n m tk ln D B d k p lo ho j h (q + 1) s M me my pt pd wt gt rt pc ba) : tpD pd (lo + j) := by
  obtain ⟨f1, f2, f3, f4, f5, f6, f7, f8, f9, f10, f11, f12⟩ := hF
  have h50 := (hR.2.2.2.2.2.1 k f1).2.1
  cases j with
  | succ j =>
    obtain ⟨t, g, du, ⟨p1, p2, p3, p4⟩, r1, r2, r3, r4, r5, r6, r7, r8, r9, r10, r11⟩ := f11
    have := pO3 hR f1 r2
    exact Or.inr ⟨lo + j, rfl, by omega, q, p2, by omega⟩
  | zero =>
    cases d with
    | zero => exact Or.inl f12.1
    | succ d =>
      obtain ⟨k', p', lo', ho', j', due, M', r1, r2, r3, r4, r5, r6, r7, r8, r9, r10, r11, r12, r13⟩ := f12
      obtain ⟨t, g, du, ⟨p1, p2, p3, p4⟩, s1, s2, s3, s4, s5, s6, s7, s8, s9, s10, s11⟩ := r9
      have := pO3 hR r1 s2
      refine Or.inr ⟨lo' + j', by omega, by omega, due - 1, ?_, by omega⟩
      rw [p2]; exact congrArg nI (by omega)
theorem s_ret (hR : pR E Z n m tk ln D B pr) {t μ : Nat} (IH : iH E Z n m tk ln D B (t + 1) μ) {d lo ho s M : Nat} {me my op lc pt pd wt gt rt pc ba : Nat → Int32} {nx wa gv gf v : Int32} (hd : d < 10) (hs : s ≤ 200) (hm : ∀ i, i < m → me i = my i) (hba : ba d = nI lo) (hf : fr Z n D B tk ln pt pd wt gt rt pc ba d lo ho M) (hmu : 160 * (200 - s) + M + lo < μ) :
    sG E Z m (fun post f => wpX_endFunction (kX post f t) (mX E (nI ho) (nI lo) (nI (d + 1)) nx (-2) 0 (nI s) me op pt pd lc rt) v) (fun post f => wpY_leave (fun u => wkY post f u) (mY Z (nI (d + 1)) wa (nI ho) 0 (nI s) 0 gv gf 0 my pc ba lc wt gt op) v) := by
  cases d with
  | zero =>
    refine ⟨0, mX E (nI ho) (nI lo) (nI 0) (rt 0) 0 v (nI s) me op pt pd lc rt, mY Z (nI 0) (ba 0) (nI ho) 0 (nI s) v v gf 0 my pc ba lc wt gt op, ⟨_, _, _, _, _, _, _, _, _, _, _, _, _, _, _, _, _, _, _, _, _, _, _, rfl, rfl, hm⟩, fun post hp => ⟨1, ?_⟩, fun post hp => ⟨1, ?_⟩⟩
    · exact x_end (by omega) (fun _ => kX_of (x_over (u := E) (by decide) hp)) (fun z => absurd rfl z)
    · exact y_leave (by omega) (fun _ => br_t (by decide) (br_t rfl hp)) (fun z => absurd rfl z)
  | succ d =>
    obtain ⟨k, p, lo', ho', j, due, M', r1, r2, r3, r4, r5, r6, r7, r8, r9, r10, r11, r12, r13⟩ := hf
    subst r7
    have h50 := (hR.2.2.2.2.2.1 k r1).2.1
    have := s_give hR IH (v := v) (op := op) (lc := lc) (gv := gv) r1 r2 r3 (by omega) hs r5 r6 hm r11 (by omega) r9 r8 r13 (by omega)
    refine sG_map this (fun post f hf => ⟨f, ?_⟩) (fun post f hf => ⟨f, ?_⟩)
    · refine x_end (by omega) (fun z => absurd z (by omega)) (fun _ => ?_)
      rw [r4]
      exact x_give (w := lo' + j) (by omega) (by omega) (kX_of hf)
    · refine y_leave (by omega) (fun z => absurd z (by omega)) (fun _ => ?_)
      rw [hba]
      exact hf
/-- a token that is a value -/
theorem s_leaf (hR : pR E Z n m tk ln D B pr) {t μ : Nat} (ht : t < 1000000) (IH : iH E Z n m tk ln D B (t + 1) μ) {d k p lo ho j h q s M : Nat} {me my op lc pt pd wt gt rt pc ba : Nat → Int32} {gv gf v : Int32} (hF : mF Z n m tk ln D B d k p lo ho j h (q + 1) s M me my pt pd wt gt rt pc ba) (hmu : 160 * (200 - s) + M + wg Z k p j + (lo + j) < μ + 1) (hK : pK Z k p ≤ 3)
    (hX : ∀ (w : Nat) (P : SX → Prop), w < 500 → P (mX E (nI (h + 1)) (nI (w + 1)) (nI (d + 1)) (nI (50 * tk k + p + 1)) (-2) 0 (nI s) me (upd op h v) pt (upd pd w (pd w - 1)) lc rt) → wpX_takeToken P (mX E (nI h) (nI (w + 1)) (nI (d + 1)) (nI (50 * tk k + p)) (-2) 0 (nI s) me op pt pd lc rt))
    (hY : ∀ (w : Nat) (post : Int32 → SY → Prop) (f : Nat), wkY post f (mY Z (nI (d + 1)) (nI w) (nI h) 0 (nI s) 0 gv v 1 my (upd pc d (nI (550 + 50 * k + (p + 1)))) ba lc wt gt op) → wkY post (f + 1) (mY Z (nI (d + 1)) (nI w) (nI h) 0 (nI s) 0 gv gf 0 my pc ba lc wt gt op)) :
    sG E Z m (fun post f => wkX post f (nI t) (xs E tk d k p (lo + j) h s me op lc pt pd rt)) (fun post f => wcY (q + 1) post f (ys Z d (lo + j) h s gv gf 0 my op lc pc ba wt gt)) := by
  have htop := top_due hR hF
  obtain ⟨f1, f2, f3, f4, f5, f6, f7, f8, f9, f10, f11, f12⟩ := hF
  obtain ⟨h5, h50, _, hT, hS, _⟩ := hR.2.2.2.2.2.1 k f1
  have hD := in_E hS f2 f3 (by omega)
  obtain ⟨g1, g2, g3⟩ := in_next hS f2 f3 (by omega)
  have hO : pO Z k p = 0 := by unfold pO tk_n; rw [if_pos (by omega)]
  rw [hO] at g3
  cases j with
  | zero => exact absurd f11.1 (by omega)
  | succ j =>
    have hdx : D k p = D k (p + 1) + 1 := by clear f11 f12; omega
    rw [hdx] at f11
    rw [wg_pl (by omega)] at hmu
    have := s_give hR IH (v := v) (op := op) (lc := lc) (gv := gv) (pc := upd pc d (nI (550 + 50 * k + (p + 1)))) f1 g1 g2 f4 f5 pk_us f7 f8 f9 (by omega) (cn_adv (by omega) (fun q a b => by rw [show q = p by omega]; exact hD) f11) (by omega) (fr_ext (fun _ _ => ⟨rfl, rfl, rfl, rfl⟩) (fun _ _ => rfl) (fun i hi => ⟨pk_un (by omega), rfl⟩) f12) (by omega)
    refine sG_map this (fun post f hf => ⟨f + 1, ?_⟩) (fun post f hf => ⟨f + 1, ?_⟩)
    · exact x_take ht (by omega) htop (hX (lo + j) _ (by omega) (kX_of hf))
    · exact hY (lo + j + 1) post f hf
theorem s_k0 (hR : pR E Z n m tk ln D B pr) {t μ : Nat} (ht : t < 1000000) (IH : iH E Z n m tk ln D B (t + 1) μ) {d k p lo ho j h q s M : Nat} {me my op lc pt pd wt gt rt pc ba : Nat → Int32} {gv gf : Int32} (hF : mF Z n m tk ln D B d k p lo ho j h (q + 1) s M me my pt pd wt gt rt pc ba) (hmu : 160 * (200 - s) + M + wg Z k p j + (lo + j) < μ + 1) (hK : pK Z k p ≤ 3) :
    sG E Z m (fun post f => wkX post f (nI t) (xs E tk d k p (lo + j) h s me op lc pt pd rt)) (fun post f => wcY (q + 1) post f (ys Z d (lo + j) h s gv gf 0 my op lc pc ba wt gt)) := by
  have hF' := hF
  obtain ⟨f1, f2, f3, f4, f5, f6, f7, f8, f9, f10, f11, f12⟩ := hF'
  have hR' := hR
  obtain ⟨_, hm4, _, _, hms, hrow, hpo, _, huse⟩ := hR'
  obtain ⟨h5, h50, _, hT, hS, _⟩ := hrow k f1
  obtain ⟨c1, c2, c3, c4⟩ := hT p f2
  have ha : 50 * tk k + p < 250 := by omega
  have hh : h < 500 := by omega
  rcases (by omega : pK Z k p = 0 ∨ pK Z k p = 1 ∨ pK Z k p = 2 ∨ pK Z k p = 3) with e | e | e | e
  · rw [e] at c1
    refine s_leaf hR ht IH (v := xCV E (50 * tk k + p)) hF hmu hK (fun w P hw hP => xt0 ha hh hw c1 hP) (fun w post f hf => yt0 hR f1 f2 f4 f6 e ?_)
    rw [← c3]; exact hf
  · obtain ⟨q', hq, hv⟩ := c4.2.2.1 (Or.inl e)
    rw [e] at c1
    exact s_leaf hR ht IH (v := lc (6 * d + q')) hF hmu hK (fun w P hw hP => xt1 ha hh hw c1 (c3.trans hv) hq f4 hP) (fun w post f hf => yt1 hR f1 f2 f4 f6 e hv hq hf)
  · obtain ⟨q', hq, hv⟩ := c4.2.2.2.1 (Or.inl e)
    obtain ⟨r, hr, hpl⟩ := (huse k f1 p f2).1 e
    have eV : pV Z k p = q' := by
      show (yV Z (550 + 50 * k + p)).toNatClampNeg = q'
      rw [hv, nI_clamp (by omega)]
    rw [eV] at hpl
    rw [e] at c1
    refine s_leaf hR ht IH (v := me r) hF hmu hK (fun w P hw hP => xt2 ha hh hw c1 (c3.trans hv) hq ((hpo q' hq).trans hpl) hr hms hm4 hP) (fun w post f hf => yt2 hR f1 f2 f4 f6 e hv hq (by omega) hpl ?_)
    rw [← f8 r hr]; exact hf
  · obtain ⟨q', hq, hv⟩ := c4.2.2.2.1 (Or.inr e)
    rw [e] at c1
    refine s_leaf hR ht IH (v := xPO E q') hF hmu hK (fun w P hw hP => xt3 ha hh hw c1 (c3.trans hv) hq hP) (fun w post f hf => yt3 hR f1 f2 f4 f6 e hv hq ?_)
    rw [← hpo q' hq]; exact hf
/-- a token that waits for operands -/
theorem s_kd (hR : pR E Z n m tk ln D B pr) {t μ : Nat} (ht : t < 1000000) (IH : iH E Z n m tk ln D B (t + 1) μ) {d k p lo ho j h q s M : Nat} {me my op lc pt pd wt gt rt pc ba : Nat → Int32} {gv gf : Int32} (hF : mF Z n m tk ln D B d k p lo ho j h (q + 1) s M me my pt pd wt gt rt pc ba) (hmu : 160 * (200 - s) + M + wg Z k p j + (lo + j) < μ + 1) (hK : 4 ≤ pK Z k p ∧ pK Z k p ≠ 23 ∧ pK Z k p ≠ 24 ∧ pK Z k p ≠ 27) :
    sG E Z m (fun post f => wkX post f (nI t) (xs E tk d k p (lo + j) h s me op lc pt pd rt)) (fun post f => wcY (q + 1) post f (ys Z d (lo + j) h s gv gf 0 my op lc pc ba wt gt)) := by
  have htop := top_due hR hF
  obtain ⟨f1, f2, f3, f4, f5, f6, f7, f8, f9, f10, f11, f12⟩ := hF
  obtain ⟨h5, h50, _, hT, hS, _⟩ := hR.2.2.2.2.2.1 k f1
  obtain ⟨c1, c2, c3, c4⟩ := hT p f2
  have h29 : pK Z k p ≠ 29 := fun z => by
    by_cases zd : D k p = 0
    · have := ((hS.2.2.2 p f2 f3).2.2.1 zd).2; omega
    · have := (hS.2.2.2 p f2 f3).2.1 (by omega); omega
  obtain ⟨g1, g2, g3⟩ := in_next hS f2 f3 hK.2.2.2
  rw [wg_pl (by omega)] at hmu
  have hO3 := pO3 hR f1 f2
  have hext : ∀ i, i < lo + j → upd pt (lo + j) (nI (50 * tk k + p)) i = pt i ∧ upd pd (lo + j) (nI (pO Z k p)) i = pd i ∧ upd wt (lo + j) (nI (550 + 50 * k + p)) i = wt i ∧ upd gt (lo + j) (nI 0) i = gt i := fun i hi => ⟨pk_un (by omega), pk_un (by omega), pk_un (by omega), pk_un (by omega)⟩
  have := IH d k (p + 1) lo ho (j + 1) h (pO Z k p) s M me my op lc (upd pt (lo + j) (nI (50 * tk k + p))) (upd pd (lo + j) (nI (pO Z k p))) (upd wt (lo + j) (nI (550 + 50 * k + p))) (upd gt (lo + j) (nI 0)) rt (upd pc d (nI (550 + 50 * k + (p + 1)))) ba gv gf
    ⟨f1, g1, g2, f4, f5, pk_us, f7, f8, f9, by omega, ⟨p, h, q + 1, ⟨pk_us, pk_us, pk_us, by rw [pk_us]; exact congrArg nI (by omega)⟩, by omega, f2, f3, ⟨hK.1, hK.2.1, hK.2.2.2⟩, Nat.le_refl _, g3, fun q a b => by omega, by omega, by omega, by omega, cn_ext hext f11⟩, fr_ext (fun i hi => hext i (by omega)) (fun _ _ => rfl) (fun i hi => ⟨pk_un (by omega), rfl⟩) f12⟩ (by rw [wg_pl (by omega)]; omega)
  refine sG_map this (fun post f hf => ⟨f + 1, ?_⟩) (fun post f hf => ⟨f + 1, ?_⟩)
  · refine x_take ht (by omega) htop (xtd (c := pK Z k p) (by omega) (by omega) c1 (by rw [c3]; exact c4) ⟨hK.1, hK.2.1, hK.2.2.1, hK.2.2.2, h29⟩ (kX_of ?_))
    rw [c3]
    exact hf
  · exact ytd hR f1 f2 f4 f6 rfl hK (by omega) hf
theorem s_k24 (hR : pR E Z n m tk ln D B pr) {t μ : Nat} (ht : t < 1000000) (IH : iH E Z n m tk ln D B (t + 1) μ) {d k p lo ho j h q s M : Nat} {me my op lc pt pd wt gt rt pc ba : Nat → Int32} {gv gf : Int32} (hF : mF Z n m tk ln D B d k p lo ho j h (q + 1) s M me my pt pd wt gt rt pc ba) (hmu : 160 * (200 - s) + M + wg Z k p j + (lo + j) < μ + 1) (hK : pK Z k p = 24) :
    sG E Z m (fun post f => wkX post f (nI t) (xs E tk d k p (lo + j) h s me op lc pt pd rt)) (fun post f => wcY (q + 1) post f (ys Z d (lo + j) h s gv gf 0 my op lc pc ba wt gt)) := by
  have htop := top_due hR hF
  obtain ⟨f1, f2, f3, f4, f5, f6, f7, f8, f9, f10, f11, f12⟩ := hF
  obtain ⟨h5, h50, _, hT, hS, _⟩ := hR.2.2.2.2.2.1 k f1
  obtain ⟨c1, c2, c3, c4⟩ := hT p f2
  obtain ⟨g1, g2, g3⟩ := in_next hS f2 f3 (by omega)
  have hO : pO Z k p = 1 := by unfold pO; rw [hK]; rfl
  have hw1 := (wg_le Z k p j (by omega)).2
  rw [hK] at c1 c4
  have c4' : tk_P 24 (xCV E (50 * tk k + p)) := by rw [c3]; exact c4
  by_cases hs : s = 200
  · refine ⟨8, mX E (nI h) (nI (lo + j)) (nI (d + 1)) (nI (50 * tk k + p + 1)) 8 0 (nI s) me op pt pd lc rt, mY Z (nI (d + 1)) (nI (lo + j)) (nI h) 8 (nI s) 0 gv gf 0 my (upd pc d (nI (550 + 50 * k + (p + 1)))) ba lc wt gt op, ⟨_, _, _, _, _, _, _, _, _, _, _, _, _, _, _, _, _, _, _, _, _, _, _, rfl, rfl, f8⟩, fun post hp => ⟨2, ?_⟩, fun post hp => ⟨2, ?_⟩⟩
    · exact x_take ht (by omega) htop (xt24 (by omega) (by omega) f5 c1 c4' (fun _ => kX_of (x_over (u := E) (by decide) hp)) (fun z => absurd z (by omega)))
    · exact yt24 hR f1 f2 f4 f6 hK f5 (by omega) (fun _ => br_f (nI_nle (Nat.succ_pos _) (by omega)) (br_f (by decide) (br_f (by decide) hp))) (fun z => absurd z (by omega))
  · have hext : ∀ i, i < lo + j → upd pt (lo + j) (nI (50 * tk k + p)) i = pt i ∧ upd pd (lo + j) (nI 1) i = pd i ∧ upd wt (lo + j) (nI (550 + 50 * k + p)) i = wt i ∧ upd gt (lo + j) (nI 0) i = gt i := fun i hi => ⟨pk_un (by omega), pk_un (by omega), pk_un (by omega), pk_un (by omega)⟩
    have := IH d k (p + 1) lo ho (j + 1) h 1 (s + 1) M me my op lc (upd pt (lo + j) (nI (50 * tk k + p))) (upd pd (lo + j) (nI 1)) (upd wt (lo + j) (nI (550 + 50 * k + p))) (upd gt (lo + j) (nI 0)) rt (upd pc d (nI (550 + 50 * k + (p + 1)))) ba gv gf
      ⟨f1, g1, g2, f4, by omega, pk_us, f7, f8, f9, by omega, ⟨p, h, q + 1, ⟨pk_us, pk_us, pk_us, by rw [pk_us, hO]⟩, by omega, f2, f3, ⟨by omega, by omega, by omega⟩, by omega, by omega, fun q a b => by omega, by omega, by omega, by omega, cn_ext hext f11⟩, fr_ext (fun i hi => hext i (by omega)) (fun _ _ => rfl) (fun i hi => ⟨pk_un (by omega), rfl⟩) f12⟩ (by rw [wg_pl (by omega)]; omega)
    refine sG_map this (fun post f hf => ⟨f + 1, ?_⟩) (fun post f hf => ⟨f + 1, ?_⟩)
    · exact x_take ht (by omega) htop (xt24 (by omega) (by omega) f5 c1 c4' (fun z => absurd z hs) (fun _ => kX_of hf))
    · exact yt24 hR f1 f2 f4 f6 hK f5 (by omega) (fun z => absurd z hs) (fun _ => hf)
end
end
section
/-! the two machines run alike: blocks, and finishing -/
theorem after_end {K N : Nat → Nat} {c : Nat} {D B : Nat → Nat} (hS : wf_S K N c D B) {e : Nat} (he : e < c) (h27 : K e = 27) (hN : N e = 0) (hb : 2 ≤ B e) : e + 1 < c ∧ 1 ≤ B (e + 1) ∧ D (e + 1) = 0 := by
  have h1 := (hS.2.2.2 e he (by omega)).2.2.2.2.1 h27
  have h2 := in_S hS he (by omega) (by omega)
  have h3 := (hS.2.2.2 e he (by omega)).1
  refine ⟨?_, by omega, by omega⟩
  apply Classical.byContradiction
  intro z
  have : e + 1 = c := by omega
  rw [this, hS.1] at h1
  omega
section
variable {E : SX} {Z : SY} {n m : Nat} {tk ln : Nat → Nat} {D B pr : Nat → Nat → Nat}
theorem cn_stmt {pt pd wt gt : Nat → Int32} {k f lo ho j x h q : Nat} (hc : cn Z D B tk ln pt pd wt gt k f lo ho j x 0 h (q + 1)) : j = 0 ∧ h = ho := by
  cases j with
  | zero => exact ⟨rfl, hc.2.1⟩
  | succ j =>
    obtain ⟨t, g, du, p, r1, r2, r3, r4, r5, r6, _⟩ := hc
    omega
theorem pO_0 {k p : Nat} (h : pK Z k p = 23 ∨ pK Z k p = 27) : pO Z k p = 0 := by
  unfold pO
  rcases h with e | e <;> rw [e] <;> rfl
theorem s_k23 (hR : pR E Z n m tk ln D B pr) {t μ : Nat} (ht : t < 1000000) (IH : iH E Z n m tk ln D B (t + 1) μ) {d k p lo ho j h q s M : Nat} {me my op lc pt pd wt gt rt pc ba : Nat → Int32} {gv gf : Int32} (hF : mF Z n m tk ln D B d k p lo ho j h (q + 1) s M me my pt pd wt gt rt pc ba) (hmu : 160 * (200 - s) + M + wg Z k p j + (lo + j) < μ + 1) (hK : pK Z k p = 23) :
    sG E Z m (fun post f => wkX post f (nI t) (xs E tk d k p (lo + j) h s me op lc pt pd rt)) (fun post f => wcY (q + 1) post f (ys Z d (lo + j) h s gv gf 0 my op lc pc ba wt gt)) := by
  have htop := top_due hR hF
  obtain ⟨f1, f2, f3, f4, f5, f6, f7, f8, f9, f10, f11, f12⟩ := hF
  obtain ⟨h5, h50, _, hT, hS, hJ⟩ := hR.2.2.2.2.2.1 k f1
  obtain ⟨c1, c2, c3, c4⟩ := hT p f2
  rw [hK] at c1
  have hD := in_S hS f2 f3 (by omega)
  rw [hD] at f11
  obtain ⟨ej, eh⟩ := cn_stmt f11
  subst ej
  subst eh
  obtain ⟨j1, j2, j3, j4, j5, j6, _⟩ := hJ.1 p f2 f3 (by omega)
  have h2 := (hS.2.1 p f2 (by omega) (by omega)).2 hK
  have h27 : pK Z k (pr k p) = 27 := by omega
  have hbp : B k (p + 1) = B k p := (hS.2.2.2 p f2 f3).2.2.2.2.2 (by omega) (by omega) (by omega)
  obtain ⟨g1, g2, g3⟩ := after_end hS j2 h27 (pO_0 (Or.inr h27)) (by omega)
  rw [wg_pl (by omega)] at hmu
  have hwg := (wg_le Z k (pr k p + 1) 0 (by omega)).1
  have := IH d k (pr k p + 1) lo h 0 h (q + 1) s M me my op lc pt pd wt gt rt (upd (upd pc d (nI (550 + 50 * k + (p + 1)))) d (nI (550 + 50 * k + pr k p + 1))) ba gv gf
    ⟨f1, g1, g2, f4, f5, by rw [pk_us, Nat.add_assoc], f7, f8, f9, by omega, ⟨g3, rfl, by omega⟩, fr_ext (fun _ _ => ⟨rfl, rfl, rfl, rfl⟩) (fun _ _ => rfl) (fun i hi => ⟨by rw [pk_un (by omega), pk_un (by omega)], rfl⟩) f12⟩ (by omega)
  refine sG_map this (fun post f hf => ⟨f + 1, ?_⟩) (fun post f hf => ⟨f + 1, ?_⟩)
  · exact x_take ht (by omega) htop (xt23 (by omega) c1 j3 (kX_of hf))
  · exact yt23 hR f1 f2 f4 f6 hK j1 j2 h27 (by omega) j5 j6 hf
theorem s_k27 (hR : pR E Z n m tk ln D B pr) {t μ : Nat} (ht : t < 1000000) (IH : iH E Z n m tk ln D B (t + 1) μ) {d k p lo ho j h q s M : Nat} {me my op lc pt pd wt gt rt pc ba : Nat → Int32} {gv gf : Int32} (hF : mF Z n m tk ln D B d k p lo ho j h (q + 1) s M me my pt pd wt gt rt pc ba) (hmu : 160 * (200 - s) + M + wg Z k p j + (lo + j) < μ + 1) (hK : pK Z k p = 27) :
    sG E Z m (fun post f => wkX post f (nI t) (xs E tk d k p (lo + j) h s me op lc pt pd rt)) (fun post f => wcY (q + 1) post f (ys Z d (lo + j) h s gv gf 0 my op lc pc ba wt gt)) := by
  have htop := top_due hR hF
  obtain ⟨f1, f2, f3, f4, f5, f6, f7, f8, f9, f10, f11, f12⟩ := hF
  obtain ⟨h5, h50, _, hT, hS, hJ⟩ := hR.2.2.2.2.2.1 k f1
  obtain ⟨c1, c2, c3, c4⟩ := hT p f2
  rw [hK] at c1
  have hD := in_S hS f2 f3 (by omega)
  rw [hD] at f11
  obtain ⟨ej, eh⟩ := cn_stmt f11
  subst ej
  subst eh
  obtain ⟨g, j1, j2, j3, j4, j5, j6, j7, j8⟩ := hJ.2 p f2 f3 hK
  obtain ⟨o1, o2, o3, o4⟩ := hT (pr k p) (by omega)
  have h9o := o4.1
  have hkf : pK Z k g = 22 ∨ pK Z k g = 24 ∨ pK Z k g = 28 := by
    by_cases z : pK Z k (pr k p) = 23
    · exact Or.inl (j5 z)
    · rw [j6 z]; omega
  rw [wg_pl (by omega)] at hmu
  have hfr : ∀ pc', (∀ i, i < d → pc' i = pc i) → fr Z n D B tk ln pt pd wt gt rt pc' ba d lo h M := fun pc' hp => fr_ext (fun _ _ => ⟨rfl, rfl, rfl, rfl⟩) (fun _ _ => rfl) (fun i hi => ⟨hp i hi, rfl⟩) f12
  by_cases z24 : pK Z k (pr k p) = 24
  · have eg : g = pr k p := j6 (by omega)
    subst eg
    have hb := (hS.2.1 (pr k p) (by omega) (by omega) (by omega)).1
    have := IH d k (pr k p) lo h 0 h (q + 1) s M me my op lc pt pd wt gt rt (upd (upd pc d (nI (550 + 50 * k + (p + 1)))) d (nI (550 + 50 * k + pr k p))) ba gv gf
      ⟨f1, by omega, hb, f4, f5, pk_us, f7, f8, f9, by omega, ⟨in_S hS (by omega) hb (by omega), rfl, by omega⟩, hfr _ (fun i hi => by rw [pk_un (by omega), pk_un (by omega)])⟩ (by rw [show wg Z k (pr k p) 0 = 1 from if_pos ⟨rfl, z24⟩]; omega)
    refine sG_map this (fun post f hf => ⟨f + 1, ?_⟩) (fun post f hf => ⟨f + 1, ?_⟩)
    · exact x_take ht (by omega) htop (xt27 (by omega) (by omega) c1 j3 o1 h9o (fun _ => kX_of hf) (fun z => by omega) (fun z => absurd z24 z))
    · exact yt27 hR f1 f2 f4 f6 hK j2 f3 hkf j7 j8 (fun z => by omega) (fun _ => hf) (fun z => by omega)
  · by_cases z28 : pK Z k (pr k p) = 28
    · have eg : g = pr k p := j6 (by omega)
      subst eg
      have := s_ret hR IH (v := 0) (op := op) (lc := lc) (nx := nI (50 * tk k + p + 1)) (wa := nI (lo + 0)) (gv := gv) (gf := gf) f4 f5 f8 f7 (hfr (upd pc d (nI (550 + 50 * k + (p + 1)))) (fun i hi => pk_un (by omega))) (by omega)
      refine sG_map this (fun post f hf => ⟨f + 1, ?_⟩) (fun post f hf => ⟨f + 1, ?_⟩)
      · exact x_take ht (by omega) htop (xt27 (by omega) (by omega) c1 j3 o1 h9o (fun z => absurd z z24) (fun _ => hf) (fun _ z => absurd z28 z))
      · exact yt27 hR f1 f2 f4 f6 hK j2 f3 hkf j7 j8 (fun z => by omega) (fun z => by omega) (fun _ => hf)
    · have h22 : pK Z k g = 22 := by
        by_cases z : pK Z k (pr k p) = 23
        · exact j5 z
        · rw [j6 z]; omega
      have hbg := (hS.2.1 g (by omega) (by omega) (by omega)).1
      obtain ⟨g1, g2, g3⟩ := after_end hS f2 hK (pO_0 (Or.inr hK)) (by omega)
      have hwg := (wg_le Z k (p + 1) 0 (by omega)).1
      have := IH d k (p + 1) lo h 0 h (q + 1) s M me my op lc pt pd wt gt rt (upd pc d (nI (550 + 50 * k + (p + 1)))) ba gv gf
        ⟨f1, g1, g2, f4, f5, pk_us, f7, f8, f9, by omega, ⟨g3, rfl, by omega⟩, hfr _ (fun i hi => pk_un (by omega))⟩ (by omega)
      refine sG_map this (fun post f hf => ⟨f + 1, ?_⟩) (fun post f hf => ⟨f + 1, ?_⟩)
      · exact x_take ht (by omega) htop (xt27 (by omega) (by omega) c1 j3 o1 h9o (fun z => absurd z z24) (fun z => absurd z z28) (fun _ _ => kX_of hf))
      · exact yt27 hR f1 f2 f4 f6 hK (show g < p by omega) f3 hkf j7 j8 (fun _ => hf) (fun z => by omega) (fun z => by omega)
/-- a call begins -/
theorem s_f5 (hR : pR E Z n m tk ln D B pr) {t μ : Nat} (ht : t < 1000000) (IH : iH E Z n m tk ln D B (t + 1) μ) {d k p lo ho j s M t0 g du : Nat} {me my op lc pt pd wt gt rt pc ba : Nat → Int32} {gv gf : Int32}
    (f1 : k < n) (f2 : p < ln k) (f3 : 1 ≤ B k p) (f4 : d < 10) (f5 : s ≤ 200) (f6 : pc d = nI (550 + 50 * k + p)) (f7 : ba d = nI lo) (f8 : ∀ i, i < m → me i = my i) (f9 : lo + ho ≤ 50 * d) (f10 : lo + (j + 1) + (g + pO Z k t0) ≤ 50 * d + p) (f12 : fr Z n D B tk ln pt pd wt gt rt pc ba d lo ho M)
    (hP : cnP Z tk pt pd wt gt (lo + j) k t0 0) (r1 : t0 < p) (r2 : t0 < ln k) (r3 : 1 ≤ B k t0) (r6 : D k p = D k t0 - 1) (r7 : ∀ q, t0 < q → q < p → 1 ≤ D k q) (r9 : lo + j + g ≤ 50 * d + t0) (r10 : 1 ≤ du) (r11 : cn Z D B tk ln pt pd wt gt k d lo ho j t0 (D k t0) g du)
    (hmu : 160 * (200 - s) + M + 3 * (51 - p) + (lo + (j + 1)) < μ + 1) (hK : pK Z k t0 = 5) :
    sG E Z m (fun post f => wkX post f (nI t) (xs E tk d k p (lo + (j + 1)) (g + pO Z k t0) s me op lc pt pd rt)) (fun post f => wcY 0 post f (ys Z d (lo + (j + 1)) (g + pO Z k t0) s gv gf 0 my op lc pc ba wt gt)) := by
  have hR' := hR
  obtain ⟨hn5, hm4, _, _, hms, hrow, hpo, hfo, huse⟩ := hR'
  obtain ⟨h5, h50, _, hT, hS, hJ⟩ := hrow k f1
  obtain ⟨c1, c2, c3, c4⟩ := hT t0 r2
  obtain ⟨p1, p2, p3, p4⟩ := hP
  have hD := in_E hS r2 r3 (by omega)
  have hO3 := pO3 hR f1 r2
  obtain ⟨dd, hb, h28, hcnt⟩ := (huse k f1 t0 r2).2 hK
  have hdd := lk_b_in (fun k hk => (pR_rows hR k hk).1) hb
  obtain ⟨k5, k50, _, kT, kS, _⟩ := hrow (dd / 50) hdd.1
  obtain ⟨e1, e2, e3, e4⟩ := kT (dd % 50) hdd.2.1
  obtain ⟨v1, v2, v3⟩ := tw_U c4 (by omega)
  have v16 := tw_U16 c4 (by omega)
  have eV : (yV Z (550 + 50 * k + t0)).toNatClampNeg = pV Z k t0 := rfl
  rw [eV] at v1 v2 v3 v16
  have hOV : pO Z k t0 = pV Z k t0 / 16 := by unfold pO; rw [hK]; rfl
  obtain ⟨w1, w2, w3⟩ := tw_V e4 (Or.inl h28)
  have eW : (yV Z (550 + 50 * (dd / 50) + dd % 50)).toNatClampNeg = pV Z (dd / 50) (dd % 50) := rfl
  rw [eW] at w1 w2 w3
  have hfa : xFO E (pV Z k t0 % 16) = nI (50 * tk (dd / 50) + dd % 50) := by
    rw [hfo _ v3]
    unfold lk_q
    rw [hb]
    exact if_pos ⟨h28, by omega⟩
  have hcn : (xCV E (50 * tk (dd / 50) + dd % 50) >>> ((4 : Int32) &&& 31)) &&& 3 = nI (pO Z k t0) := by
    rw [e3, w1, ba_cnt (by omega), hcnt, hOV]
  have hp1 : B (dd / 50) (dd % 50 + 1) = 1 ∧ D (dd / 50) (dd % 50 + 1) = 0 := kS.2.2.1 _ hdd.2.1 h28
  have hpl : dd % 50 + 1 < ln (dd / 50) := by
    apply Classical.byContradiction
    intro z
    have e : dd % 50 + 1 = ln (dd / 50) := by have := hdd.2.1; omega
    have := kS.1
    rw [← e, hp1.1] at this
    omega
  rw [hK] at c1
  have xstep : ∀ (post : SX → Prop) (f : Nat), wpX_beginFunction (kX post f t) (mX E (nI (g + pO Z k t0)) (nI (lo + j)) (nI (d + 1)) (nI (50 * tk k + p)) (-2) 0 (nI s) me op pt pd lc rt) (nI (pV Z k t0 % 16)) → wkX post (f + 1) (nI t) (xs E tk d k p (lo + (j + 1)) (g + pO Z k t0) s me op lc pt pd rt) := fun post f hf => x_fin (w := lo + j) ht (by omega) (by omega) p2 (xf_5 (by omega) (by omega) p1 c1 (by rw [c3]; exact v16) hf)
  have ystep : ∀ (post : Int32 → SY → Prop) (f : Nat), wpY_begin (fun u => wkY post f u) (mY Z (nI (d + 1)) (nI (lo + j)) (nI (g + pO Z k t0)) 0 (nI s) 0 gv gf 0 my pc ba lc wt gt op) (nI (pV Z k t0 % 16)) (nI (pO Z k t0)) → wcY 0 post f (ys Z d (lo + (j + 1)) (g + pO Z k t0) s gv gf 0 my op lc pc ba wt gt) := fun post f hf => yc_5 (w := lo + j) hR f1 r2 (by omega) p3 hK v16 hf
  by_cases h200 : s = 200
  · refine ⟨8, mX E (nI (g + pO Z k t0)) (nI (lo + j)) (nI (d + 1)) (nI (50 * tk k + p)) 8 0 (nI s) me op pt pd lc rt, mY Z (nI (d + 1)) (nI (lo + j)) (nI g) 8 (nI s) 0 gv gf 0 my pc ba lc wt gt op, ⟨_, _, _, _, _, _, _, _, _, _, _, _, _, _, _, _, _, _, _, _, _, _, _, rfl, rfl, f8⟩, fun post hp => ⟨2, xstep post 1 ?_⟩, fun post hp => ⟨1, ystep post 1 ?_⟩⟩
    · exact x_begin f5 (by omega) v3 hO3 (by omega) (by omega) hfa hcn (fun _ => kX_of (x_over (u := E) (by decide) hp)) (fun z => absurd z (by omega)) (fun z => absurd z (by omega))
    · exact y_begin hR f5 (by omega) v3 hO3 (by omega) (by omega) hb (fun _ => br_f (nI_nle (Nat.succ_pos _) (by omega)) (br_f (by decide) (br_f (by decide) hp))) (fun z => absurd z (by omega)) (fun z => absurd z (by omega))
  · by_cases h10 : d + 1 = 10
    · refine ⟨9, mX E (nI (g + pO Z k t0)) (nI (lo + j)) (nI (d + 1)) (nI (50 * tk k + p)) 9 0 (nI (s + 1)) me op pt pd lc rt, mY Z (nI (d + 1)) (nI (lo + j)) (nI g) 9 (nI (s + 1)) 0 gv gf 0 my pc ba lc wt gt op, ⟨_, _, _, _, _, _, _, _, _, _, _, _, _, _, _, _, _, _, _, _, _, _, _, rfl, rfl, f8⟩, fun post hp => ⟨2, xstep post 1 ?_⟩, fun post hp => ⟨1, ystep post 1 ?_⟩⟩
      · exact x_begin f5 (by omega) v3 hO3 (by omega) (by omega) hfa hcn (fun z => absurd z h200) (fun _ _ => kX_of (x_over (u := E) (by decide) hp)) (fun _ z => absurd z (by omega))
      · exact y_begin hR f5 (by omega) v3 hO3 (by omega) (by omega) hb (fun z => absurd z h200) (fun _ _ => br_f (nI_nle (Nat.succ_pos _) (by omega)) (br_f (by decide) (br_f (by decide) hp))) (fun _ z => absurd z (by omega))
    · cases j with
      | zero => exact absurd r11.1 (by omega)
      | succ j =>
        have hsus : cn Z D B tk ln pt pd wt gt k d lo ho (j + 1) p (D k p + 1) g du := by
          rw [show D k p + 1 = D k t0 by omega]
          refine cn_adv (by omega) (fun q a b => ?_) r11
          by_cases z : q = t0
          · rw [z]; exact hD
          · exact r7 q (by omega) b
        have hwg := (wg_le Z (dd / 50) (dd % 50 + 1) 0 (by omega)).1
        have := IH (d + 1) (dd / 50) (dd % 50 + 1) (lo + (j + 1)) g 0 g 1 (s + 1) (M + 3 * (51 - p)) me my op (mlo lc op (d + 1) g (pO Z k t0)) pt pd wt gt (upd rt (d + 1) (nI (50 * tk k + p))) (upd pc (d + 1) (nI (550 + dd + 1))) (upd ba (d + 1) (nI (lo + (j + 1)))) gv gf
          ⟨hdd.1, hpl, by omega, by omega, by omega, by rw [pk_us]; exact congrArg nI (by omega), pk_us, f8, by omega, by omega, ⟨hp1.2, rfl, by omega⟩, ⟨k, p, lo, ho, j, du, M, f1, f2, f3, pk_us, by rw [pk_un (by omega)]; exact f6, by rw [pk_un (by omega)]; exact f7, rfl, r10, hsus, by omega, f9, rfl, fr_ext (fun _ _ => ⟨rfl, rfl, rfl, rfl⟩) (fun i hi => pk_un (by omega)) (fun i hi => ⟨pk_un (by omega), pk_un (by omega)⟩) f12⟩⟩ (by omega)
        refine sG_map this (fun post f hf => ⟨f + 1, xstep post f ?_⟩) (fun post f hf => ⟨f, ystep post f ?_⟩)
        · exact x_begin f5 (by omega) v3 hO3 (by omega) (by omega) hfa hcn (fun z => absurd z h200) (fun _ z => absurd z h10) (fun _ _ => kX_of hf)
        · exact y_begin hR f5 (by omega) v3 hO3 (by omega) (by omega) hb (fun z => absurd z h200) (fun _ z => absurd z h10) (fun _ _ => hf)
end
end
section
/-! the two machines run alike: finishing, and the whole -/
section
variable {E : SX} {Z : SY} {n m : Nat} {tk ln : Nat → Nat} {D B pr : Nat → Nat → Nat}
theorem pO_1 {k p : Nat} (h : pK Z k p = 4 ∨ pK Z k p = 18 ∨ pK Z k p = 20 ∨ pK Z k p = 22 ∨ pK Z k p = 24 ∨ pK Z k p = 25 ∨ pK Z k p = 26) : pO Z k p = 1 := by
  unfold pO
  rcases h with e | e | e | e | e | e | e <;> rw [e] <;> rfl
theorem pO_2 {k p : Nat} (h : (6 ≤ pK Z k p ∧ pK Z k p ≤ 17) ∨ pK Z k p = 21) : pO Z k p = 2 := by
  unfold pO tk_n
  rcases h with e | e
  · rw [if_neg (by omega), if_neg (by omega), if_pos (by omega)]
  · rw [e]; rfl
/-- an expression is finished: its value is given -/
theorem s_fv (hR : pR E Z n m tk ln D B pr) {t μ : Nat} (IH : iH E Z n m tk ln D B (t + 1) μ) {d k p lo ho j s M t0 g du : Nat} {me my op lc pt pd wt gt rt pc ba : Nat → Int32} {gv v : Int32} {PX : (SX → Prop) → Nat → Prop} {PY : (Int32 → SY → Prop) → Nat → Prop}
    (f1 : k < n) (f2 : p < ln k) (f3 : 1 ≤ B k p) (f4 : d < 10) (f5 : s ≤ 200) (f6 : pc d = nI (550 + 50 * k + p)) (f7 : ba d = nI lo) (f8 : ∀ i, i < m → me i = my i) (f9 : lo + ho ≤ 50 * d) (f12 : fr Z n D B tk ln pt pd wt gt rt pc ba d lo ho M)
    (r1 : t0 < p) (hD : 1 ≤ D k t0) (r6 : D k p = D k t0 - 1) (r7 : ∀ q, t0 < q → q < p → 1 ≤ D k q) (r9 : lo + j + g ≤ 50 * d + t0) (r10 : 1 ≤ du) (r11 : cn Z D B tk ln pt pd wt gt k d lo ho j t0 (D k t0) g du)
    (hmu : 160 * (200 - s) + M + 3 * (51 - p) + (lo + (j + 1)) < μ + 1)
    (hX : ∀ j', j = j' + 1 → ∀ post f, kX post f t (mX E (nI (g + 1)) (nI (lo + j' + 1)) (nI (d + 1)) (nI (50 * tk k + p)) (-2) 0 (nI s) me (upd op g v) pt (upd pd (lo + j') (pd (lo + j') - 1)) lc rt) → ∃ f', PX post f')
    (hY : ∀ j', j = j' + 1 → ∀ post f, wkY post f (mY Z (nI (d + 1)) (nI (lo + j' + 1)) (nI g) 0 (nI s) 0 gv v 1 my pc ba lc wt gt op) → ∃ f', PY post f') : sG E Z m PX PY := by
  cases j with
  | zero => exact absurd r11.1 (by omega)
  | succ j =>
    have hsus : cn Z D B tk ln pt pd wt gt k d lo ho (j + 1) p (D k p + 1) g du := by
      rw [show D k p + 1 = D k t0 by omega]
      refine cn_adv (by omega) (fun q a b => ?_) r11
      by_cases z : q = t0
      · rw [z]; exact hD
      · exact r7 q (by omega) b
    have := s_give hR IH (v := v) (op := op) (lc := lc) (gv := gv) f1 f2 f3 f4 f5 f6 f7 f8 f9 (by omega) hsus r10 f12 (by omega)
    exact sG_map this (fun post f hf => hX j rfl post f (kX_of hf)) (fun post f hf => hY j rfl post f hf)
theorem s_fE (hR : pR E Z n m tk ln D B pr) {t μ : Nat} (ht : t < 1000000) (IH : iH E Z n m tk ln D B (t + 1) μ) {d k p lo ho j s M t0 g du : Nat} {me my op lc pt pd wt gt rt pc ba : Nat → Int32} {gv gf : Int32}
    (f1 : k < n) (f2 : p < ln k) (f3 : 1 ≤ B k p) (f4 : d < 10) (f5 : s ≤ 200) (f6 : pc d = nI (550 + 50 * k + p)) (f7 : ba d = nI lo) (f8 : ∀ i, i < m → me i = my i) (f9 : lo + ho ≤ 50 * d) (f10 : lo + (j + 1) + (g + pO Z k t0) ≤ 50 * d + p) (f12 : fr Z n D B tk ln pt pd wt gt rt pc ba d lo ho M)
    (hP : cnP Z tk pt pd wt gt (lo + j) k t0 0) (r1 : t0 < p) (r2 : t0 < ln k) (r3 : 1 ≤ B k t0) (r6 : D k p = D k t0 - 1) (r7 : ∀ q, t0 < q → q < p → 1 ≤ D k q) (r9 : lo + j + g ≤ 50 * d + t0) (r10 : 1 ≤ du) (r11 : cn Z D B tk ln pt pd wt gt k d lo ho j t0 (D k t0) g du)
    (hmu : 160 * (200 - s) + M + 3 * (51 - p) + (lo + (j + 1)) < μ + 1) (hK : 4 ≤ pK Z k t0 ∧ pK Z k t0 ≤ 18 ∧ pK Z k t0 ≠ 5) :
    sG E Z m (fun post f => wkX post f (nI t) (xs E tk d k p (lo + (j + 1)) (g + pO Z k t0) s me op lc pt pd rt)) (fun post f => wcY 0 post f (ys Z d (lo + (j + 1)) (g + pO Z k t0) s gv gf 0 my op lc pc ba wt gt)) := by
  have hR' := hR
  obtain ⟨hn5, hm4, _, hus, hms, hrow, hpo, hfo, huse⟩ := hR'
  obtain ⟨h5, h50, _, hT, hS, hJ⟩ := hrow k f1
  obtain ⟨c1, c2, c3, c4⟩ := hT t0 r2
  obtain ⟨p1, p2, p3, p4⟩ := hP
  have hD := in_E hS r2 r3 (by omega)
  have hO3 := pO3 hR f1 r2
  have xstep : ∀ (post : SX → Prop) (f : Nat), wpX_finishExpression (kX post f t) (mX E (nI (g + pO Z k t0)) (nI (lo + j)) (nI (d + 1)) (nI (50 * tk k + p)) (-2) 0 (nI s) me op pt pd lc rt) (nI (pK Z k t0)) → wkX post (f + 1) (nI t) (xs E tk d k p (lo + (j + 1)) (g + pO Z k t0) s me op lc pt pd rt) := fun post f hf => x_fin (w := lo + j) ht (by omega) (by omega) p2 (xf_E (by omega) (by omega) p1 c1 hK.2.1 hK.2.2 hf)
  by_cases h4 : pK Z k t0 = 4
  · have hO : pO Z k t0 = 1 := pO_1 (by omega)
    rw [h4] at xstep
    have ystep : ∀ (post : Int32 → SY → Prop) (f : Nat), w99Y (fun u => wkY post f u) (nI (550 + 50 * k + t0)) 4 (nI d) (op g) 0 (mY Z (nI (d + 1)) (nI (lo + j)) (nI g) 0 (nI s) 0 gv gf 0 my pc ba lc wt gt op) → wcY 0 post f (ys Z d (lo + (j + 1)) (g + pO Z k t0) s gv gf 0 my op lc pc ba wt gt) := fun post f hf => yc_pre (w := lo + j) hR f1 r2 (by omega) (by omega) (by omega) p3 h4 (by omega) (fun _ => hf) (fun z => by omega)
    rw [hO] at xstep ystep ⊢
    rcases pk_ix (op g) (n := m) (by omega) with z | z | ⟨r, hr, e⟩
    · have z' : op g < 0 ∨ nI m ≤ op g := Or.inl z
      cases j with
      | zero => exact absurd r11.1 (by omega)
      | succ j =>
        refine ⟨7, mX E (nI g) (nI (lo + (j + 1))) (nI (d + 1)) (nI (50 * tk k + p)) 7 0 (nI s) me op pt pd lc rt, mY Z (nI (d + 1)) (nI (lo + (j + 1))) (nI g) 7 (nI s) 0 gv gf 0 my pc ba lc wt gt op, ⟨_, _, _, _, _, _, _, _, _, _, _, _, _, _, _, _, _, _, _, _, _, _, _, rfl, rfl, f8⟩, fun post hp => ⟨2, xstep post 1 ?_⟩, fun post hp => ⟨1, ystep post 1 ?_⟩⟩
        · exact xe_get (w := lo + j) (by omega) (by omega) hms hm4 (fun r hr e => absurd z (by rw [e]; exact nI_pos (by omega))) (fun _ => kX_of (x_over (u := E) (by decide) hp))
        · exact y9_4 hus hm4 (fun r hr e => absurd z (by rw [e]; exact nI_pos (by omega))) (fun _ => br_f (nI_nle (Nat.succ_pos _) (by omega)) (br_f (by decide) (br_f (by decide) hp)))
    · cases j with
      | zero => exact absurd r11.1 (by omega)
      | succ j =>
        refine ⟨7, mX E (nI g) (nI (lo + (j + 1))) (nI (d + 1)) (nI (50 * tk k + p)) 7 0 (nI s) me op pt pd lc rt, mY Z (nI (d + 1)) (nI (lo + (j + 1))) (nI g) 7 (nI s) 0 gv gf 0 my pc ba lc wt gt op, ⟨_, _, _, _, _, _, _, _, _, _, _, _, _, _, _, _, _, _, _, _, _, _, _, rfl, rfl, f8⟩, fun post hp => ⟨2, xstep post 1 ?_⟩, fun post hp => ⟨1, ystep post 1 ?_⟩⟩
        · exact xe_get (w := lo + j) (by omega) (by omega) hms hm4 (fun r hr e => absurd z (by rw [e]; exact nI_ge hr (by omega))) (fun _ => kX_of (x_over (u := E) (by decide) hp))
        · exact y9_4 hus hm4 (fun r hr e => absurd z (by rw [e]; exact nI_ge hr (by omega))) (fun _ => br_f (nI_nle (Nat.succ_pos _) (by omega)) (br_f (by decide) (br_f (by decide) hp)))
    · refine s_fv hR IH (v := me r) (op := op) (lc := lc) (gv := gv) f1 f2 f3 f4 f5 f6 f7 f8 f9 f12 r1 hD r6 r7 r9 r10 r11 hmu (fun j' ej post f hf => ⟨f + 1, xstep post f ?_⟩) (fun j' ej post f hf => ⟨f, ystep post f ?_⟩)
      · subst ej
        refine xe_get (w := lo + j') (by omega) (by omega) hms hm4 (fun r' hr' e' => ?_) (fun z => ?_)
        · have := ba_inj (by omega) (by omega) (e.symm.trans e')
          subst this
          exact hf
        · exfalso
          rw [e] at z
          rcases z with z | z
          · exact nI_pos (by omega) z
          · exact nI_ge hr (by omega) z
      · subst ej
        refine y9_4 hus hm4 (fun r' hr' e' => ?_) (fun z => ?_)
        · have := ba_inj (by omega) (by omega) (e.symm.trans e')
          subst this
          rw [← f8 r hr]
          exact hf
        · exfalso
          rw [e] at z
          rcases z with z | z
          · exact nI_pos (by omega) z
          · exact nI_ge hr (by omega) z
  · by_cases h18 : pK Z k t0 = 18
    · have hO : pO Z k t0 = 1 := pO_1 (by omega)
      rw [h18] at xstep
      have ystep : ∀ (post : Int32 → SY → Prop) (f : Nat), w99Y (fun u => wkY post f u) (nI (550 + 50 * k + t0)) 18 (nI d) (op g) 0 (mY Z (nI (d + 1)) (nI (lo + j)) (nI g) 0 (nI s) 0 gv gf 0 my pc ba lc wt gt op) → wcY 0 post f (ys Z d (lo + (j + 1)) (g + pO Z k t0) s gv gf 0 my op lc pc ba wt gt) := fun post f hf => yc_pre (w := lo + j) hR f1 r2 (by omega) (by omega) (by omega) p3 h18 (by omega) (fun _ => hf) (fun z => by omega)
      rw [hO] at xstep ystep ⊢
      refine s_fv hR IH (v := if op g = 0 then 1 else 0) (op := op) (lc := lc) (gv := gv) f1 f2 f3 f4 f5 f6 f7 f8 f9 f12 r1 hD r6 r7 r9 r10 r11 hmu (fun j' ej post f hf => ⟨f + 1, xstep post f ?_⟩) (fun j' ej post f hf => ⟨f, ystep post f ?_⟩)
      · subst ej
        exact xe_not (w := lo + j') (by omega) (by omega) hf
      · subst ej
        exact y9_18 hf
    · have hO : pO Z k t0 = 2 := pO_2 (by omega)
      have ystep : ∀ (post : Int32 → SY → Prop) (f : Nat), w99Y (fun u => wkY post f u) (nI (550 + 50 * k + t0)) (nI (pK Z k t0)) (nI d) (op g) (op (g + 1)) (mY Z (nI (d + 1)) (nI (lo + j)) (nI g) 0 (nI s) 0 gv gf 0 my pc ba lc wt gt op) → wcY 0 post f (ys Z d (lo + (j + 1)) (g + pO Z k t0) s gv gf 0 my op lc pc ba wt gt) := fun post f hf => yc_pre (w := lo + j) hR f1 r2 (by omega) (by omega) (by omega) p3 rfl (by omega) (fun z => by omega) (fun _ => hf)
      rw [hO] at xstep ystep ⊢
      refine s_fv hR IH (v := tv (pK Z k t0) (op g) (op (g + 1))) (op := op) (lc := lc) (gv := gv) f1 f2 f3 f4 f5 f6 f7 f8 f9 f12 r1 hD r6 r7 r9 r10 r11 hmu (fun j' ej post f hf => ⟨f + 1, xstep post f ?_⟩) (fun j' ej post f hf => ⟨f, ystep post f ?_⟩)
      · subst ej
        exact xe_two (w := lo + j') (by omega) (by omega) (by omega) (by omega) hf
      · subst ej
        exact y9_two (by omega) (by omega) hf
theorem s_fS (hR : pR E Z n m tk ln D B pr) {t μ : Nat} (ht : t < 1000000) (IH : iH E Z n m tk ln D B (t + 1) μ) {d k p lo ho j s M t0 g du : Nat} {me my op lc pt pd wt gt rt pc ba : Nat → Int32} {gv gf : Int32}
    (f1 : k < n) (f2 : p < ln k) (f3 : 1 ≤ B k p) (f4 : d < 10) (f5 : s ≤ 200) (f6 : pc d = nI (550 + 50 * k + p)) (f7 : ba d = nI lo) (f8 : ∀ i, i < m → me i = my i) (f9 : lo + ho ≤ 50 * d) (f10 : lo + (j + 1) + (g + pO Z k t0) ≤ 50 * d + p) (f12 : fr Z n D B tk ln pt pd wt gt rt pc ba d lo ho M)
    (hP : cnP Z tk pt pd wt gt (lo + j) k t0 0) (r1 : t0 < p) (r2 : t0 < ln k) (r3 : 1 ≤ B k t0) (r6 : D k p = D k t0 - 1) (r7 : ∀ q, t0 < q → q < p → 1 ≤ D k q) (r9 : lo + j + g ≤ 50 * d + t0) (r10 : 1 ≤ du) (r11 : cn Z D B tk ln pt pd wt gt k d lo ho j t0 (D k t0) g du)
    (hmu : 160 * (200 - s) + M + 3 * (51 - p) + (lo + (j + 1)) < μ + 1) (hK : 18 < pK Z k t0 ∧ pK Z k t0 ≠ 23 ∧ pK Z k t0 ≠ 27) :
    sG E Z m (fun post f => wkX post f (nI t) (xs E tk d k p (lo + (j + 1)) (g + pO Z k t0) s me op lc pt pd rt)) (fun post f => wcY 0 post f (ys Z d (lo + (j + 1)) (g + pO Z k t0) s gv gf 0 my op lc pc ba wt gt)) := by
  have hR' := hR
  obtain ⟨hn5, hm4, _, hus, hms, hrow, hpo, hfo, huse⟩ := hR'
  obtain ⟨h5, h50, _, hT, hS, hJ⟩ := hrow k f1
  obtain ⟨c1, c2, c3, c4⟩ := hT t0 r2
  obtain ⟨p1, p2, p3, p4⟩ := hP
  have h9 := c4.1
  have h19 := c4.2.1
  have hD := in_S hS r2 r3 (by omega)
  have hD27 := ((hS.2.2.2 t0 r2 r3).2.2.1 hD).2
  rw [hD] at r11 r6
  obtain ⟨du1, rfl⟩ : ∃ q, du = q + 1 := ⟨du - 1, by omega⟩
  obtain ⟨ej, eg⟩ := cn_stmt r11
  subst ej
  subst eg
  have hO3 := pO3 hR f1 r2
  have hDp : D k p = 0 := by omega
  have xstep : ∀ (post : SX → Prop) (f : Nat), wpX_finishStatement (kX post f t) (mX E (nI (g + pO Z k t0)) (nI lo) (nI (d + 1)) (nI (50 * tk k + p)) (-2) 0 (nI s) me op pt pd lc rt) (nI (50 * tk k + t0)) → wkX post (f + 1) (nI t) (xs E tk d k p (lo + (0 + 1)) (g + pO Z k t0) s me op lc pt pd rt) := fun post f hf => x_fin (w := lo) ht (by omega) (by omega) p2 (xf_S (c := pK Z k t0) (by omega) (by omega) p1 c1 (by omega) h9 hf)
  -- what follows a statement at place x
  have next : ∀ (x : Nat) (me' my' lc' pc' : Nat → Int32), x < ln k → 1 ≤ B k x → D k x = 0 → p ≤ x → (∀ i, i < m → me' i = my' i) → pc' d = nI (550 + 50 * k + x) → (∀ i, i < d → pc' i = pc i) → sG E Z m (fun post f => wkX post f (nI (t + 1)) (xs E tk d k x lo g s me' op lc' pt pd rt)) (fun post f => wkY post f (ys Z d lo g s gv gf 0 my' op lc' pc' ba wt gt)) := by
    intro x me' my' lc' pc' x1 x2 x3 x4 x5 x6 x7
    have hwg := (wg_le Z k x 0 (by omega)).1
    exact IH d k x lo g 0 g 1 s M me' my' op lc' pt pd wt gt rt pc' ba gv gf ⟨f1, x1, x2, f4, f5, x6, f7, x5, f9, by omega, ⟨x3, rfl, by omega⟩, fr_ext (fun _ _ => ⟨rfl, rfl, rfl, rfl⟩) (fun _ _ => rfl) (fun i hi => ⟨x7 i hi, rfl⟩) f12⟩ (by omega)
  by_cases h21 : pK Z k t0 = 21
  · have hO : pO Z k t0 = 2 := pO_2 (by omega)
    have ystep : ∀ (post : Int32 → SY → Prop) (f : Nat), w99Y (fun u => wkY post f u) (nI (550 + 50 * k + t0)) 21 (nI d) (op g) (op (g + 1)) (mY Z (nI (d + 1)) (nI lo) (nI g) 0 (nI s) 0 gv gf 0 my pc ba lc wt gt op) → wcY 0 post f (ys Z d (lo + (0 + 1)) (g + pO Z k t0) s gv gf 0 my op lc pc ba wt gt) := fun post f hf => yc_pre (w := lo) hR f1 r2 (by omega) (by omega) (by omega) p3 h21 (by omega) (fun z => by omega) (fun _ => hf)
    rw [h21] at c1
    rw [hO] at xstep ystep ⊢
    rcases pk_ix (op g) (n := m) (by omega) with z | z | ⟨r, hr, e⟩
    · refine ⟨7, mX E (nI g) (nI lo) (nI (d + 1)) (nI (50 * tk k + p)) 7 0 (nI s) me op pt pd lc rt, mY Z (nI (d + 1)) (nI lo) (nI g) 7 (nI s) 0 gv gf 0 my pc ba lc wt gt op, ⟨_, _, _, _, _, _, _, _, _, _, _, _, _, _, _, _, _, _, _, _, _, _, _, rfl, rfl, f8⟩, fun post hp => ⟨2, xstep post 1 ?_⟩, fun post hp => ⟨1, ystep post 1 ?_⟩⟩
      · exact xs_21 (by omega) (by omega) c1 hms hm4 (fun r hr e => absurd z (by rw [e]; exact nI_pos (by omega))) (fun _ => kX_of (x_over (u := E) (by decide) hp))
      · exact y9_21 hus hm4 (fun r hr e => absurd z (by rw [e]; exact nI_pos (by omega))) (fun _ => br_f (nI_nle (Nat.succ_pos _) (by omega)) (br_f (by decide) (br_f (by decide) hp)))
    · refine ⟨7, mX E (nI g) (nI lo) (nI (d + 1)) (nI (50 * tk k + p)) 7 0 (nI s) me op pt pd lc rt, mY Z (nI (d + 1)) (nI lo) (nI g) 7 (nI s) 0 gv gf 0 my pc ba lc wt gt op, ⟨_, _, _, _, _, _, _, _, _, _, _, _, _, _, _, _, _, _, _, _, _, _, _, rfl, rfl, f8⟩, fun post hp => ⟨2, xstep post 1 ?_⟩, fun post hp => ⟨1, ystep post 1 ?_⟩⟩
      · exact xs_21 (by omega) (by omega) c1 hms hm4 (fun r hr e => absurd z (by rw [e]; exact nI_ge hr (by omega))) (fun _ => kX_of (x_over (u := E) (by decide) hp))
      · exact y9_21 hus hm4 (fun r hr e => absurd z (by rw [e]; exact nI_ge hr (by omega))) (fun _ => br_f (nI_nle (Nat.succ_pos _) (by omega)) (br_f (by decide) (br_f (by decide) hp)))
    · have hno : ¬ (op g < 0 ∨ nI m ≤ op g) := by
        rw [e]
        rintro (z | z)
        · exact nI_pos (by omega) z
        · exact nI_ge hr (by omega) z
      have hm' : ∀ i, i < m → upd me r (op (g + 1)) i = upd my r (op (g + 1)) i := by
        intro i hi
        by_cases z : i = r
        · rw [z, pk_us, pk_us]
        · rw [pk_un z, pk_un z]; exact f8 i hi
      refine sG_map (next p (upd me r (op (g + 1))) (upd my r (op (g + 1))) lc pc f2 f3 hDp (Nat.le_refl _) hm' f6 (fun _ _ => rfl)) (fun post f hf => ⟨f + 1, xstep post f ?_⟩) (fun post f hf => ⟨f, ystep post f ?_⟩)
      · refine xs_21 (by omega) (by omega) c1 hms hm4 (fun r' hr' e' => ?_) (fun z => absurd z hno)
        have := ba_inj (by omega) (by omega) (e.symm.trans e')
        subst this
        exact kX_of hf
      · refine y9_21 hus hm4 (fun r' hr' e' => ?_) (fun z => absurd z hno)
        have := ba_inj (by omega) (by omega) (e.symm.trans e')
        subst this
        exact hf
  · have hO : pO Z k t0 = 1 := pO_1 (by omega)
    have ystep : ∀ (post : Int32 → SY → Prop) (f : Nat), w99Y (fun u => wkY post f u) (nI (550 + 50 * k + t0)) (nI (pK Z k t0)) (nI d) (op g) 0 (mY Z (nI (d + 1)) (nI lo) (nI g) 0 (nI s) 0 gv gf 0 my pc ba lc wt gt op) → wcY 0 post f (ys Z d (lo + (0 + 1)) (g + pO Z k t0) s gv gf 0 my op lc pc ba wt gt) := fun post f hf => yc_pre (w := lo) hR f1 r2 (by omega) (by omega) (by omega) p3 rfl (by omega) (fun _ => hf) (fun z => by omega)
    rw [hO] at xstep ystep ⊢
    by_cases h20 : pK Z k t0 = 20
    · obtain ⟨q', hq, hv⟩ := c4.2.2.1 (Or.inr h20)
      rw [h20] at c1 ystep
      refine sG_map (next p me my (upd lc (6 * d + q') (op g)) pc f2 f3 hDp (Nat.le_refl _) f8 f6 (fun _ _ => rfl)) (fun post f hf => ⟨f + 1, xstep post f ?_⟩) (fun post f hf => ⟨f, ystep post f ?_⟩)
      · exact xs_20 (by omega) (by omega) c1 (c3.trans hv) hq f4 (kX_of hf)
      · exact y9_20 (by omega) hv hq f4 hf
    · by_cases h25 : pK Z k t0 = 25
      · rw [h25] at c1 ystep
        have := s_ret hR IH (v := op g) (op := op) (lc := lc) (nx := nI (50 * tk k + p)) (wa := nI lo) (gv := gv) (gf := gf) f4 f5 f8 f7 f12 (by omega)
        refine sG_map this (fun post f hf => ⟨f + 1, xstep post f ?_⟩) (fun post f hf => ⟨f, ystep post f ?_⟩)
        · exact xs_25 (by omega) (by omega) c1 hf
        · exact y9_25 hf
      · by_cases h26 : pK Z k t0 = 26
        · rw [h26] at c1 ystep
          refine sG_map (next p me my lc pc f2 f3 hDp (Nat.le_refl _) f8 f6 (fun _ _ => rfl)) (fun post f hf => ⟨f + 1, xstep post f ?_⟩) (fun post f hf => ⟨f, ystep post f ?_⟩)
          · exact xs_26 (by omega) (by omega) c1 (kX_of hf)
          · exact y9_26 hf
        · have hk2 : pK Z k t0 = 22 ∨ pK Z k t0 = 24 := by omega
          obtain ⟨j1, j2, j3, j4, j5, j6, j7⟩ := hJ.1 t0 r2 r3 (by omega)
          have hbt := (hS.2.2.2 t0 r2 r3).2.2.2.1 hk2
          have hDe : D k (pr k t0) = 0 := in_S hS j2 (by omega) (by omega)
          have hpe : p ≤ pr k t0 := by
            apply Classical.byContradiction
            intro z
            have := r7 (pr k t0) j1 (by omega)
            omega
          have haft : pr k t0 + 1 < ln k ∧ 1 ≤ B k (pr k t0 + 1) ∧ D k (pr k t0 + 1) = 0 := by
            by_cases z : pK Z k (pr k t0) = 27
            · exact after_end hS j2 z (pO_0 (Or.inr z)) (by omega)
            · have h23 : pK Z k (pr k t0) = 23 := by omega
              obtain ⟨g1, g2, g3⟩ := in_next hS j2 (by omega) z
              have := pO_0 (Z := Z) (k := k) (p := pr k t0) (Or.inl h23)
              exact ⟨g1, g2, by omega⟩
          by_cases hz : op g = 0
          · refine sG_map (next (pr k t0 + 1) me my lc (upd pc d (nI (550 + 50 * k + pr k t0 + 1))) haft.1 haft.2.1 haft.2.2 (by omega) f8 (by rw [pk_us, Nat.add_assoc]) (fun i hi => pk_un (by omega))) (fun post f hf => ⟨f + 1, xstep post f ?_⟩) (fun post f hf => ⟨f, ystep post f ?_⟩)
            · exact xs_22 (c := pK Z k t0) (by omega) (by omega) c1 hk2 j3 (fun _ => kX_of hf) (fun z => absurd hz z)
            · rcases hk2 with e | e
              · rw [e]
                exact y9_22 (fun _ => y_jump hR f1 f4 j1 j2 (Or.inr ⟨rfl, by omega, j7 e⟩) (by omega) j5 j6 hf) (fun z => absurd hz z)
              · rw [e]
                exact y9_24 (fun _ => y_jump hR f1 f4 j1 j2 (Or.inl ⟨rfl, by omega⟩) (by omega) j5 j6 hf) (fun z => absurd hz z)
          · refine sG_map (next p me my lc pc f2 f3 hDp (Nat.le_refl _) f8 f6 (fun _ _ => rfl)) (fun post f hf => ⟨f + 1, xstep post f ?_⟩) (fun post f hf => ⟨f, ystep post f ?_⟩)
            · exact xs_22 (c := pK Z k t0) (by omega) (by omega) c1 hk2 j3 (fun z => absurd z hz) (fun _ => kX_of hf)
            · rcases hk2 with e | e
              · rw [e]
                exact y9_22 (fun z => absurd z hz) (fun _ => hf)
              · rw [e]
                exact y9_24 (fun z => absurd z hz) (fun _ => hf)
/-- the two machines run alike -/
theorem s_all (hR : pR E Z n m tk ln D B pr) : ∀ μ t, t + μ ≤ 1000000 → iH E Z n m tk ln D B t μ := by
  intro μ
  induction μ with
  | zero => intro t _ d k p lo ho j h due s M me my op lc pt pd wt gt rt pc ba gv gf _ hmu; exact absurd hmu (Nat.not_lt_zero _)
  | succ μ ih =>
    intro t ht d k p lo ho j h due s M me my op lc pt pd wt gt rt pc ba gv gf hF hmu
    have IH := ih (t + 1) (by omega)
    have ht' : t < 1000000 := by omega
    cases due with
    | succ q =>
      by_cases h3 : pK Z k p ≤ 3
      · exact s_k0 hR ht' IH hF hmu h3
      · by_cases h23 : pK Z k p = 23
        · exact s_k23 hR ht' IH hF hmu h23
        · by_cases h24 : pK Z k p = 24
          · exact s_k24 hR ht' IH hF hmu h24
          · by_cases h27 : pK Z k p = 27
            · exact s_k27 hR ht' IH hF hmu h27
            · exact s_kd hR ht' IH hF hmu ⟨by omega, h23, h24, h27⟩
    | zero =>
      obtain ⟨f1, f2, f3, f4, f5, f6, f7, f8, f9, f10, f11, f12⟩ := hF
      cases j with
      | zero => exact absurd f11.2.2 (by omega)
      | succ j =>
        obtain ⟨t0, g, du, hP, r1, r2, r3, r4, r5, r6, r7, r8, r9, r10, r11⟩ := f11
        rw [wg_pl (by omega)] at hmu
        rw [Nat.sub_zero] at r8
        subst r8
        by_cases h5 : pK Z k t0 = 5
        · exact s_f5 hR ht' IH f1 f2 f3 f4 f5 f6 f7 f8 f9 f10 f12 hP r1 r2 r3 r6 r7 r9 r10 r11 hmu h5
        · by_cases h18 : pK Z k t0 ≤ 18
          · exact s_fE hR ht' IH f1 f2 f3 f4 f5 f6 f7 f8 f9 f10 f12 hP r1 r2 r3 r6 r7 r9 r10 r11 hmu ⟨r4.1, h18, h5⟩
          · exact s_fS hR ht' IH f1 f2 f3 f4 f5 f6 f7 f8 f9 f10 f12 hP r1 r2 r3 r6 r7 r9 r10 r11 hmu ⟨by omega, r4.2.1, r4.2.2⟩
end
end
section
/-! the relation, and the methods that are small -/
def rl_row (xk xv xp : Nat → Int32) (xb : Nat) (yk yv : Nat → Int32) (yb c : Nat) : Prop := c ≤ 50 ∧ (∀ i, i < c → xk (xb + i) = yk (yb + i) ∧ xv (xb + i) = yv (yb + i) ∧ yk (yb + i) = nI (kn yk (yb + i)) ∧ tk_P (kn yk (yb + i)) (yv (yb + i))) ∧ wf_U (fun i => kn yk (yb + i)) (fun i => tk_n (kn yk (yb + i)) (kn yv (yb + i))) c (fun i => xp (xb + i)) xb ∧ (∀ i j, i < j → j < c → (kn yk (yb + i) = 28 ∨ kn yk (yb + i) = 29) → (kn yk (yb + j) = 28 ∨ kn yk (yb + j) = 29) → kn yv (yb + i) % 16 ≠ kn yv (yb + j) % 16) ∧ (∀ i, i < c → kn yk (yb + i) = 29 → i + 1 < c)
def rl_dr (dc : Int32) (dk dv yk yv ys : Nat → Int32) : Prop := ∃ c, c ≤ 50 ∧ dc = nI c ∧ ys 5 = nI c ∧ ∀ i, i < 50 → dk i = yk (250 + i) ∧ dv i = yv (250 + i) ∧ yk (250 + i) = nI (kn yk (250 + i)) ∧ tk_P (kn yk (250 + i)) (yv (250 + i))
def rl_un (uk uv up ul yk yv ys : Nat → Int32) : Prop := ∀ u, u < 5 → ∃ c, ul u = nI c ∧ ys u = nI c ∧ rl_row uk uv up (50 * u) yk yv (50 * u) c
def rl_li (lc yl : Int32) (lu ll yli ylb : Nat → Int32) : Prop := ∃ n, n ≤ 5 ∧ lc = nI n ∧ yl = nI n ∧ yli = lu ∧ ylb = ll ∧ (∀ i, i < 5 → ∃ u, u < 5 ∧ lu i = nI u) ∧ (∀ i j, i < j → j < n → lu i ≠ lu j)
def rl_ln (E : SX) (Z : SY) (me my : Nat → Int32) : Prop := ∃ (n m : Nat) (tk ln : Nat → Nat) (D B pr : Nat → Nat → Nat), pR E Z n m tk ln D B pr ∧ ∀ i, i < m → me i = my i
/-- the relation -/
def i_Rel (_ : Nat) (E : SX) (Z : SY) : Prop := rl_dr (E.1) (E.2.2.2.2.2.2.2.2.2.2.2.2.2.2.2.1) (E.2.2.2.2.2.2.2.2.2.2.2.2.2.2.2.2.1) (Z.2.2.2.2.2.2.2.2.2.2.2.2.2.2.2.1) (Z.2.2.2.2.2.2.2.2.2.2.2.2.2.2.2.2.1) (Z.2.2.2.2.2.2.2.2.2.2.2.2.2.2.2.2.2.1) ∧ rl_un (E.2.2.2.2.2.2.2.2.2.2.2.2.2.2.2.2.2.2.2.1) (E.2.2.2.2.2.2.2.2.2.2.2.2.2.2.2.2.2.2.2.2.1) (E.2.2.2.2.2.2.2.2.2.2.2.2.2.2.2.2.2.2.2.2.2.1) (E.2.2.2.2.2.2.2.2.2.2.2.2.2.2.2.2.2.2.2.2.2.2.1) (Z.2.2.2.2.2.2.2.2.2.2.2.2.2.2.2.1) (Z.2.2.2.2.2.2.2.2.2.2.2.2.2.2.2.2.1) (Z.2.2.2.2.2.2.2.2.2.2.2.2.2.2.2.2.2.1) ∧ rl_li (E.2.2.2.2.1) (Z.2.2.1) (E.2.2.2.2.2.2.2.2.2.2.2.2.2.2.2.2.2.2.2.2.2.2.2.1) (E.2.2.2.2.2.2.2.2.2.2.2.2.2.2.2.2.2.2.2.2.2.2.2.2.1) (Z.2.2.2.2.2.2.2.2.2.2.2.2.2.2.2.2.2.2.1) (Z.2.2.2.2.2.2.2.2.2.2.2.2.2.2.2.2.2.2.2.1) ∧ yk_R (Z.2.2.2.2.2.2.2.2.2.2.2.2.2.2.2.1) (Z.2.2.2.2.2.2.2.2.2.2.2.2.2.2.2.2.2.1) ∧ rl_ln E Z (E.2.2.2.2.2.2.2.2.2.2.2.2.2.2.2.2.2.2.2.2.2.2.2.2.2.2.2.2.2.2.2.2.2.2.1) (Z.2.2.2.2.2.2.2.2.2.2.2.2.2.2.2.2.2.2.2.2.2.1) ∧ E.2.2.2.1 = Z.1 ∧ E.2.2.2.2.2.2.1 = Z.2.1 ∧ E.2.2.2.2.2.2.2.2.2.2.2.2.2.1 = Z.2.2.2.2.2.2.2.2.2.2.2.1 ∧ E.2.2.2.2.2.2.2.2.2.2.2.2.2.2.1 = Z.2.2.2.2.2.2.2.2.2.2.1 ∧ E.2.2.2.2.2.2.2.2.2.2.2.2.2.2.2.2.2.2.2.2.2.2.2.2.2.2.2.2.2.2.2.2.2.2.2.1 = Z.2.2.2.2.2.2.2.2.2.2.2.2.2.2.2.2.2.2.2.2.2.2.2.2.2.2.2.2 ∧ E.2.2.2.2.2.2.2.2.2.2.2.2.2.2.2.2.2.2.2.2.2.2.2.2.2.2.2.2.2.2.2.2.2.2.2.2.2.2.1 = Z.2.2.2.2.2.2.2.2.2.2.2.2.2.2.2.2.2.2.2.2.2.2.2.2.2.1
section
variable {f_draftCount f_openCount f_operandsDue f_faultPlace f_listCount f_takenCount f_culpritName f_memorySize f_operandCount f_pendingCount f_frameCount f_next f_outcome f_lastResult f_stepCount : Int32} {a_draftKind a_draftValue a_draftPartner a_openBlock a_unitKind a_unitValue a_unitPartner a_unitLength a_listedUnit a_listedAsLibrary a_takenUnit a_definition a_isDuplicate a_isWanted a_codeKind a_codeValue a_codePartner a_functionOf a_placeOf a_memory a_operands a_pendingToken a_pendingDue a_locals a_returnTo : Nat → Int32}
variable {g_place g_culprit g_listed g_units g_taken g_used g_depth g_waiting g_held g_fault g_steps g_result g_given g_gift g_has : Int32} {b_kind b_value b_size b_list b_library b_places b_memory b_wanted b_pc b_base b_locals b_waits b_got b_values : Nat → Int32}
theorem i_mk {k : Nat} (h : rl_dr f_draftCount a_draftKind a_draftValue b_kind b_value b_size ∧ rl_un a_unitKind a_unitValue a_unitPartner a_unitLength b_kind b_value b_size ∧ rl_li f_listCount g_listed a_listedUnit a_listedAsLibrary b_list b_library ∧ yk_R b_kind b_size ∧ rl_ln (f_draftCount, f_openCount, f_operandsDue, f_faultPlace, f_listCount, f_takenCount, f_culpritName, f_memorySize, f_operandCount, f_pendingCount, f_frameCount, f_next, f_outcome, f_lastResult, f_stepCount, a_draftKind, a_draftValue, a_draftPartner, a_openBlock, a_unitKind, a_unitValue, a_unitPartner, a_unitLength, a_listedUnit, a_listedAsLibrary, a_takenUnit, a_definition, a_isDuplicate, a_isWanted, a_codeKind, a_codeValue, a_codePartner, a_functionOf, a_placeOf, a_memory, a_operands, a_pendingToken, a_pendingDue, a_locals, a_returnTo) (g_place, g_culprit, g_listed, g_units, g_taken, g_used, g_depth, g_waiting, g_held, g_fault, g_steps, g_result, g_given, g_gift, g_has, b_kind, b_value, b_size, b_list, b_library, b_places, b_memory, b_wanted, b_pc, b_base, b_locals, b_waits, b_got, b_values) a_memory b_memory ∧ f_faultPlace = g_place ∧ f_culpritName = g_culprit ∧ f_lastResult = g_result ∧ f_stepCount = g_steps ∧ a_operands = b_values ∧ a_locals = b_locals) : i_Rel k (f_draftCount, f_openCount, f_operandsDue, f_faultPlace, f_listCount, f_takenCount, f_culpritName, f_memorySize, f_operandCount, f_pendingCount, f_frameCount, f_next, f_outcome, f_lastResult, f_stepCount, a_draftKind, a_draftValue, a_draftPartner, a_openBlock, a_unitKind, a_unitValue, a_unitPartner, a_unitLength, a_listedUnit, a_listedAsLibrary, a_takenUnit, a_definition, a_isDuplicate, a_isWanted, a_codeKind, a_codeValue, a_codePartner, a_functionOf, a_placeOf, a_memory, a_operands, a_pendingToken, a_pendingDue, a_locals, a_returnTo) (g_place, g_culprit, g_listed, g_units, g_taken, g_used, g_depth, g_waiting, g_held, g_fault, g_steps, g_result, g_given, g_gift, g_has, b_kind, b_value, b_size, b_list, b_library, b_places, b_memory, b_wanted, b_pc, b_base, b_locals, b_waits, b_got, b_values) := h
theorem i_el {k : Nat} (h : i_Rel k (f_draftCount, f_openCount, f_operandsDue, f_faultPlace, f_listCount, f_takenCount, f_culpritName, f_memorySize, f_operandCount, f_pendingCount, f_frameCount, f_next, f_outcome, f_lastResult, f_stepCount, a_draftKind, a_draftValue, a_draftPartner, a_openBlock, a_unitKind, a_unitValue, a_unitPartner, a_unitLength, a_listedUnit, a_listedAsLibrary, a_takenUnit, a_definition, a_isDuplicate, a_isWanted, a_codeKind, a_codeValue, a_codePartner, a_functionOf, a_placeOf, a_memory, a_operands, a_pendingToken, a_pendingDue, a_locals, a_returnTo) (g_place, g_culprit, g_listed, g_units, g_taken, g_used, g_depth, g_waiting, g_held, g_fault, g_steps, g_result, g_given, g_gift, g_has, b_kind, b_value, b_size, b_list, b_library, b_places, b_memory, b_wanted, b_pc, b_base, b_locals, b_waits, b_got, b_values)) : rl_dr f_draftCount a_draftKind a_draftValue b_kind b_value b_size ∧ rl_un a_unitKind a_unitValue a_unitPartner a_unitLength b_kind b_value b_size ∧ rl_li f_listCount g_listed a_listedUnit a_listedAsLibrary b_list b_library ∧ yk_R b_kind b_size ∧ rl_ln (f_draftCount, f_openCount, f_operandsDue, f_faultPlace, f_listCount, f_takenCount, f_culpritName, f_memorySize, f_operandCount, f_pendingCount, f_frameCount, f_next, f_outcome, f_lastResult, f_stepCount, a_draftKind, a_draftValue, a_draftPartner, a_openBlock, a_unitKind, a_unitValue, a_unitPartner, a_unitLength, a_listedUnit, a_listedAsLibrary, a_takenUnit, a_definition, a_isDuplicate, a_isWanted, a_codeKind, a_codeValue, a_codePartner, a_functionOf, a_placeOf, a_memory, a_operands, a_pendingToken, a_pendingDue, a_locals, a_returnTo) (g_place, g_culprit, g_listed, g_units, g_taken, g_used, g_depth, g_waiting, g_held, g_fault, g_steps, g_result, g_given, g_gift, g_has, b_kind, b_value, b_size, b_list, b_library, b_places, b_memory, b_wanted, b_pc, b_base, b_locals, b_waits, b_got, b_values) a_memory b_memory ∧ f_faultPlace = g_place ∧ f_culpritName = g_culprit ∧ f_lastResult = g_result ∧ f_stepCount = g_steps ∧ a_operands = b_values ∧ a_locals = b_locals := h
end
theorem i_up {k : Nat} {u : SX} {v : SY} (h : i_Rel k u v) : i_Rel (k + 5) u v := h
theorem pR_ext {E E' : SX} {Z Z' : SY} {n m : Nat} {tk ln : Nat → Nat} {D B pr : Nat → Nat → Nat} (e1 : xMS E' = xMS E) (e2 : xCK E' = xCK E) (e3 : xCV E' = xCV E) (e4 : xCP E' = xCP E) (e5 : xFO E' = xFO E) (e6 : xPO E' = xPO E) (y1 : yUN Z' = yUN Z) (y2 : yUS Z' = yUS Z) (y3 : yPL Z' = yPL Z) (y4 : ∀ j, 550 ≤ j → yK Z' j = yK Z j ∧ yV Z' j = yV Z j) (y5 : ∀ r, 11 ≤ r → yS Z' r = yS Z r) (h : pR E Z n m tk ln D B pr) : pR E' Z' n m tk ln D B pr := by
  have hK : pK Z' = pK Z := by
    funext k i
    show (yK Z' _).toNatClampNeg = (yK Z _).toNatClampNeg
    rw [(y4 _ (by omega)).1]
  have hV : pV Z' = pV Z := by
    funext k i
    show (yV Z' _).toNatClampNeg = (yV Z _).toNatClampNeg
    rw [(y4 _ (by omega)).2]
  have hO : pO Z' = pO Z := by
    funext k i
    unfold pO
    rw [hK, hV]
  obtain ⟨h1, h2, h3, h4, h5, h6, h7, h8, h9⟩ := h
  unfold pR
  rw [hK, hV, hO, e1, e5, e6, y1, y2, y3]
  refine ⟨h1, h2, h3, h4, h5, fun k hk => ?_, h7, h8, h9⟩
  obtain ⟨a, b, c, d, e, f⟩ := h6 k hk
  refine ⟨a, b, by rw [y5 _ (by omega)]; exact c, fun i hi => ?_, e, by rw [e4]; exact f⟩
  obtain ⟨d1, d2, d3, d4⟩ := d i hi
  unfold pT
  rw [hK, e2, e3, (y4 _ (by omega)).1, (y4 _ (by omega)).2]
  exact ⟨d1, d2, d3, d4⟩
section
variable {f_draftCount f_openCount f_operandsDue f_faultPlace f_listCount f_takenCount f_culpritName f_memorySize f_operandCount f_pendingCount f_frameCount f_next f_outcome f_lastResult f_stepCount : Int32} {a_draftKind a_draftValue a_draftPartner a_openBlock a_unitKind a_unitValue a_unitPartner a_unitLength a_listedUnit a_listedAsLibrary a_takenUnit a_definition a_isDuplicate a_isWanted a_codeKind a_codeValue a_codePartner a_functionOf a_placeOf a_memory a_operands a_pendingToken a_pendingDue a_locals a_returnTo : Nat → Int32}
theorem xMS_e : xMS (f_draftCount, f_openCount, f_operandsDue, f_faultPlace, f_listCount, f_takenCount, f_culpritName, f_memorySize, f_operandCount, f_pendingCount, f_frameCount, f_next, f_outcome, f_lastResult, f_stepCount, a_draftKind, a_draftValue, a_draftPartner, a_openBlock, a_unitKind, a_unitValue, a_unitPartner, a_unitLength, a_listedUnit, a_listedAsLibrary, a_takenUnit, a_definition, a_isDuplicate, a_isWanted, a_codeKind, a_codeValue, a_codePartner, a_functionOf, a_placeOf, a_memory, a_operands, a_pendingToken, a_pendingDue, a_locals, a_returnTo) = f_memorySize := rfl
theorem xCK_e : xCK (f_draftCount, f_openCount, f_operandsDue, f_faultPlace, f_listCount, f_takenCount, f_culpritName, f_memorySize, f_operandCount, f_pendingCount, f_frameCount, f_next, f_outcome, f_lastResult, f_stepCount, a_draftKind, a_draftValue, a_draftPartner, a_openBlock, a_unitKind, a_unitValue, a_unitPartner, a_unitLength, a_listedUnit, a_listedAsLibrary, a_takenUnit, a_definition, a_isDuplicate, a_isWanted, a_codeKind, a_codeValue, a_codePartner, a_functionOf, a_placeOf, a_memory, a_operands, a_pendingToken, a_pendingDue, a_locals, a_returnTo) = a_codeKind := rfl
theorem xCV_e : xCV (f_draftCount, f_openCount, f_operandsDue, f_faultPlace, f_listCount, f_takenCount, f_culpritName, f_memorySize, f_operandCount, f_pendingCount, f_frameCount, f_next, f_outcome, f_lastResult, f_stepCount, a_draftKind, a_draftValue, a_draftPartner, a_openBlock, a_unitKind, a_unitValue, a_unitPartner, a_unitLength, a_listedUnit, a_listedAsLibrary, a_takenUnit, a_definition, a_isDuplicate, a_isWanted, a_codeKind, a_codeValue, a_codePartner, a_functionOf, a_placeOf, a_memory, a_operands, a_pendingToken, a_pendingDue, a_locals, a_returnTo) = a_codeValue := rfl
theorem xCP_e : xCP (f_draftCount, f_openCount, f_operandsDue, f_faultPlace, f_listCount, f_takenCount, f_culpritName, f_memorySize, f_operandCount, f_pendingCount, f_frameCount, f_next, f_outcome, f_lastResult, f_stepCount, a_draftKind, a_draftValue, a_draftPartner, a_openBlock, a_unitKind, a_unitValue, a_unitPartner, a_unitLength, a_listedUnit, a_listedAsLibrary, a_takenUnit, a_definition, a_isDuplicate, a_isWanted, a_codeKind, a_codeValue, a_codePartner, a_functionOf, a_placeOf, a_memory, a_operands, a_pendingToken, a_pendingDue, a_locals, a_returnTo) = a_codePartner := rfl
theorem xFO_e : xFO (f_draftCount, f_openCount, f_operandsDue, f_faultPlace, f_listCount, f_takenCount, f_culpritName, f_memorySize, f_operandCount, f_pendingCount, f_frameCount, f_next, f_outcome, f_lastResult, f_stepCount, a_draftKind, a_draftValue, a_draftPartner, a_openBlock, a_unitKind, a_unitValue, a_unitPartner, a_unitLength, a_listedUnit, a_listedAsLibrary, a_takenUnit, a_definition, a_isDuplicate, a_isWanted, a_codeKind, a_codeValue, a_codePartner, a_functionOf, a_placeOf, a_memory, a_operands, a_pendingToken, a_pendingDue, a_locals, a_returnTo) = a_functionOf := rfl
theorem xPO_e : xPO (f_draftCount, f_openCount, f_operandsDue, f_faultPlace, f_listCount, f_takenCount, f_culpritName, f_memorySize, f_operandCount, f_pendingCount, f_frameCount, f_next, f_outcome, f_lastResult, f_stepCount, a_draftKind, a_draftValue, a_draftPartner, a_openBlock, a_unitKind, a_unitValue, a_unitPartner, a_unitLength, a_listedUnit, a_listedAsLibrary, a_takenUnit, a_definition, a_isDuplicate, a_isWanted, a_codeKind, a_codeValue, a_codePartner, a_functionOf, a_placeOf, a_memory, a_operands, a_pendingToken, a_pendingDue, a_locals, a_returnTo) = a_placeOf := rfl
end
section
variable {g_place g_culprit g_listed g_units g_taken g_used g_depth g_waiting g_held g_fault g_steps g_result g_given g_gift g_has : Int32} {b_kind b_value b_size b_list b_library b_places b_memory b_wanted b_pc b_base b_locals b_waits b_got b_values : Nat → Int32}
theorem yUN_e : yUN (g_place, g_culprit, g_listed, g_units, g_taken, g_used, g_depth, g_waiting, g_held, g_fault, g_steps, g_result, g_given, g_gift, g_has, b_kind, b_value, b_size, b_list, b_library, b_places, b_memory, b_wanted, b_pc, b_base, b_locals, b_waits, b_got, b_values) = g_units := rfl
theorem yUS_e : yUS (g_place, g_culprit, g_listed, g_units, g_taken, g_used, g_depth, g_waiting, g_held, g_fault, g_steps, g_result, g_given, g_gift, g_has, b_kind, b_value, b_size, b_list, b_library, b_places, b_memory, b_wanted, b_pc, b_base, b_locals, b_waits, b_got, b_values) = g_used := rfl
theorem yPL_e : yPL (g_place, g_culprit, g_listed, g_units, g_taken, g_used, g_depth, g_waiting, g_held, g_fault, g_steps, g_result, g_given, g_gift, g_has, b_kind, b_value, b_size, b_list, b_library, b_places, b_memory, b_wanted, b_pc, b_base, b_locals, b_waits, b_got, b_values) = b_places := rfl
theorem yK_e : yK (g_place, g_culprit, g_listed, g_units, g_taken, g_used, g_depth, g_waiting, g_held, g_fault, g_steps, g_result, g_given, g_gift, g_has, b_kind, b_value, b_size, b_list, b_library, b_places, b_memory, b_wanted, b_pc, b_base, b_locals, b_waits, b_got, b_values) = b_kind := rfl
theorem yV_e : yV (g_place, g_culprit, g_listed, g_units, g_taken, g_used, g_depth, g_waiting, g_held, g_fault, g_steps, g_result, g_given, g_gift, g_has, b_kind, b_value, b_size, b_list, b_library, b_places, b_memory, b_wanted, b_pc, b_base, b_locals, b_waits, b_got, b_values) = b_value := rfl
theorem yS_e : yS (g_place, g_culprit, g_listed, g_units, g_taken, g_used, g_depth, g_waiting, g_held, g_fault, g_steps, g_result, g_given, g_gift, g_has, b_kind, b_value, b_size, b_list, b_library, b_places, b_memory, b_wanted, b_pc, b_base, b_locals, b_waits, b_got, b_values) = b_size := rfl
end
theorem y_init {post : SY → Prop} (hp : ∀ pl : Nat → Int32, (∀ nm, nm < 12 → pl nm = -1) → post (-1, -1, 0, 0, 0, 0, 0, 0, 0, 0, 0, 0, 0, 0, 0, (fun _ => 0), (fun _ => 0), (fun _ => 0), (fun _ => 0), (fun _ => 0), pl, (fun _ => 0), (fun _ => 0), (fun _ => 0), (fun _ => 0), (fun _ => 0), (fun _ => 0), (fun _ => 0), (fun _ => 0))) : wpY_init post := by
  have key : ∀ m t (pl : Nat → Int32), t + m = 12 → (∀ nm, nm < t → pl nm = -1) → wY_init_132 post (-1) (-1) 0 0 0 0 0 0 0 0 0 0 0 0 0 (m + 1) (nI t) (fun _ => 0) (fun _ => 0) (fun _ => 0) (fun _ => 0) (fun _ => 0) pl (fun _ => 0) (fun _ => 0) (fun _ => 0) (fun _ => 0) (fun _ => 0) (fun _ => 0) (fun _ => 0) (fun _ => 0) := by
    intro m
    induction m with
    | zero =>
      intro t pl ht h
      exact br_t (nI_le (a := 12) (by omega) (by omega)) (hp pl (fun j hj => h j (by omega)))
    | succ m ih =>
      intro t pl ht h
      refine br_f (nI_ge (b := 12) (by omega) (by omega)) ⟨pk_in t 12 (by omega), nm_r (e' := upd pl t (-1)) (by rw [nI_clamp (by omega), ba_bm1]) (nm_r (nI_1 t) (ih (t + 1) _ (by omega) (fun j hj => ?_)))⟩
      by_cases z : j = t
      · rw [z, pk_us]
      · rw [pk_un z]; exact h j (by omega)
  exact ⟨13, key 12 0 (fun _ => 0) (by omega) (fun j h => absurd h (by omega))⟩
theorem kn0 (j : Nat) : kn (fun _ => 0) j = 0 := by
  show (0 : Int32).toNatClampNeg = 0
  decide
theorem i_vc0 : wpX_init (fun u => wpY_init (fun v => i_Rel 0 u v)) := by
  unfold wpX_init
  refine xl_clear (fun fo po h => ?_)
  refine y_init (fun pl hpl => ?_)
  refine i_mk ⟨⟨0, by omega, rfl, rfl, fun i _ => ⟨rfl, rfl, ?_, ?_⟩⟩, fun u _ => ⟨0, rfl, rfl, by omega, fun i hi => absurd hi (Nat.not_lt_zero _), ⟨fun _ => 0, fun _ => 0, fun _ => 0, ⟨rfl, fun p hp => absurd hp (Nat.not_lt_zero _), fun p hp => absurd hp (Nat.not_lt_zero _), fun p hp => absurd hp (Nat.not_lt_zero _)⟩, fun p hp => absurd hp (Nat.not_lt_zero _), fun p hp => absurd hp (Nat.not_lt_zero _)⟩, fun i j _ hj => absurd hj (Nat.not_lt_zero _), fun i hi => absurd hi (Nat.not_lt_zero _)⟩, ⟨0, by omega, rfl, rfl, rfl, rfl, fun i _ => ⟨0, by omega, rfl⟩, fun i j _ hj => absurd hj (Nat.not_lt_zero _)⟩, ⟨fun j _ => ⟨0, by omega, rfl⟩, fun r _ => ⟨0, by omega, rfl⟩⟩, ⟨0, 0, fun _ => 0, fun _ => 0, fun _ _ => 0, fun _ _ => 0, fun _ _ => 0, ⟨by omega, by omega, rfl, rfl, rfl, fun k hk => absurd hk (Nat.not_lt_zero _), fun nm hnm => ?_, fun nm hnm => (h nm hnm).1, fun k hk => absurd hk (Nat.not_lt_zero _)⟩, fun i hi => absurd hi (Nat.not_lt_zero _)⟩, rfl, rfl, rfl, rfl, rfl, rfl⟩
  · rw [kn0]; rfl
  · rw [kn0]; exact tk_P0
  · show po nm = pl nm
    rw [(h nm hnm).2, hpl nm hnm]
theorem i_vc_place {k : Nat} {u : SX} {v : SY} (I : i_Rel k u v) (hk : k + 5 ≤ 2560) : wpX_place (fun r => wpY_place (fun r' => r' = r ∧ i_Rel (k + 5) u v) v) u := by
  obtain ⟨f_draftCount, f_openCount, f_operandsDue, f_faultPlace, f_listCount, f_takenCount, f_culpritName, f_memorySize, f_operandCount, f_pendingCount, f_frameCount, f_next, f_outcome, f_lastResult, f_stepCount, a_draftKind, a_draftValue, a_draftPartner, a_openBlock, a_unitKind, a_unitValue, a_unitPartner, a_unitLength, a_listedUnit, a_listedAsLibrary, a_takenUnit, a_definition, a_isDuplicate, a_isWanted, a_codeKind, a_codeValue, a_codePartner, a_functionOf, a_placeOf, a_memory, a_operands, a_pendingToken, a_pendingDue, a_locals, a_returnTo⟩ := u
  obtain ⟨g_place, g_culprit, g_listed, g_units, g_taken, g_used, g_depth, g_waiting, g_held, g_fault, g_steps, g_result, g_given, g_gift, g_has, b_kind, b_value, b_size, b_list, b_library, b_places, b_memory, b_wanted, b_pc, b_base, b_locals, b_waits, b_got, b_values⟩ := v
  exact ⟨(i_el I).2.2.2.2.2.1.symm, I⟩
theorem i_vc_culprit {k : Nat} {u : SX} {v : SY} (I : i_Rel k u v) (hk : k + 5 ≤ 2560) : wpX_culprit (fun r => wpY_culprit (fun r' => r' = r ∧ i_Rel (k + 5) u v) v) u := by
  obtain ⟨f_draftCount, f_openCount, f_operandsDue, f_faultPlace, f_listCount, f_takenCount, f_culpritName, f_memorySize, f_operandCount, f_pendingCount, f_frameCount, f_next, f_outcome, f_lastResult, f_stepCount, a_draftKind, a_draftValue, a_draftPartner, a_openBlock, a_unitKind, a_unitValue, a_unitPartner, a_unitLength, a_listedUnit, a_listedAsLibrary, a_takenUnit, a_definition, a_isDuplicate, a_isWanted, a_codeKind, a_codeValue, a_codePartner, a_functionOf, a_placeOf, a_memory, a_operands, a_pendingToken, a_pendingDue, a_locals, a_returnTo⟩ := u
  obtain ⟨g_place, g_culprit, g_listed, g_units, g_taken, g_used, g_depth, g_waiting, g_held, g_fault, g_steps, g_result, g_given, g_gift, g_has, b_kind, b_value, b_size, b_list, b_library, b_places, b_memory, b_wanted, b_pc, b_base, b_locals, b_waits, b_got, b_values⟩ := v
  exact ⟨(i_el I).2.2.2.2.2.2.1.symm, I⟩
theorem i_vc_result {k : Nat} {u : SX} {v : SY} (I : i_Rel k u v) (hk : k + 5 ≤ 2560) : wpX_result (fun r => wpY_result (fun r' => r' = r ∧ i_Rel (k + 5) u v) v) u := by
  obtain ⟨f_draftCount, f_openCount, f_operandsDue, f_faultPlace, f_listCount, f_takenCount, f_culpritName, f_memorySize, f_operandCount, f_pendingCount, f_frameCount, f_next, f_outcome, f_lastResult, f_stepCount, a_draftKind, a_draftValue, a_draftPartner, a_openBlock, a_unitKind, a_unitValue, a_unitPartner, a_unitLength, a_listedUnit, a_listedAsLibrary, a_takenUnit, a_definition, a_isDuplicate, a_isWanted, a_codeKind, a_codeValue, a_codePartner, a_functionOf, a_placeOf, a_memory, a_operands, a_pendingToken, a_pendingDue, a_locals, a_returnTo⟩ := u
  obtain ⟨g_place, g_culprit, g_listed, g_units, g_taken, g_used, g_depth, g_waiting, g_held, g_fault, g_steps, g_result, g_given, g_gift, g_has, b_kind, b_value, b_size, b_list, b_library, b_places, b_memory, b_wanted, b_pc, b_base, b_locals, b_waits, b_got, b_values⟩ := v
  exact ⟨(i_el I).2.2.2.2.2.2.2.1.symm, I⟩
theorem i_vc_steps {k : Nat} {u : SX} {v : SY} (I : i_Rel k u v) (hk : k + 5 ≤ 2560) : wpX_steps (fun r => wpY_steps (fun r' => r' = r ∧ i_Rel (k + 5) u v) v) u := by
  obtain ⟨f_draftCount, f_openCount, f_operandsDue, f_faultPlace, f_listCount, f_takenCount, f_culpritName, f_memorySize, f_operandCount, f_pendingCount, f_frameCount, f_next, f_outcome, f_lastResult, f_stepCount, a_draftKind, a_draftValue, a_draftPartner, a_openBlock, a_unitKind, a_unitValue, a_unitPartner, a_unitLength, a_listedUnit, a_listedAsLibrary, a_takenUnit, a_definition, a_isDuplicate, a_isWanted, a_codeKind, a_codeValue, a_codePartner, a_functionOf, a_placeOf, a_memory, a_operands, a_pendingToken, a_pendingDue, a_locals, a_returnTo⟩ := u
  obtain ⟨g_place, g_culprit, g_listed, g_units, g_taken, g_used, g_depth, g_waiting, g_held, g_fault, g_steps, g_result, g_given, g_gift, g_has, b_kind, b_value, b_size, b_list, b_library, b_places, b_memory, b_wanted, b_pc, b_base, b_locals, b_waits, b_got, b_values⟩ := v
  exact ⟨(i_el I).2.2.2.2.2.2.2.2.1.symm, I⟩
theorem i_vc_size {k : Nat} {u : SX} {v : SY} (I : i_Rel k u v) (hk : k + 5 ≤ 2560) : wpX_size (fun r => wpY_size (fun r' => r' = r ∧ i_Rel (k + 5) u v) v) u := by
  obtain ⟨f_draftCount, f_openCount, f_operandsDue, f_faultPlace, f_listCount, f_takenCount, f_culpritName, f_memorySize, f_operandCount, f_pendingCount, f_frameCount, f_next, f_outcome, f_lastResult, f_stepCount, a_draftKind, a_draftValue, a_draftPartner, a_openBlock, a_unitKind, a_unitValue, a_unitPartner, a_unitLength, a_listedUnit, a_listedAsLibrary, a_takenUnit, a_definition, a_isDuplicate, a_isWanted, a_codeKind, a_codeValue, a_codePartner, a_functionOf, a_placeOf, a_memory, a_operands, a_pendingToken, a_pendingDue, a_locals, a_returnTo⟩ := u
  obtain ⟨g_place, g_culprit, g_listed, g_units, g_taken, g_used, g_depth, g_waiting, g_held, g_fault, g_steps, g_result, g_given, g_gift, g_has, b_kind, b_value, b_size, b_list, b_library, b_places, b_memory, b_wanted, b_pc, b_base, b_locals, b_waits, b_got, b_values⟩ := v
  refine ⟨?_, I⟩
  obtain ⟨_, _, _, _, ⟨n, m, tk, ln, D, B, pr, ⟨_, _, _, h4, h5, _⟩, _⟩, _⟩ := i_el I
  exact h4.trans h5.symm
section
variable {f_draftCount f_openCount f_operandsDue f_faultPlace f_listCount f_takenCount f_culpritName f_memorySize f_operandCount f_pendingCount f_frameCount f_next f_outcome f_lastResult f_stepCount : Int32} {a_draftKind a_draftValue a_draftPartner a_openBlock a_unitKind a_unitValue a_unitPartner a_unitLength a_listedUnit a_listedAsLibrary a_takenUnit a_definition a_isDuplicate a_isWanted a_codeKind a_codeValue a_codePartner a_functionOf a_placeOf a_memory a_operands a_pendingToken a_pendingDue a_locals a_returnTo : Nat → Int32}
theorem x_name {post : Int32 → Prop} {v : Int32} (h1 : ∀ q, q < 12 → v = nI q → post 1) (h0 : (v < 0 ∨ nI 12 ≤ v) → post 0) : wpX_isName post v := by
  rcases pk_ix v (n := 12) (by omega) with z | z | ⟨q, hq, e⟩
  · exact br_t z (h0 (Or.inl z))
  · exact br_c (fun _ => h0 (Or.inr z)) (fun _ => br_t z (h0 (Or.inr z)))
  · subst e
    exact br_f (nI_pos (by omega)) (br_f (nI_ge (b := 12) hq (by omega)) (h1 q hq rfl))
theorem x_at {post : Int32 → Prop} {v : Int32} (h1 : ∀ q, q < 12 → v = nI q → post (a_placeOf q)) (h0 : (v < 0 ∨ nI 12 ≤ v) → post (-1)) : wpX_at post (f_draftCount, f_openCount, f_operandsDue, f_faultPlace, f_listCount, f_takenCount, f_culpritName, f_memorySize, f_operandCount, f_pendingCount, f_frameCount, f_next, f_outcome, f_lastResult, f_stepCount, a_draftKind, a_draftValue, a_draftPartner, a_openBlock, a_unitKind, a_unitValue, a_unitPartner, a_unitLength, a_listedUnit, a_listedAsLibrary, a_takenUnit, a_definition, a_isDuplicate, a_isWanted, a_codeKind, a_codeValue, a_codePartner, a_functionOf, a_placeOf, a_memory, a_operands, a_pendingToken, a_pendingDue, a_locals, a_returnTo) v := by
  unfold wpX_at
  refine x_name (fun q hq e => br_f (by decide) ⟨pk_in q 12 hq e, ?_⟩) (fun z => br_t rfl (h0 z))
  rw [ba_cl e (by omega)]
  exact h1 q hq e
theorem x_used {post : Int32 → Prop} {v : Int32} {m : Nat} (hm : m ≤ 48) (h1 : ∀ q, q < m → v = nI q → post 1) (h0 : (v < 0 ∨ nI m ≤ v) → post 0) : wpX_isInUse post (f_draftCount, f_openCount, f_operandsDue, f_faultPlace, f_listCount, f_takenCount, f_culpritName, nI m, f_operandCount, f_pendingCount, f_frameCount, f_next, f_outcome, f_lastResult, f_stepCount, a_draftKind, a_draftValue, a_draftPartner, a_openBlock, a_unitKind, a_unitValue, a_unitPartner, a_unitLength, a_listedUnit, a_listedAsLibrary, a_takenUnit, a_definition, a_isDuplicate, a_isWanted, a_codeKind, a_codeValue, a_codePartner, a_functionOf, a_placeOf, a_memory, a_operands, a_pendingToken, a_pendingDue, a_locals, a_returnTo) v := by
  rcases pk_ix v (n := m) (by omega) with z | z | ⟨q, hq, e⟩
  · exact br_t z (h0 (Or.inl z))
  · exact br_c (fun _ => h0 (Or.inr z)) (fun _ => br_t z (h0 (Or.inr z)))
  · subst e
    exact br_f (nI_pos (by omega)) (br_f (nI_ge hq (by omega)) (h1 q hq rfl))
theorem x_peek {post : Int32 → Prop} {v : Int32} {m : Nat} (hm : m ≤ 48) (h1 : ∀ q, q < m → v = nI q → post (a_memory q)) (h0 : (v < 0 ∨ nI m ≤ v) → post 0) : wpX_peek post (f_draftCount, f_openCount, f_operandsDue, f_faultPlace, f_listCount, f_takenCount, f_culpritName, nI m, f_operandCount, f_pendingCount, f_frameCount, f_next, f_outcome, f_lastResult, f_stepCount, a_draftKind, a_draftValue, a_draftPartner, a_openBlock, a_unitKind, a_unitValue, a_unitPartner, a_unitLength, a_listedUnit, a_listedAsLibrary, a_takenUnit, a_definition, a_isDuplicate, a_isWanted, a_codeKind, a_codeValue, a_codePartner, a_functionOf, a_placeOf, a_memory, a_operands, a_pendingToken, a_pendingDue, a_locals, a_returnTo) v := by
  unfold wpX_peek
  refine x_used hm (fun q hq e => br_f (by decide) ⟨pk_in q 48 (by omega) e, ?_⟩) (fun z => br_t rfl (h0 z))
  rw [ba_cl e (by omega)]
  exact h1 q hq e
theorem x_poke {post : Int32 → SX → Prop} {v w : Int32} {m : Nat} (hm : m ≤ 48) (h1 : ∀ q, q < m → v = nI q → post 1 (f_draftCount, f_openCount, f_operandsDue, f_faultPlace, f_listCount, f_takenCount, f_culpritName, nI m, f_operandCount, f_pendingCount, f_frameCount, f_next, f_outcome, f_lastResult, f_stepCount, a_draftKind, a_draftValue, a_draftPartner, a_openBlock, a_unitKind, a_unitValue, a_unitPartner, a_unitLength, a_listedUnit, a_listedAsLibrary, a_takenUnit, a_definition, a_isDuplicate, a_isWanted, a_codeKind, a_codeValue, a_codePartner, a_functionOf, a_placeOf, upd a_memory q w, a_operands, a_pendingToken, a_pendingDue, a_locals, a_returnTo)) (h0 : (v < 0 ∨ nI m ≤ v) → post 0 (f_draftCount, f_openCount, f_operandsDue, f_faultPlace, f_listCount, f_takenCount, f_culpritName, nI m, f_operandCount, f_pendingCount, f_frameCount, f_next, f_outcome, f_lastResult, f_stepCount, a_draftKind, a_draftValue, a_draftPartner, a_openBlock, a_unitKind, a_unitValue, a_unitPartner, a_unitLength, a_listedUnit, a_listedAsLibrary, a_takenUnit, a_definition, a_isDuplicate, a_isWanted, a_codeKind, a_codeValue, a_codePartner, a_functionOf, a_placeOf, a_memory, a_operands, a_pendingToken, a_pendingDue, a_locals, a_returnTo)) : wpX_poke post (f_draftCount, f_openCount, f_operandsDue, f_faultPlace, f_listCount, f_takenCount, f_culpritName, nI m, f_operandCount, f_pendingCount, f_frameCount, f_next, f_outcome, f_lastResult, f_stepCount, a_draftKind, a_draftValue, a_draftPartner, a_openBlock, a_unitKind, a_unitValue, a_unitPartner, a_unitLength, a_listedUnit, a_listedAsLibrary, a_takenUnit, a_definition, a_isDuplicate, a_isWanted, a_codeKind, a_codeValue, a_codePartner, a_functionOf, a_placeOf, a_memory, a_operands, a_pendingToken, a_pendingDue, a_locals, a_returnTo) v w := by
  unfold wpX_poke
  refine x_used hm (fun q hq e => br_f (by decide) ⟨pk_in q 48 (by omega) e, nm_r (e' := upd a_memory q w) (by rw [ba_cl e (by omega)]) (h1 q hq e)⟩) (fun z => br_t rfl (h0 z))
end
section
variable {g_place g_culprit g_listed g_units g_taken g_used g_depth g_waiting g_held g_fault g_steps g_result g_given g_gift g_has : Int32} {b_kind b_value b_size b_list b_library b_places b_memory b_wanted b_pc b_base b_locals b_waits b_got b_values : Nat → Int32}
theorem y_outs {post : Int32 → Prop} {v : Int32} {m : Nat} (hm : m < 2 ^ 31) (h1 : ∀ q, q < m → v = nI q → post 0) (h0 : (v < 0 ∨ nI m ≤ v) → post 1) : wpY_out post v (nI m) := by
  rcases pk_ix v (n := m) hm with z | z | ⟨q, hq, e⟩
  · exact yu_out1 (Or.inl z) (h0 (Or.inl z))
  · exact yu_out1 (Or.inr z) (h0 (Or.inr z))
  · subst e
    exact yu_out hq hm (h1 q hq rfl)
theorem y_at {post : Int32 → Prop} {v : Int32} (h1 : ∀ q, q < 12 → v = nI q → post (b_places q)) (h0 : (v < 0 ∨ nI 12 ≤ v) → post (-1)) : wpY_at post (g_place, g_culprit, g_listed, g_units, g_taken, g_used, g_depth, g_waiting, g_held, g_fault, g_steps, g_result, g_given, g_gift, g_has, b_kind, b_value, b_size, b_list, b_library, b_places, b_memory, b_wanted, b_pc, b_base, b_locals, b_waits, b_got, b_values) v := by
  unfold wpY_at
  refine y_outs (m := 12) (by omega) (fun q hq e => br_t rfl ⟨pk_in q 12 hq e, ?_⟩) (fun z => br_f (by decide) (h0 z))
  rw [ba_cl e (by omega)]
  exact h1 q hq e
theorem y_peek {post : Int32 → Prop} {v : Int32} {m : Nat} (hm : m ≤ 48) (h1 : ∀ q, q < m → v = nI q → post (b_memory q)) (h0 : (v < 0 ∨ nI m ≤ v) → post 0) : wpY_peek post (g_place, g_culprit, g_listed, g_units, g_taken, nI m, g_depth, g_waiting, g_held, g_fault, g_steps, g_result, g_given, g_gift, g_has, b_kind, b_value, b_size, b_list, b_library, b_places, b_memory, b_wanted, b_pc, b_base, b_locals, b_waits, b_got, b_values) v := by
  unfold wpY_peek
  refine y_outs (m := m) (by omega) (fun q hq e => br_t rfl ⟨pk_in q 48 (by omega) e, ?_⟩) (fun z => br_f (by decide) (h0 z))
  rw [ba_cl e (by omega)]
  exact h1 q hq e
theorem y_poke {post : Int32 → SY → Prop} {v w : Int32} {m : Nat} (hm : m ≤ 48) (h1 : ∀ q, q < m → v = nI q → post 1 (g_place, g_culprit, g_listed, g_units, g_taken, nI m, g_depth, g_waiting, g_held, g_fault, g_steps, g_result, g_given, g_gift, g_has, b_kind, b_value, b_size, b_list, b_library, b_places, upd b_memory q w, b_wanted, b_pc, b_base, b_locals, b_waits, b_got, b_values)) (h0 : (v < 0 ∨ nI m ≤ v) → post 0 (g_place, g_culprit, g_listed, g_units, g_taken, nI m, g_depth, g_waiting, g_held, g_fault, g_steps, g_result, g_given, g_gift, g_has, b_kind, b_value, b_size, b_list, b_library, b_places, b_memory, b_wanted, b_pc, b_base, b_locals, b_waits, b_got, b_values)) : wpY_poke post (g_place, g_culprit, g_listed, g_units, g_taken, nI m, g_depth, g_waiting, g_held, g_fault, g_steps, g_result, g_given, g_gift, g_has, b_kind, b_value, b_size, b_list, b_library, b_places, b_memory, b_wanted, b_pc, b_base, b_locals, b_waits, b_got, b_values) v w := by
  unfold wpY_poke
  exact y_outs (m := m) (by omega) (fun q hq e => br_t rfl ⟨pk_in q 48 (by omega) e, nm_r (e' := upd b_memory q w) (by rw [ba_cl e (by omega)]) (h1 q hq e)⟩) (fun z => br_f (by decide) (h0 z))
end
theorem ix_no {v : Int32} {m q : Nat} (hm : m < 2 ^ 31) (hq : q < m) (e : v = nI q) (z : v < 0 ∨ nI m ≤ v) : False := by
  rw [e] at z
  rcases z with z | z
  · exact nI_pos (by omega) z
  · exact nI_ge hq hm z
theorem i_vc_at {k : Nat} {u : SX} {v : SY} (I : i_Rel k u v) (hk : k + 5 ≤ 2560) (v1 : Int32) : wpX_at (fun r => wpY_at (fun r' => r' = r ∧ i_Rel (k + 5) u v) v v1) u v1 := by
  obtain ⟨f_draftCount, f_openCount, f_operandsDue, f_faultPlace, f_listCount, f_takenCount, f_culpritName, f_memorySize, f_operandCount, f_pendingCount, f_frameCount, f_next, f_outcome, f_lastResult, f_stepCount, a_draftKind, a_draftValue, a_draftPartner, a_openBlock, a_unitKind, a_unitValue, a_unitPartner, a_unitLength, a_listedUnit, a_listedAsLibrary, a_takenUnit, a_definition, a_isDuplicate, a_isWanted, a_codeKind, a_codeValue, a_codePartner, a_functionOf, a_placeOf, a_memory, a_operands, a_pendingToken, a_pendingDue, a_locals, a_returnTo⟩ := u
  obtain ⟨g_place, g_culprit, g_listed, g_units, g_taken, g_used, g_depth, g_waiting, g_held, g_fault, g_steps, g_result, g_given, g_gift, g_has, b_kind, b_value, b_size, b_list, b_library, b_places, b_memory, b_wanted, b_pc, b_base, b_locals, b_waits, b_got, b_values⟩ := v
  have I' := i_el I
  obtain ⟨_, _, _, _, ⟨n, m, tk, ln, D, B, pr, ⟨_, _, _, _, _, _, h7, _⟩, _⟩, _⟩ := I'
  refine x_at (fun q hq e => y_at (fun q' hq' e' => ⟨?_, I⟩) (fun z => absurd (ix_no (by omega) hq e z) id)) (fun z => y_at (fun q hq e => absurd (ix_no (by omega) hq e z) id) (fun _ => ⟨rfl, I⟩))
  have := ba_inj (by omega) (by omega) (e.symm.trans e')
  subst this
  exact (h7 q hq).symm
theorem i_vc_peek {k : Nat} {u : SX} {v : SY} (I : i_Rel k u v) (hk : k + 5 ≤ 2560) (v1 : Int32) : wpX_peek (fun r => wpY_peek (fun r' => r' = r ∧ i_Rel (k + 5) u v) v v1) u v1 := by
  obtain ⟨f_draftCount, f_openCount, f_operandsDue, f_faultPlace, f_listCount, f_takenCount, f_culpritName, f_memorySize, f_operandCount, f_pendingCount, f_frameCount, f_next, f_outcome, f_lastResult, f_stepCount, a_draftKind, a_draftValue, a_draftPartner, a_openBlock, a_unitKind, a_unitValue, a_unitPartner, a_unitLength, a_listedUnit, a_listedAsLibrary, a_takenUnit, a_definition, a_isDuplicate, a_isWanted, a_codeKind, a_codeValue, a_codePartner, a_functionOf, a_placeOf, a_memory, a_operands, a_pendingToken, a_pendingDue, a_locals, a_returnTo⟩ := u
  obtain ⟨g_place, g_culprit, g_listed, g_units, g_taken, g_used, g_depth, g_waiting, g_held, g_fault, g_steps, g_result, g_given, g_gift, g_has, b_kind, b_value, b_size, b_list, b_library, b_places, b_memory, b_wanted, b_pc, b_base, b_locals, b_waits, b_got, b_values⟩ := v
  have I' := i_el I
  obtain ⟨_, _, _, _, ⟨n, m, tk, ln, D, B, pr, ⟨_, h2, _, h4, h5, _⟩, hm⟩, _⟩ := I'
  have h4' : g_used = nI m := h4
  have h5' : f_memorySize = nI m := h5
  subst h4' h5'
  refine x_peek h2 (fun q hq e => y_peek h2 (fun q' hq' e' => ⟨?_, I⟩) (fun z => absurd (ix_no (by omega) hq e z) id)) (fun z => y_peek h2 (fun q hq e => absurd (ix_no (by omega) hq e z) id) (fun _ => ⟨rfl, I⟩))
  have := ba_inj (by omega) (by omega) (e.symm.trans e')
  subst this
  exact (hm q hq).symm
theorem i_vc_poke {k : Nat} {u : SX} {v : SY} (I : i_Rel k u v) (hk : k + 5 ≤ 2560) (v1 : Int32) (v2 : Int32) : wpX_poke (fun r u' => wpY_poke (fun r' v' => r' = r ∧ i_Rel (k + 5) u' v') v v1 v2) u v1 v2 := by
  obtain ⟨f_draftCount, f_openCount, f_operandsDue, f_faultPlace, f_listCount, f_takenCount, f_culpritName, f_memorySize, f_operandCount, f_pendingCount, f_frameCount, f_next, f_outcome, f_lastResult, f_stepCount, a_draftKind, a_draftValue, a_draftPartner, a_openBlock, a_unitKind, a_unitValue, a_unitPartner, a_unitLength, a_listedUnit, a_listedAsLibrary, a_takenUnit, a_definition, a_isDuplicate, a_isWanted, a_codeKind, a_codeValue, a_codePartner, a_functionOf, a_placeOf, a_memory, a_operands, a_pendingToken, a_pendingDue, a_locals, a_returnTo⟩ := u
  obtain ⟨g_place, g_culprit, g_listed, g_units, g_taken, g_used, g_depth, g_waiting, g_held, g_fault, g_steps, g_result, g_given, g_gift, g_has, b_kind, b_value, b_size, b_list, b_library, b_places, b_memory, b_wanted, b_pc, b_base, b_locals, b_waits, b_got, b_values⟩ := v
  have I' := i_el I
  obtain ⟨i1, i2, i3, i4, ⟨n, m, tk, ln, D, B, pr, hR, hm⟩, i6⟩ := I'
  have hR' := hR
  obtain ⟨_, h2, _, h4, h5, _⟩ := hR'
  have h4' : g_used = nI m := h4
  have h5' : f_memorySize = nI m := h5
  subst h4' h5'
  refine x_poke h2 (fun q hq e => y_poke h2 (fun q' hq' e' => ?_) (fun z => absurd (ix_no (by omega) hq e z) id)) (fun z => y_poke h2 (fun q hq e => absurd (ix_no (by omega) hq e z) id) (fun _ => ⟨rfl, I⟩))
  have := ba_inj (by omega) (by omega) (e.symm.trans e')
  subst this
  refine ⟨rfl, i_mk ⟨i1, i2, i3, i4, ⟨n, m, tk, ln, D, B, pr, pR_ext (xMS_e.trans xMS_e.symm) (xCK_e.trans xCK_e.symm) (xCV_e.trans xCV_e.symm) (xCP_e.trans xCP_e.symm) (xFO_e.trans xFO_e.symm) (xPO_e.trans xPO_e.symm) (yUN_e.trans yUN_e.symm) (yUS_e.trans yUS_e.symm) (yPL_e.trans yPL_e.symm) (fun j _ => ⟨congrFun (yK_e.trans yK_e.symm) j, congrFun (yV_e.trans yV_e.symm) j⟩) (fun j _ => congrFun (yS_e.trans yS_e.symm) j) hR, fun i hi => ?_⟩, i6⟩⟩
  by_cases z : i = q
  · rw [z, pk_us, pk_us]
  · rw [pk_un z, pk_un z]; exact hm i hi
end
section
/-! token, listing, parameters -/
theorem tkP_a {c : Nat} {v : Int32} (hc : c = 1 ∨ c = 20) : tk_P c v ↔ ∃ m : Nat, m < 6 ∧ v = nI m :=
  ⟨fun h => h.2.2.1 hc, fun h => ⟨by omega, by omega, fun _ => h, by omega, by omega, by omega, by omega⟩⟩
theorem tkP_b {c : Nat} {v : Int32} (hc : c = 2 ∨ c = 3) : tk_P c v ↔ ∃ m : Nat, m < 12 ∧ v = nI m :=
  ⟨fun h => h.2.2.2.1 hc, fun h => ⟨by omega, by omega, by omega, fun _ => h, by omega, by omega, by omega⟩⟩
theorem tkP_5 {v : Int32} : tk_P 5 v ↔ ∃ m : Nat, m < 64 ∧ m % 16 < 12 ∧ v = nI m :=
  ⟨fun h => h.2.2.2.2.1 rfl, fun h => ⟨by omega, by omega, by omega, by omega, fun _ => h, by omega, by omega⟩⟩
theorem tkP_28 {v : Int32} : tk_P 28 v ↔ ∃ m : Nat, m < 128 ∧ m % 16 < 12 ∧ v = nI m :=
  ⟨fun h => h.2.2.2.2.2.1 rfl, fun h => ⟨by omega, by omega, by omega, by omega, by omega, fun _ => h, by omega⟩⟩
theorem tkP_29 {v : Int32} : tk_P 29 v ↔ ∃ m : Nat, m < 256 ∧ m % 16 < 12 ∧ v = nI m :=
  ⟨fun h => h.2.2.2.2.2.2 rfl, fun h => ⟨by omega, by omega, by omega, by omega, by omega, by omega, fun _ => h⟩⟩
theorem tkP_o {c : Nat} {v : Int32} (h1 : c ≤ 29) (h2 : c ≠ 19) (h3 : c ≠ 1) (h4 : c ≠ 20) (h5 : c ≠ 2) (h6 : c ≠ 3) (h7 : c ≠ 5) (h8 : c ≠ 28) (h9 : c ≠ 29) : tk_P c v := ⟨h1, h2, by omega, by omega, by omega, by omega, by omega⟩
theorem x_rng {post : Int32 → Prop} {v : Int32} {N : Nat} (hN : N < 2 ^ 31) (h1 : (∃ m, m < N ∧ v = nI m) → post 1) (h0 : ¬ (∃ m, m < N ∧ v = nI m) → post 0) : ((v < 0 → post 0) ∧ (¬ v < 0 → ((nI N ≤ v → post 0) ∧ (¬ nI N ≤ v → post 1)))) := by
  rcases pk_ix v (n := N) hN with z | z | ⟨q, hq, e⟩
  · exact br_t z (h0 (fun ⟨m, a, b⟩ => ix_no hN a b (Or.inl z)))
  · exact br_c (fun _ => h0 (fun ⟨m, a, b⟩ => ix_no hN a b (Or.inr z))) (fun _ => br_t z (h0 (fun ⟨m, a, b⟩ => ix_no hN a b (Or.inr z))))
  · exact br_f (by rw [e]; exact nI_pos (by omega)) (br_f (by rw [e]; exact nI_ge hq hN) (h1 ⟨q, hq, e⟩))
theorem x_nmd {post : Int32 → Prop} {v : Int32} {N : Nat} (hN : N < 2 ^ 31) (h1 : (∃ m, m < N ∧ m % 16 < 12 ∧ v = nI m) → post 1) (h0 : ¬ (∃ m, m < N ∧ m % 16 < 12 ∧ v = nI m) → post 0) : ((v < 0 → post 0) ∧ (¬ v < 0 → ((nI N ≤ v → post 0) ∧ (¬ nI N ≤ v → ((12 ≤ v &&& 15 → post 0) ∧ (¬ 12 ≤ v &&& 15 → post 1)))))) := by
  rcases pk_ix v (n := N) hN with z | z | ⟨q, hq, e⟩
  · exact br_t z (h0 (fun ⟨m, a, _, b⟩ => ix_no hN a b (Or.inl z)))
  · exact br_c (fun _ => h0 (fun ⟨m, a, _, b⟩ => ix_no hN a b (Or.inr z))) (fun _ => br_t z (h0 (fun ⟨m, a, _, b⟩ => ix_no hN a b (Or.inr z))))
  · subst e
    refine br_f (nI_pos (by omega)) (br_f (nI_ge hq hN) ?_)
    rw [ba_and15 (by omega)]
    refine pk_le 12 (q % 16) (fun z => h0 (fun ⟨m, a, b, c⟩ => ?_)) (fun z => h1 ⟨q, hq, z, rfl⟩)
    have := ba_inj (by omega) (by omega) c
    subst this
    omega
theorem x_kind {post : Int32 → Prop} {v : Int32} (h1 : ∀ c, v = nI c → c ≤ 29 → c ≠ 19 → post 1) (h0 : (∀ c, v = nI c → ¬ (c ≤ 29 ∧ c ≠ 19)) → post 0) : wpX_isKind post v := by
  by_cases z : v < 0
  · refine br_t z (br_t (Int32.lt_trans z (by decide)) (h0 (fun c e q => ?_)))
    rw [e] at z
    exact nI_pos (by omega) z
  · obtain ⟨c, hc, e⟩ := nI_of z
    subst e
    have hno : ¬ (c ≤ 29 ∧ c ≠ 19) → post 0 := fun q => h0 (fun c' e' q' => by
      have := ba_inj hc (by omega) e'
      subst this
      exact q q')
    exact br_f z (pk_le c 18 (fun y => h1 c rfl (by omega) (by omega)) (fun y => pk_lt c 20 (fun y2 => hno (by omega)) (fun y2 => pk_lt 29 c (fun y3 => hno (by omega)) (fun y3 => h1 c rfl (by omega) (by omega)))))
theorem x_val {post : Int32 → Prop} {c : Nat} {v : Int32} (hc : c ≤ 29) (hc2 : c ≠ 19) (h1 : tk_P c v → post 1) (h0 : ¬ tk_P c v → post 0) : wpX_isValueFor post (nI c) v := by
  have h68 : (c = 1 ∨ c = 20) → wX_isValueFor_68 post v := fun z => x_rng (N := 6) (by omega) (fun q => h1 ((tkP_a z).mpr q)) (fun q => h0 (fun y => q ((tkP_a z).mp y)))
  have h84 : (c = 2 ∨ c = 3) → wX_isValueFor_84 post v := fun z => x_name (fun q hq e => ⟨rfl, h1 ((tkP_b z).mpr ⟨q, hq, e⟩)⟩) (fun y => ⟨rfl, h0 (fun w => by obtain ⟨m, a, b⟩ := (tkP_b z).mp w; exact ix_no (by omega) a b y)⟩)
  refine pk_eq c 1 (fun z => h68 (Or.inl z)) (fun z1 => pk_eq c 2 (fun z => h84 (Or.inl z)) (fun z2 => pk_eq c 3 (fun z => h84 (Or.inr z)) (fun z3 => pk_eq c 5 (fun z => ?_) (fun z5 => pk_eq c 20 (fun z => h68 (Or.inr z)) (fun z20 => pk_eq c 28 (fun z => ?_) (fun z28 => pk_eq c 29 (fun z => ?_) (fun z29 => h1 (tkP_o hc hc2 z1 z20 z2 z3 z5 z28 z29))))))))
  · subst z
    exact x_nmd (N := 64) (by omega) (fun q => h1 (tkP_5.mpr q)) (fun q => h0 (fun y => q (tkP_5.mp y)))
  · subst z
    exact x_nmd (N := 128) (by omega) (fun q => h1 (tkP_28.mpr q)) (fun q => h0 (fun y => q (tkP_28.mp y)))
  · subst z
    exact x_nmd (N := 256) (by omega) (fun q => h1 (tkP_29.mpr q)) (fun q => h0 (fun y => q (tkP_29.mp y)))
theorem y_nmd {post : Int32 → Prop} {v : Int32} {N : Nat} (hN : N < 2 ^ 31) (h1 : (∃ m, m < N ∧ m % 16 < 12 ∧ v = nI m) → post 1) (h0 : ¬ (∃ m, m < N ∧ m % 16 < 12 ∧ v = nI m) → post 0) : wpY_named post v (nI N) := x_nmd hN h1 h0
/-- what token takes -/
def tk_ok (c : Nat) (v1 v2 : Int32) : Prop := c < 50 ∧ ∃ q, v1 = nI q ∧ tk_P q v2
section
variable {f_draftCount f_openCount f_operandsDue f_faultPlace f_listCount f_takenCount f_culpritName f_memorySize f_operandCount f_pendingCount f_frameCount f_next f_outcome f_lastResult f_stepCount : Int32} {a_draftKind a_draftValue a_draftPartner a_openBlock a_unitKind a_unitValue a_unitPartner a_unitLength a_listedUnit a_listedAsLibrary a_takenUnit a_definition a_isDuplicate a_isWanted a_codeKind a_codeValue a_codePartner a_functionOf a_placeOf a_memory a_operands a_pendingToken a_pendingDue a_locals a_returnTo : Nat → Int32}
theorem x_token {post : Int32 → SX → Prop} {c : Nat} {v1 v2 : Int32} (hc : c ≤ 50) (h1 : tk_ok c v1 v2 → post 1 (nI (c + 1), f_openCount, f_operandsDue, f_faultPlace, f_listCount, f_takenCount, f_culpritName, f_memorySize, f_operandCount, f_pendingCount, f_frameCount, f_next, f_outcome, f_lastResult, f_stepCount, upd a_draftKind c v1, upd a_draftValue c v2, a_draftPartner, a_openBlock, a_unitKind, a_unitValue, a_unitPartner, a_unitLength, a_listedUnit, a_listedAsLibrary, a_takenUnit, a_definition, a_isDuplicate, a_isWanted, a_codeKind, a_codeValue, a_codePartner, a_functionOf, a_placeOf, a_memory, a_operands, a_pendingToken, a_pendingDue, a_locals, a_returnTo)) (h0 : ¬ tk_ok c v1 v2 → post 0 (nI c, f_openCount, f_operandsDue, f_faultPlace, f_listCount, f_takenCount, f_culpritName, f_memorySize, f_operandCount, f_pendingCount, f_frameCount, f_next, f_outcome, f_lastResult, f_stepCount, a_draftKind, a_draftValue, a_draftPartner, a_openBlock, a_unitKind, a_unitValue, a_unitPartner, a_unitLength, a_listedUnit, a_listedAsLibrary, a_takenUnit, a_definition, a_isDuplicate, a_isWanted, a_codeKind, a_codeValue, a_codePartner, a_functionOf, a_placeOf, a_memory, a_operands, a_pendingToken, a_pendingDue, a_locals, a_returnTo)) : wpX_token post (nI c, f_openCount, f_operandsDue, f_faultPlace, f_listCount, f_takenCount, f_culpritName, f_memorySize, f_operandCount, f_pendingCount, f_frameCount, f_next, f_outcome, f_lastResult, f_stepCount, a_draftKind, a_draftValue, a_draftPartner, a_openBlock, a_unitKind, a_unitValue, a_unitPartner, a_unitLength, a_listedUnit, a_listedAsLibrary, a_takenUnit, a_definition, a_isDuplicate, a_isWanted, a_codeKind, a_codeValue, a_codePartner, a_functionOf, a_placeOf, a_memory, a_operands, a_pendingToken, a_pendingDue, a_locals, a_returnTo) v1 v2 := by
  unfold wpX_token
  refine pk_le 50 c (fun z => h0 (fun q => by have := q.1; omega)) (fun z => ?_)
  refine x_kind (fun q e q1 q2 => br_f (by decide) ?_) (fun y => br_t rfl (h0 (fun ⟨_, q, e, p⟩ => y q e ⟨p.1, p.2.1⟩)))
  have hin : vp_in (nI c) 50 := pk_in c 50 z
  have ec : (nI c).toNatClampNeg = c := nI_clamp (by omega)
  have key : wpX_isValueFor (fun r_4 => (r_4 = 0 → post 0 (nI c, f_openCount, f_operandsDue, f_faultPlace, f_listCount, f_takenCount, f_culpritName, f_memorySize, f_operandCount, f_pendingCount, f_frameCount, f_next, f_outcome, f_lastResult, f_stepCount, a_draftKind, a_draftValue, a_draftPartner, a_openBlock, a_unitKind, a_unitValue, a_unitPartner, a_unitLength, a_listedUnit, a_listedAsLibrary, a_takenUnit, a_definition, a_isDuplicate, a_isWanted, a_codeKind, a_codeValue, a_codePartner, a_functionOf, a_placeOf, a_memory, a_operands, a_pendingToken, a_pendingDue, a_locals, a_returnTo)) ∧ (¬ r_4 = 0 → (vp_in (nI c) 50 ∧ ∀ a_7 : Nat → Int32, a_7 = upd a_draftKind (nI c).toNatClampNeg v1 → (vp_in (nI c) 50 ∧ ∀ a_9 : Nat → Int32, a_9 = upd a_draftValue (nI c).toNatClampNeg v2 → ∀ f_10 : Int32, f_10 = nI c + 1 → post 1 (f_10, f_openCount, f_operandsDue, f_faultPlace, f_listCount, f_takenCount, f_culpritName, f_memorySize, f_operandCount, f_pendingCount, f_frameCount, f_next, f_outcome, f_lastResult, f_stepCount, a_7, a_9, a_draftPartner, a_openBlock, a_unitKind, a_unitValue, a_unitPartner, a_unitLength, a_listedUnit, a_listedAsLibrary, a_takenUnit, a_definition, a_isDuplicate, a_isWanted, a_codeKind, a_codeValue, a_codePartner, a_functionOf, a_placeOf, a_memory, a_operands, a_pendingToken, a_pendingDue, a_locals, a_returnTo))))) (nI q) v2 := by
    refine x_val q1 q2 (fun p => br_f (by decide) ⟨hin, nm_r (by rw [ec]) ⟨hin, nm_r (by rw [ec]) (nm_r (nI_1 c) (h1 ⟨z, q, e, p⟩))⟩⟩) (fun p => br_t rfl (h0 (fun ⟨_, q', e', p'⟩ => ?_)))
    have := ba_inj (by omega) (by have := p'.1; omega) (e.symm.trans e')
    subst this
    exact p p'
  rw [← e] at key
  exact key
end
section
variable {g_place g_culprit g_listed g_units g_taken g_used g_depth g_waiting g_held g_fault g_steps g_result g_given g_gift g_has : Int32} {b_kind b_value b_size b_list b_library b_places b_memory b_wanted b_pc b_base b_locals b_waits b_got b_values : Nat → Int32}
theorem y_token {post : Int32 → SY → Prop} {c : Nat} {v1 v2 : Int32} (hc : c ≤ 50) (hs : b_size 5 = nI c) (h1 : tk_ok c v1 v2 → post 1 (g_place, g_culprit, g_listed, g_units, g_taken, g_used, g_depth, g_waiting, g_held, g_fault, g_steps, g_result, g_given, g_gift, g_has, upd b_kind (250 + c) v1, upd b_value (250 + c) v2, upd b_size 5 (nI (c + 1)), b_list, b_library, b_places, b_memory, b_wanted, b_pc, b_base, b_locals, b_waits, b_got, b_values)) (h0 : ¬ tk_ok c v1 v2 → post 0 (g_place, g_culprit, g_listed, g_units, g_taken, g_used, g_depth, g_waiting, g_held, g_fault, g_steps, g_result, g_given, g_gift, g_has, b_kind, b_value, b_size, b_list, b_library, b_places, b_memory, b_wanted, b_pc, b_base, b_locals, b_waits, b_got, b_values)) : wpY_token post (g_place, g_culprit, g_listed, g_units, g_taken, g_used, g_depth, g_waiting, g_held, g_fault, g_steps, g_result, g_given, g_gift, g_has, b_kind, b_value, b_size, b_list, b_library, b_places, b_memory, b_wanted, b_pc, b_base, b_locals, b_waits, b_got, b_values) v1 v2 := by
  by_cases z : v1 < 0
  · refine br_t z (h0 (fun ⟨_, q, e, p⟩ => ?_))
    have := p.1
    rw [e] at z
    exact nI_pos (by omega) z
  · obtain ⟨q, hq, e⟩ := nI_of z
    subst e
    have hno : ¬ tk_P q v2 → post 0 (g_place, g_culprit, g_listed, g_units, g_taken, g_used, g_depth, g_waiting, g_held, g_fault, g_steps, g_result, g_given, g_gift, g_has, b_kind, b_value, b_size, b_list, b_library, b_places, b_memory, b_wanted, b_pc, b_base, b_locals, b_waits, b_got, b_values) := fun y => h0 (fun ⟨_, q', e', p'⟩ => by
      have := ba_inj hq (by have := p'.1; omega) e'
      subst this
      exact y p')
    refine br_f z (pk_lt 29 q (fun y => hno (fun p => by have := p.1; omega)) (fun y => pk_eq q 19 (fun y2 => hno (fun p => absurd y2 p.2.1)) (fun y2 => ?_)))
    rw [hs]
    refine pk_eq c 50 (fun y3 => h0 (fun w => by have := w.1; omega)) (fun y3 => ?_)
    have e1 : (250 : Int32) + b_size 5 = nI (250 + c) := by rw [hs]; exact nI_add 250 c
    have ec : ((250 : Int32) + b_size 5).toNatClampNeg = 250 + c := by rw [e1, nI_clamp (by omega)]
    have h118 : tk_P q v2 → wY_token_118 post (nI q) v2 g_place g_culprit g_listed g_units g_taken g_used g_depth g_waiting g_held g_fault g_steps g_result g_given g_gift g_has b_kind b_value b_size b_list b_library b_places b_memory b_wanted b_pc b_base b_locals b_waits b_got b_values := by
      intro p
      refine ⟨pk_in (250 + c) 800 (by omega) e1, nm_r (e' := upd b_kind (250 + c) (nI q)) (by rw [ec, ba_nbb (by omega)]) (nm_r (e' := upd b_size 5 (nI (c + 1))) (by rw [hs, nI_1, ba_nbb (by omega)]) ⟨pk_in (250 + c) 800 (by omega) e1, nm_r (e' := upd b_value (250 + c) v2) (by rw [ec]) (h1 ⟨by omega, q, rfl, p⟩)⟩)⟩
    have h100 : q ≠ 1 → q ≠ 20 → q ≠ 2 → q ≠ 3 → q ≠ 5 → q ≠ 28 → wY_token_100 post (nI q) v2 g_place g_culprit g_listed g_units g_taken g_used g_depth g_waiting g_held g_fault g_steps g_result g_given g_gift g_has b_kind b_value b_size b_list b_library b_places b_memory b_wanted b_pc b_base b_locals b_waits b_got b_values := by
      intro a1 a2 a3 a4 a5 a6
      refine pk_eq q 29 (fun w => ?_) (fun w => h118 (tkP_o y y2 a1 a2 a3 a4 a5 a6 w))
      subst w
      exact y_nmd (N := 256) (by omega) (fun p => br_f (by decide) (h118 (tkP_29.mpr p))) (fun p => br_t rfl (hno (fun w => p (tkP_29.mp w))))
    have h84 : q ≠ 1 → q ≠ 20 → q ≠ 2 → q ≠ 3 → q ≠ 5 → wY_token_84 post (nI q) v2 g_place g_culprit g_listed g_units g_taken g_used g_depth g_waiting g_held g_fault g_steps g_result g_given g_gift g_has b_kind b_value b_size b_list b_library b_places b_memory b_wanted b_pc b_base b_locals b_waits b_got b_values := by
      intro a1 a2 a3 a4 a5
      refine pk_eq q 28 (fun w => ?_) (fun w => h100 a1 a2 a3 a4 a5 w)
      subst w
      exact y_nmd (N := 128) (by omega) (fun p => br_f (by decide) (br_f (by decide) (h118 (tkP_28.mpr p)))) (fun p => br_t rfl (hno (fun w => p (tkP_28.mp w))))
    have skip : q ≠ 5 → q ≠ 28 → q ≠ 29 → tk_P q v2 → wY_token_70 post (nI q) v2 g_place g_culprit g_listed g_units g_taken g_used g_depth g_waiting g_held g_fault g_steps g_result g_given g_gift g_has b_kind b_value b_size b_list b_library b_places b_memory b_wanted b_pc b_base b_locals b_waits b_got b_values := fun a1 a2 a3 p => br_f (ba_ne (b := 5) (by omega) (by omega) a1) (br_f (ba_ne (b := 28) (by omega) (by omega) a2) (br_f (ba_ne (b := 29) (by omega) (by omega) a3) (h118 p)))
    have h49 : q ≠ 1 → q ≠ 20 → wY_token_49 post (nI q) v2 g_place g_culprit g_listed g_units g_taken g_used g_depth g_waiting g_held g_fault g_steps g_result g_given g_gift g_has b_kind b_value b_size b_list b_library b_places b_memory b_wanted b_pc b_base b_locals b_waits b_got b_values := by
      intro a1 a2
      have h59 : (q = 2 ∨ q = 3) → wY_token_59 post (nI q) v2 g_place g_culprit g_listed g_units g_taken g_used g_depth g_waiting g_held g_fault g_steps g_result g_given g_gift g_has b_kind b_value b_size b_list b_library b_places b_memory b_wanted b_pc b_base b_locals b_waits b_got b_values := fun w => y_outs (m := 12) (by omega) (fun r hr e => br_t rfl (skip (by omega) (by omega) (by omega) ((tkP_b w).mpr ⟨r, hr, e⟩))) (fun x => br_f (by decide) (hno (fun p => by obtain ⟨r, hr, e⟩ := (tkP_b w).mp p; exact ix_no (by omega) hr e x)))
      refine pk_eq q 2 (fun w => h59 (Or.inl w)) (fun w2 => pk_eq q 3 (fun w => h59 (Or.inr w)) (fun w3 => pk_eq q 5 (fun w => ?_) (fun w => h84 a1 a2 w2 w3 w)))
      subst w
      exact y_nmd (N := 64) (by omega) (fun p => br_f (by decide) (br_f (by decide) (br_f (by decide) (h118 (tkP_5.mpr p))))) (fun p => br_t rfl (hno (fun w => p (tkP_5.mp w))))
    have h40 : (q = 1 ∨ q = 20) → wY_token_40 post (nI q) v2 g_place g_culprit g_listed g_units g_taken g_used g_depth g_waiting g_held g_fault g_steps g_result g_given g_gift g_has b_kind b_value b_size b_list b_library b_places b_memory b_wanted b_pc b_base b_locals b_waits b_got b_values := fun w => y_outs (m := 6) (by omega) (fun r hr e => br_t rfl (br_f (ba_ne (b := 2) (by omega) (by omega) (by omega)) (br_f (ba_ne (b := 3) (by omega) (by omega) (by omega)) (skip (by omega) (by omega) (by omega) ((tkP_a w).mpr ⟨r, hr, e⟩))))) (fun x => br_f (by decide) (hno (fun p => by obtain ⟨r, hr, e⟩ := (tkP_a w).mp p; exact ix_no (by omega) hr e x)))
    exact pk_eq q 1 (fun w => h40 (Or.inl w)) (fun w1 => pk_eq q 20 (fun w => h40 (Or.inr w)) (fun w2 => h49 w1 w2))
end
end
section
/-! token, listing, parameters: the owed rows -/
theorem wf_U_ext {K N K' N' : Nat → Nat} {c : Nat} {P P' : Nat → Int32} {b : Nat} (h : wf_U K N c P b) (he : ∀ i, i < c → K' i = K i ∧ N' i = N i ∧ P' i = P i) : wf_U K' N' c P' b := by
  obtain ⟨D, B, pr, ⟨s1, s2, s3, s4⟩, j1, j2⟩ := h
  refine ⟨D, B, pr, ⟨s1, fun p hp => ?_, fun p hp => ?_, fun p hp => ?_⟩, fun o ho hb hk => ?_, fun e hee hb hk => ?_⟩
  · rw [(he p hp).1]; exact s2 p hp
  · rw [(he p hp).1]; exact s3 p hp
  · rw [(he p hp).1, (he p hp).2.1]; exact s4 p hp
  · rw [(he o ho).1] at hk
    obtain ⟨a1, a2, a3, a4, a5, a6, a7⟩ := j1 o ho hb hk
    rw [(he o ho).1, (he o ho).2.2, (he _ a2).1]
    exact ⟨a1, a2, a3, a4, a5, a6, fun q1 q q2 q3 q4 => a7 q1 q q2 q3 (by rw [← (he q (by omega)).1]; exact q4)⟩
  · rw [(he e hee).1] at hk
    obtain ⟨f, a1, a2, a3, a4, a5, a6, a7, a8⟩ := j2 e hee hb hk
    refine ⟨f, a1, a2, ?_, ?_, ?_, ?_, a7, a8⟩
    · rw [(he e hee).2.2]; exact a3
    · rw [(he (pr e) (by omega)).1]; exact a4
    · rw [(he (pr e) (by omega)).1, (he f (by omega)).1]; exact a5
    · rw [(he (pr e) (by omega)).1]; exact a6
theorem rl_row_ext {xk xv xp yk yv xk' xv' xp' yk' yv' : Nat → Int32} {xb yb yb' c : Nat} (h : rl_row xk xv xp xb yk yv yb c) (hx : ∀ i, i < c → xk' (xb + i) = xk (xb + i) ∧ xv' (xb + i) = xv (xb + i) ∧ xp' (xb + i) = xp (xb + i)) (hy : ∀ i, i < c → yk' (yb' + i) = yk (yb + i) ∧ yv' (yb' + i) = yv (yb + i)) : rl_row xk' xv' xp' xb yk' yv' yb' c := by
  obtain ⟨h1, h2, h3, h4, h5⟩ := h
  have ek : ∀ i, i < c → kn yk' (yb' + i) = kn yk (yb + i) := fun i hi => congrArg Int32.toNatClampNeg (hy i hi).1
  have ev : ∀ i, i < c → kn yv' (yb' + i) = kn yv (yb + i) := fun i hi => congrArg Int32.toNatClampNeg (hy i hi).2
  refine ⟨h1, fun i hi => ?_, wf_U_ext h3 (fun i hi => ⟨ek i hi, by rw [ek i hi, ev i hi], (hx i hi).2.2⟩), fun i j a b => ?_, fun i hi => ?_⟩
  · obtain ⟨a, b, d, e⟩ := h2 i hi
    rw [(hx i hi).1, (hx i hi).2.1, (hy i hi).1, (hy i hi).2, ek i hi]
    exact ⟨a, b, d, e⟩
  · rw [ek i (by omega), ek j b, ev i (by omega), ev j b]; exact h4 i j a b
  · rw [ek i hi]; exact h5 i hi
theorem i_vc_token {k : Nat} {u : SX} {v : SY} (I : i_Rel k u v) (hk : k + 5 ≤ 2560) (v1 : Int32) (v2 : Int32) : wpX_token (fun r u' => wpY_token (fun r' v' => r' = r ∧ i_Rel (k + 5) u' v') v v1 v2) u v1 v2 := by
  obtain ⟨f_draftCount, f_openCount, f_operandsDue, f_faultPlace, f_listCount, f_takenCount, f_culpritName, f_memorySize, f_operandCount, f_pendingCount, f_frameCount, f_next, f_outcome, f_lastResult, f_stepCount, a_draftKind, a_draftValue, a_draftPartner, a_openBlock, a_unitKind, a_unitValue, a_unitPartner, a_unitLength, a_listedUnit, a_listedAsLibrary, a_takenUnit, a_definition, a_isDuplicate, a_isWanted, a_codeKind, a_codeValue, a_codePartner, a_functionOf, a_placeOf, a_memory, a_operands, a_pendingToken, a_pendingDue, a_locals, a_returnTo⟩ := u
  obtain ⟨g_place, g_culprit, g_listed, g_units, g_taken, g_used, g_depth, g_waiting, g_held, g_fault, g_steps, g_result, g_given, g_gift, g_has, b_kind, b_value, b_size, b_list, b_library, b_places, b_memory, b_wanted, b_pc, b_base, b_locals, b_waits, b_got, b_values⟩ := v
  have I' := i_el I
  obtain ⟨⟨c, c1, c2, c3, c4⟩, i2, i3, i4, ⟨n, m, tk, ln, D, B, pr, hR, hm⟩, i6⟩ := I'
  subst c2
  refine x_token c1 (fun h => y_token c1 c3 (fun _ => ?_) (fun z => absurd h z)) (fun h => y_token c1 c3 (fun z => absurd z h) (fun _ => ⟨rfl, I⟩))
  obtain ⟨hc, q, e, hp⟩ := h
  have h9 := hp.1
  refine ⟨rfl, i_mk ⟨⟨c + 1, by omega, rfl, pk_us, fun i hi => ?_⟩, fun u hu => ?_, i3, ⟨fun j hj => ?_, fun r hr => ?_⟩, ⟨n, m, tk, ln, D, B, pr, pR_ext (xMS_e.trans xMS_e.symm) (xCK_e.trans xCK_e.symm) (xCV_e.trans xCV_e.symm) (xCP_e.trans xCP_e.symm) (xFO_e.trans xFO_e.symm) (xPO_e.trans xPO_e.symm) (yUN_e.trans yUN_e.symm) (yUS_e.trans yUS_e.symm) (yPL_e.trans yPL_e.symm) (fun j hj => ⟨?_, ?_⟩) (fun r hr => ?_) hR, hm⟩, i6⟩⟩
  · by_cases z : i = c
    · subst z
      have ek : kn (upd b_kind (250 + i) v1) (250 + i) = q := by
        show (upd b_kind (250 + i) v1 (250 + i)).toNatClampNeg = q
        rw [pk_us, e, nI_clamp (by omega)]
      rw [ek, pk_us, pk_us, pk_us, pk_us]
      exact ⟨rfl, rfl, e, hp⟩
    · have ek : kn (upd b_kind (250 + c) v1) (250 + i) = kn b_kind (250 + i) := congrArg Int32.toNatClampNeg (pk_un (by omega))
      rw [ek, pk_un z, pk_un z, pk_un (by omega), pk_un (by omega)]
      exact c4 i hi
  · obtain ⟨cu, a, b, d⟩ := i2 u hu
    refine ⟨cu, a, by rw [pk_un (by omega)]; exact b, rl_row_ext d (fun i hi => ⟨rfl, rfl, rfl⟩) (fun i hi => ?_)⟩
    have := d.1
    exact ⟨pk_un (by omega), pk_un (by omega)⟩
  · by_cases z : j = 250 + c
    · rw [z, pk_us]; exact ⟨q, h9, e⟩
    · rw [pk_un z]; exact i4.1 j hj
  · by_cases z : r = 5
    · rw [z, pk_us]; exact ⟨c + 1, by omega, rfl⟩
    · rw [pk_un z]; exact i4.2 r hr
  · rw [yK_e, yK_e]; exact pk_un (by omega)
  · rw [yV_e, yV_e]; exact pk_un (by omega)
  · rw [yS_e, yS_e]; exact pk_un (by omega)
theorem pig5 : ∀ a b : Fin 5, a ≠ b → ∀ c : Fin 5, c ≠ a → c ≠ b → ∀ d : Fin 5, d ≠ a → d ≠ b → d ≠ c → ∀ e : Fin 5, e ≠ a → e ≠ b → e ≠ c → e ≠ d → ∀ u : Fin 5, u = a ∨ u = b ∨ u = c ∨ u = d ∨ u = e := by decide +kernel
theorem pig {lu : Nat → Int32} (h : ∀ i, i < 5 → ∃ u, u < 5 ∧ lu i = nI u) (hd : ∀ i j, i < j → j < 5 → lu i ≠ lu j) {u : Nat} (hu : u < 5) : ∃ i, i < 5 ∧ lu i = nI u := by
  obtain ⟨a, a1, a2⟩ := h 0 (by omega)
  obtain ⟨b, b1, b2⟩ := h 1 (by omega)
  obtain ⟨c, c1, c2⟩ := h 2 (by omega)
  obtain ⟨d, d1, d2⟩ := h 3 (by omega)
  obtain ⟨e, e1, e2⟩ := h 4 (by omega)
  have ne : ∀ {i j x y : Nat} (hx : x < 5) (hy : y < 5), i < j → j < 5 → lu i = nI x → lu j = nI y → (⟨y, hy⟩ : Fin 5) ≠ ⟨x, hx⟩ := by
    intro i j x y hx hy hij hj ex ey z
    have := congrArg Fin.val z
    exact hd i j hij hj (by rw [ex, ey]; exact congrArg nI this.symm)
  rcases pig5 ⟨a, a1⟩ ⟨b, b1⟩ (ne a1 b1 (by omega) (by omega) a2 b2).symm ⟨c, c1⟩ (ne a1 c1 (by omega) (by omega) a2 c2) (ne b1 c1 (by omega) (by omega) b2 c2) ⟨d, d1⟩ (ne a1 d1 (by omega) (by omega) a2 d2) (ne b1 d1 (by omega) (by omega) b2 d2) (ne c1 d1 (by omega) (by omega) c2 d2) ⟨e, e1⟩ (ne a1 e1 (by omega) (by omega) a2 e2) (ne b1 e1 (by omega) (by omega) b2 e2) (ne c1 e1 (by omega) (by omega) c2 e2) (ne d1 e1 (by omega) (by omega) d2 e2) ⟨u, hu⟩ with z | z | z | z | z
  · exact ⟨0, by omega, by rw [a2]; exact congrArg nI (congrArg Fin.val z).symm⟩
  · exact ⟨1, by omega, by rw [b2]; exact congrArg nI (congrArg Fin.val z).symm⟩
  · exact ⟨2, by omega, by rw [c2]; exact congrArg nI (congrArg Fin.val z).symm⟩
  · exact ⟨3, by omega, by rw [d2]; exact congrArg nI (congrArg Fin.val z).symm⟩
  · exact ⟨4, by omega, by rw [e2]; exact congrArg nI (congrArg Fin.val z).symm⟩
section
variable {f_draftCount f_openCount f_operandsDue f_faultPlace f_listCount f_takenCount f_culpritName f_memorySize f_operandCount f_pendingCount f_frameCount f_next f_outcome f_lastResult f_stepCount : Int32} {a_draftKind a_draftValue a_draftPartner a_openBlock a_unitKind a_unitValue a_unitPartner a_unitLength a_listedUnit a_listedAsLibrary a_takenUnit a_definition a_isDuplicate a_isWanted a_codeKind a_codeValue a_codePartner a_functionOf a_placeOf a_memory a_operands a_pendingToken a_pendingDue a_locals a_returnTo : Nat → Int32}
theorem x_incl {post : Int32 → SX → Prop} {n : Nat} {v1 v2 : Int32} (hn : n ≤ 5) (hb : (v1 < 0 ∨ nI 5 ≤ v1) → post 0 (f_draftCount, f_openCount, f_operandsDue, f_faultPlace, nI n, f_takenCount, f_culpritName, f_memorySize, f_operandCount, f_pendingCount, f_frameCount, f_next, f_outcome, f_lastResult, f_stepCount, a_draftKind, a_draftValue, a_draftPartner, a_openBlock, a_unitKind, a_unitValue, a_unitPartner, a_unitLength, a_listedUnit, a_listedAsLibrary, a_takenUnit, a_definition, a_isDuplicate, a_isWanted, a_codeKind, a_codeValue, a_codePartner, a_functionOf, a_placeOf, a_memory, a_operands, a_pendingToken, a_pendingDue, a_locals, a_returnTo)) (h0 : ∀ u, u < 5 → v1 = nI u → (∃ i, i < n ∧ a_listedUnit i = v1) → post 0 (f_draftCount, f_openCount, f_operandsDue, f_faultPlace, nI n, f_takenCount, f_culpritName, f_memorySize, f_operandCount, f_pendingCount, f_frameCount, f_next, f_outcome, f_lastResult, f_stepCount, a_draftKind, a_draftValue, a_draftPartner, a_openBlock, a_unitKind, a_unitValue, a_unitPartner, a_unitLength, a_listedUnit, a_listedAsLibrary, a_takenUnit, a_definition, a_isDuplicate, a_isWanted, a_codeKind, a_codeValue, a_codePartner, a_functionOf, a_placeOf, a_memory, a_operands, a_pendingToken, a_pendingDue, a_locals, a_returnTo)) (hf : ∀ u, u < 5 → v1 = nI u → ¬ (∃ i, i < n ∧ a_listedUnit i = v1) → n = 5 → post 0 (f_draftCount, f_openCount, f_operandsDue, f_faultPlace, nI n, f_takenCount, f_culpritName, f_memorySize, f_operandCount, f_pendingCount, f_frameCount, f_next, f_outcome, f_lastResult, f_stepCount, a_draftKind, a_draftValue, a_draftPartner, a_openBlock, a_unitKind, a_unitValue, a_unitPartner, a_unitLength, a_listedUnit, a_listedAsLibrary, a_takenUnit, a_definition, a_isDuplicate, a_isWanted, a_codeKind, a_codeValue, a_codePartner, a_functionOf, a_placeOf, a_memory, a_operands, a_pendingToken, a_pendingDue, a_locals, a_returnTo)) (h1 : ∀ u, u < 5 → v1 = nI u → ¬ (∃ i, i < n ∧ a_listedUnit i = v1) → n < 5 → post 1 (f_draftCount, f_openCount, f_operandsDue, f_faultPlace, nI (n + 1), f_takenCount, f_culpritName, f_memorySize, f_operandCount, f_pendingCount, f_frameCount, f_next, f_outcome, f_lastResult, f_stepCount, a_draftKind, a_draftValue, a_draftPartner, a_openBlock, a_unitKind, a_unitValue, a_unitPartner, a_unitLength, upd a_listedUnit n v1, upd a_listedAsLibrary n (vp_nar .boolean v2), a_takenUnit, a_definition, a_isDuplicate, a_isWanted, a_codeKind, a_codeValue, a_codePartner, a_functionOf, a_placeOf, a_memory, a_operands, a_pendingToken, a_pendingDue, a_locals, a_returnTo)) : wpX_include post (f_draftCount, f_openCount, f_operandsDue, f_faultPlace, nI n, f_takenCount, f_culpritName, f_memorySize, f_operandCount, f_pendingCount, f_frameCount, f_next, f_outcome, f_lastResult, f_stepCount, a_draftKind, a_draftValue, a_draftPartner, a_openBlock, a_unitKind, a_unitValue, a_unitPartner, a_unitLength, a_listedUnit, a_listedAsLibrary, a_takenUnit, a_definition, a_isDuplicate, a_isWanted, a_codeKind, a_codeValue, a_codePartner, a_functionOf, a_placeOf, a_memory, a_operands, a_pendingToken, a_pendingDue, a_locals, a_returnTo) v1 v2 := by
  unfold wpX_include
  have hlist : ∀ P : Int32 → Prop, ((∃ i, i < n ∧ a_listedUnit i = v1) → P 1) → (¬ (∃ i, i < n ∧ a_listedUnit i = v1) → P 0) → wpX_isListed P (f_draftCount, f_openCount, f_operandsDue, f_faultPlace, nI n, f_takenCount, f_culpritName, f_memorySize, f_operandCount, f_pendingCount, f_frameCount, f_next, f_outcome, f_lastResult, f_stepCount, a_draftKind, a_draftValue, a_draftPartner, a_openBlock, a_unitKind, a_unitValue, a_unitPartner, a_unitLength, a_listedUnit, a_listedAsLibrary, a_takenUnit, a_definition, a_isDuplicate, a_isWanted, a_codeKind, a_codeValue, a_codePartner, a_functionOf, a_placeOf, a_memory, a_operands, a_pendingToken, a_pendingDue, a_locals, a_returnTo) v1 := by
    intro P p1 p0
    have key : ∀ m i, i + m = n → (∀ j, j < i → a_listedUnit j ≠ v1) → wX_isListed_2 P v1 f_draftCount f_openCount f_operandsDue f_faultPlace (nI n) f_takenCount f_culpritName f_memorySize f_operandCount f_pendingCount f_frameCount f_next f_outcome f_lastResult f_stepCount a_draftKind a_draftValue a_draftPartner a_openBlock a_unitKind a_unitValue a_unitPartner a_unitLength a_listedUnit a_listedAsLibrary a_takenUnit a_definition a_isDuplicate a_isWanted a_codeKind a_codeValue a_codePartner a_functionOf a_placeOf a_memory a_operands a_pendingToken a_pendingDue a_locals a_returnTo (m + 1) (nI i) := by
      intro m
      induction m with
      | zero =>
        intro i hi hno
        exact br_t (nI_le (by omega) (by omega)) (p0 (fun ⟨j, a, b⟩ => hno j (by omega) b))
      | succ m ih =>
        intro i hi hno
        refine br_f (nI_ge (by omega) (by omega)) ⟨pk_in i 5 (by omega), ?_⟩
        rw [nI_clamp (show i < 2 ^ 31 by omega)]
        refine br_c (fun z => p1 ⟨i, by omega, z⟩) (fun z => nm_r (nI_1 i) (ih (i + 1) (by omega) (fun j hj => ?_)))
        by_cases y : j = i
        · rw [y]; exact z
        · exact hno j (by omega)
    exact ⟨n + 1, key n 0 (by omega) (fun j h => absurd h (by omega))⟩
  rcases pk_ix v1 (n := 5) (by omega) with z | z | ⟨u, hu, e⟩
  · exact br_t z (br_t rfl (hb (Or.inl z)))
  · exact br_c (fun _ => br_t rfl (hb (Or.inr z))) (fun _ => br_t z (br_t rfl (hb (Or.inr z))))
  · refine br_f (by rw [e]; exact nI_pos (by omega)) (br_f (by rw [e]; exact nI_ge (b := 5) hu (by omega)) (br_f (by decide) ?_))
    have hin : n < 5 → vp_in (nI n) 5 := fun h => pk_in n 5 h
    refine hlist _ (fun y => br_f (by decide) (h0 u hu e y)) (fun y => br_t rfl (pk_lt n 5 (fun w => ⟨hin w, nm_r (by rw [nI_clamp (by omega)]) ⟨hin w, nm_r (by rw [nI_clamp (by omega)]) (nm_r (nI_1 n) (h1 u hu e y w))⟩⟩) (fun w => hf u hu e y (by omega))))
end
section
variable {g_place g_culprit g_listed g_units g_taken g_used g_depth g_waiting g_held g_fault g_steps g_result g_given g_gift g_has : Int32} {b_kind b_value b_size b_list b_library b_places b_memory b_wanted b_pc b_base b_locals b_waits b_got b_values : Nat → Int32}
theorem y_incl {post : Int32 → SY → Prop} {n : Nat} {v1 v2 : Int32} (hn : n ≤ 5) (hb : (v1 < 0 ∨ nI 5 ≤ v1) → post 0 (g_place, g_culprit, nI n, g_units, g_taken, g_used, g_depth, g_waiting, g_held, g_fault, g_steps, g_result, g_given, g_gift, g_has, b_kind, b_value, b_size, b_list, b_library, b_places, b_memory, b_wanted, b_pc, b_base, b_locals, b_waits, b_got, b_values)) (h0 : ∀ u, u < 5 → v1 = nI u → (∃ i, i < n ∧ b_list i = v1) → post 0 (g_place, g_culprit, nI n, g_units, g_taken, g_used, g_depth, g_waiting, g_held, g_fault, g_steps, g_result, g_given, g_gift, g_has, b_kind, b_value, b_size, b_list, b_library, b_places, b_memory, b_wanted, b_pc, b_base, b_locals, b_waits, b_got, b_values)) (h1 : ∀ u, u < 5 → v1 = nI u → ¬ (∃ i, i < n ∧ b_list i = v1) → n < 5 ∧ post 1 (g_place, g_culprit, nI (n + 1), g_units, g_taken, g_used, g_depth, g_waiting, g_held, g_fault, g_steps, g_result, g_given, g_gift, g_has, b_kind, b_value, b_size, upd b_list n v1, upd b_library n (vp_nar .boolean v2), b_places, b_memory, b_wanted, b_pc, b_base, b_locals, b_waits, b_got, b_values)) : wpY_include post (g_place, g_culprit, nI n, g_units, g_taken, g_used, g_depth, g_waiting, g_held, g_fault, g_steps, g_result, g_given, g_gift, g_has, b_kind, b_value, b_size, b_list, b_library, b_places, b_memory, b_wanted, b_pc, b_base, b_locals, b_waits, b_got, b_values) v1 v2 := by
  unfold wpY_include
  refine y_outs (m := 5) (by omega) (fun u hu e => br_t rfl ⟨n + 1, ?_⟩) (fun z => br_f (by decide) (hb z))
  have key : ∀ m i, i + m = n → (∀ j, j < i → b_list j ≠ v1) → wY_include_12 post v1 v2 g_place g_culprit (nI n) g_units g_taken g_used g_depth g_waiting g_held g_fault g_steps g_result g_given g_gift g_has b_kind b_value b_size b_list b_library b_places b_memory b_wanted b_pc b_base b_locals b_waits b_got b_values (m + 1) (nI i) := by
    intro m
    induction m with
    | zero =>
      intro i hi hno
      obtain ⟨hn5, hp⟩ := h1 u hu e (fun ⟨j, a, b⟩ => hno j (by omega) b)
      have hin : vp_in (nI n) 5 := pk_in n 5 hn5
      refine br_t (nI_le (by omega) (by omega)) ⟨hin, nm_r (e' := upd b_list n v1) (by rw [nI_clamp (by omega), e, ba_nbb (by omega)]) (nm_r (nI_1 n) ⟨hin, nm_r (by rw [nI_clamp (by omega)]) hp⟩)⟩
    | succ m ih =>
      intro i hi hno
      refine br_f (nI_ge (by omega) (by omega)) ⟨pk_in i 5 (by omega), ?_⟩
      rw [nI_clamp (show i < 2 ^ 31 by omega)]
      refine br_c (fun z => h0 u hu e ⟨i, by omega, z⟩) (fun z => nm_r (nI_1 i) (ih (i + 1) (by omega) (fun j hj => ?_)))
      by_cases y : j = i
      · rw [y]; exact z
      · exact hno j (by omega)
  exact key n 0 (by omega) (fun j h => absurd h (by omega))
end
theorem i_vc_include {k : Nat} {u : SX} {v : SY} (I : i_Rel k u v) (hk : k + 5 ≤ 2560) (v1 : Int32) (v2 : Int32) : wpX_include (fun r u' => wpY_include (fun r' v' => r' = r ∧ i_Rel (k + 5) u' v') v v1 (lw_bz v2)) u v1 (lw_bz v2) := by
  obtain ⟨f_draftCount, f_openCount, f_operandsDue, f_faultPlace, f_listCount, f_takenCount, f_culpritName, f_memorySize, f_operandCount, f_pendingCount, f_frameCount, f_next, f_outcome, f_lastResult, f_stepCount, a_draftKind, a_draftValue, a_draftPartner, a_openBlock, a_unitKind, a_unitValue, a_unitPartner, a_unitLength, a_listedUnit, a_listedAsLibrary, a_takenUnit, a_definition, a_isDuplicate, a_isWanted, a_codeKind, a_codeValue, a_codePartner, a_functionOf, a_placeOf, a_memory, a_operands, a_pendingToken, a_pendingDue, a_locals, a_returnTo⟩ := u
  obtain ⟨g_place, g_culprit, g_listed, g_units, g_taken, g_used, g_depth, g_waiting, g_held, g_fault, g_steps, g_result, g_given, g_gift, g_has, b_kind, b_value, b_size, b_list, b_library, b_places, b_memory, b_wanted, b_pc, b_base, b_locals, b_waits, b_got, b_values⟩ := v
  have I' := i_el I
  obtain ⟨i1, i2, ⟨c, c1, c2, c3, c4, c5, c6, c7⟩, i4, ⟨n, m, tk, ln, D, B, pr, hR, hm⟩, i6⟩ := I'
  subst c2 c3 c4 c5
  refine x_incl c1 (fun z => y_incl c1 (fun _ => ⟨rfl, I⟩) (fun u hu e => absurd (ix_no (by omega) hu e z) id) (fun u hu e => absurd (ix_no (by omega) hu e z) id)) (fun u hu e z => y_incl c1 (fun w => absurd (ix_no (by omega) hu e w) id) (fun _ _ _ _ => ⟨rfl, I⟩) (fun _ _ _ w => absurd z w)) (fun u hu e z h5 => ?_) (fun u hu e z h5 => y_incl c1 (fun w => absurd (ix_no (by omega) hu e w) id) (fun _ _ _ w => absurd w z) (fun _ _ _ _ => ⟨h5, rfl, ?_⟩))
  · subst h5
    obtain ⟨i, a, b⟩ := pig c6 c7 hu
    exact absurd ⟨i, a, b.trans e.symm⟩ z
  · refine i_mk ⟨i1, i2, ⟨c + 1, by omega, rfl, rfl, rfl, rfl, fun i hi => ?_, fun i j hij hj => ?_⟩, i4, ⟨n, m, tk, ln, D, B, pr, pR_ext (xMS_e.trans xMS_e.symm) (xCK_e.trans xCK_e.symm) (xCV_e.trans xCV_e.symm) (xCP_e.trans xCP_e.symm) (xFO_e.trans xFO_e.symm) (xPO_e.trans xPO_e.symm) (yUN_e.trans yUN_e.symm) (yUS_e.trans yUS_e.symm) (yPL_e.trans yPL_e.symm) (fun j _ => ⟨congrFun (yK_e.trans yK_e.symm) j, congrFun (yV_e.trans yV_e.symm) j⟩) (fun j _ => congrFun (yS_e.trans yS_e.symm) j) hR, hm⟩, i6⟩
    · by_cases y : i = c
      · rw [y, pk_us]; exact ⟨u, hu, e⟩
      · rw [pk_un y]; exact c6 i hi
    · by_cases y : j = c
      · rw [y, pk_us, pk_un (by omega)]
        exact fun w => z ⟨i, by omega, w⟩
      · rw [pk_un y, pk_un (by omega)]; exact c7 i j hij (by omega)
end
section
/-! unit: the owed row -/
theorem sk_SF_d {K N : Nat → Nat} {c : Nat} (hc : c ≤ 50) (h : sk_SF K N c (-1)) : sk_d K N c = 0 := by
  rcases h with ⟨i', h1, h2, h3, h4⟩ | ⟨h1, h⟩
  · exact absurd h2.symm (ba_m1 (by omega))
  · rcases h with h | h
    · exact h.2.1
    · exact absurd h.2.symm (ba_m1 (by omega))
theorem tw_S_m1 {K V : Nat → Nat} {c : Nat} (hc : c ≤ 50) (h : tw_S K V c (-1)) : ∀ j, j < c → tw_d K j → ¬ tw_b K V j := by
  rcases h with ⟨i, h1, h2, _⟩ | ⟨_, h⟩
  · exact absurd h2.symm (ba_m1 (by omega))
  · exact h
/-- the row that a unit leaves -/
theorem un_row {yk yv xk xv xp yk' yv' pa : Nat → Int32} {u c : Nat} (hc : c ≤ 50) (hT : ∀ i, i < 50 → yk (250 + i) = nI (kn yk (250 + i)) ∧ tk_P (kn yk (250 + i)) (yv (250 + i)))
    (hSF : sk_SF (fun j => kn yk (250 + j)) (fun j => tk_n (kn yk (250 + j)) (kn yv (250 + j))) c (-1)) (hcl : sk_cl (fun j => kn yk (250 + j)) pa c) (hTW : tw_S (fun j => kn yk (250 + j)) (fun j => kn yv (250 + j)) c (-1))
    (hx : ∀ i, i < c → xk (50 * u + i) = yk (250 + i) ∧ xv (50 * u + i) = yv (250 + i) ∧ xp (50 * u + i) = nI (50 * u) + pa i) (hy : ∀ i, i < c → yk' (50 * u + i) = yk (250 + i) ∧ yv' (50 * u + i) = yv (250 + i)) : rl_row xk xv xp (50 * u) yk' yv' (50 * u) c := by
  obtain ⟨hall, hs⟩ := sk_SF_m1 hc hSF
  have hd := sk_SF_d hc hSF
  have ek : ∀ i, i < c → kn yk' (50 * u + i) = kn yk (250 + i) := fun i hi => congrArg Int32.toNatClampNeg (hy i hi).1
  have ev : ∀ i, i < c → kn yv' (50 * u + i) = kn yv (250 + i) := fun i hi => congrArg Int32.toNatClampNeg (hy i hi).2
  have hop : ∀ p, p ≤ c → sk_op (fun j => kn yk (250 + j)) p (sk_st (fun j => kn yk (250 + j)) p) := fun p hp => by
    obtain ⟨_, h, _⟩ := sk_all p (fun j hj => hall j (by omega))
    exact h
  refine ⟨hc, fun i hi => ?_, wf_U_ext (sk_wf (P := fun i => xp (50 * u + i)) (b := 50 * u) hall hs hcl (fun i hi => (hx i hi).2.2) (fun i hi e => ?_) hop) (fun i hi => ⟨ek i hi, by rw [ek i hi, ev i hi], rfl⟩), fun i j hij hj => ?_, fun i hi => ?_⟩
  · rw [(hx i hi).1, (hx i hi).2.1, (hy i hi).1, (hy i hi).2, ek i hi]
    exact ⟨rfl, rfl, (hT i (by omega)).1, (hT i (by omega)).2⟩
  · have e' : kn yk (250 + i) = 28 := e
    show tk_n (kn yk (250 + i)) _ = 0
    rw [e']; rfl
  · rw [ek i (by omega), ek j hj, ev i (by omega), ev j hj]
    intro d1 d2 e
    exact tw_S_m1 hc hTW j hj d2 ⟨i, hij, d1, e⟩
  · rw [ek i hi]
    intro e
    apply Classical.byContradiction
    intro z
    have e2 : i + 1 = c := by omega
    have := (sk_after1 (hall i hi) e).2
    rw [e2, hd] at this
    exact absurd this (by decide)
theorem i_vc_unit {k : Nat} {u : SX} {v : SY} (I : i_Rel k u v) (hk : k + 5 ≤ 2560) (v1 : Int32) : wpX_unit (fun r u' => wpY_unit (fun r' v' => r' = r ∧ i_Rel (k + 5) u' v') v v1) u v1 := by
  obtain ⟨f_draftCount, f_openCount, f_operandsDue, f_faultPlace, f_listCount, f_takenCount, f_culpritName, f_memorySize, f_operandCount, f_pendingCount, f_frameCount, f_next, f_outcome, f_lastResult, f_stepCount, a_draftKind, a_draftValue, a_draftPartner, a_openBlock, a_unitKind, a_unitValue, a_unitPartner, a_unitLength, a_listedUnit, a_listedAsLibrary, a_takenUnit, a_definition, a_isDuplicate, a_isWanted, a_codeKind, a_codeValue, a_codePartner, a_functionOf, a_placeOf, a_memory, a_operands, a_pendingToken, a_pendingDue, a_locals, a_returnTo⟩ := u
  obtain ⟨g_place, g_culprit, g_listed, g_units, g_taken, g_used, g_depth, g_waiting, g_held, g_fault, g_steps, g_result, g_given, g_gift, g_has, b_kind, b_value, b_size, b_list, b_library, b_places, b_memory, b_wanted, b_pc, b_base, b_locals, b_waits, b_got, b_values⟩ := v
  have I' := i_el I
  obtain ⟨⟨c, c1, c2, c3, c4⟩, i2, i3, i4, ⟨n, m, tk, ln, D, B, pr, hR, hm⟩, i6, i7, i8⟩ := I'
  subst c2
  rcases pk_ix v1 (n := 5) (by omega) with z | z | ⟨u, hu, e⟩
  · exact xu_bad (Or.inl z) (yu_bad (Or.inl z) ⟨rfl, I⟩)
  · exact xu_bad (Or.inr z) (yu_bad (Or.inr z) ⟨rfl, I⟩)
  · subst e
    have xK : ∀ j, j < 50 → a_draftKind j = nI (kn b_kind (250 + j)) := fun j hj => by rw [(c4 j hj).1]; exact (c4 j hj).2.2.1
    have xP : ∀ j, j < 50 → tk_P (kn b_kind (250 + j)) (a_draftValue j) := fun j hj => by rw [(c4 j hj).2.1]; exact (c4 j hj).2.2.2
    have xV : ∀ j, j < 50 → kn b_value (250 + j) = (a_draftValue j).toNatClampNeg := fun j hj => by rw [(c4 j hj).2.1]; rfl
    have xN : ∀ j, j < 50 → tk_n (kn b_kind (250 + j)) (kn b_value (250 + j)) = tk_n (kn b_kind (250 + j)) (a_draftValue j).toNatClampNeg := fun j hj => by rw [xV j hj]
    have yKk : ∀ j, j < 50 → b_kind (250 + j) = nI (kn b_kind (250 + j)) := fun j hj => (c4 j hj).2.2.1
    have yPp : ∀ j, j < 50 → tk_P (kn b_kind (250 + j)) (b_value (250 + j)) := fun j hj => (c4 j hj).2.2.2
    have hs5 : ∀ r, r ≠ 5 → upd b_size 5 0 r = b_size r := fun r hr => pk_un hr
    have fin : ∀ (r oc od : Int32) (ob pa w : Nat → Int32), i_Rel (k + 5) (0, oc, od, r, f_listCount, f_takenCount, f_culpritName, f_memorySize, f_operandCount, f_pendingCount, f_frameCount, f_next, f_outcome, f_lastResult, f_stepCount, a_draftKind, a_draftValue, pa, ob, a_unitKind, a_unitValue, a_unitPartner, a_unitLength, a_listedUnit, a_listedAsLibrary, a_takenUnit, a_definition, a_isDuplicate, a_isWanted, a_codeKind, a_codeValue, a_codePartner, a_functionOf, a_placeOf, a_memory, a_operands, a_pendingToken, a_pendingDue, a_locals, a_returnTo) (r, g_culprit, g_listed, g_units, g_taken, g_used, g_depth, g_waiting, g_held, g_fault, g_steps, g_result, g_given, g_gift, g_has, b_kind, b_value, upd b_size 5 0, b_list, b_library, b_places, b_memory, w, b_pc, b_base, b_locals, b_waits, b_got, b_values) := by
      intro r oc od ob pa w
      refine i_mk ⟨⟨0, by omega, rfl, pk_us, c4⟩, fun u hu => ?_, i3, ⟨i4.1, fun r hr => ?_⟩, ⟨n, m, tk, ln, D, B, pr, pR_ext (xMS_e.trans xMS_e.symm) (xCK_e.trans xCK_e.symm) (xCV_e.trans xCV_e.symm) (xCP_e.trans xCP_e.symm) (xFO_e.trans xFO_e.symm) (xPO_e.trans xPO_e.symm) (yUN_e.trans yUN_e.symm) (yUS_e.trans yUS_e.symm) (yPL_e.trans yPL_e.symm) (fun j _ => ⟨congrFun (yK_e.trans yK_e.symm) j, congrFun (yV_e.trans yV_e.symm) j⟩) (fun r hr => ?_) hR, hm⟩, rfl, i7, i8⟩
      · obtain ⟨cu, a, b, d⟩ := i2 u hu
        exact ⟨cu, a, by rw [hs5 u (by omega)]; exact b, d⟩
      · by_cases z : r = 5
        · rw [z, pk_us]; exact ⟨0, by omega, rfl⟩
        · rw [hs5 r z]; exact i4.2 r hr
      · rw [yS_e, yS_e]; exact hs5 r (by omega)
    refine xu_unit hu c1 xK xP xN xV (fun r oc od ob pa hSF hr => ?_) (fun r oc od ob pa hSF hTW hr => ?_) (fun oc od ob pa hSF hcl hTW => ?_)
    · exact yu_S hu c1 c3 yKk yPp (fun _ _ => rfl) hSF hr (fun w => ⟨rfl, fin r oc od ob pa w⟩)
    · exact yu_unit hu c1 c3 yKk yPp (fun _ _ => rfl) (fun _ _ => rfl) hSF hTW (fun _ w => ⟨rfl, fin r oc od ob pa w⟩) (fun z => absurd z hr)
    · refine yu_unit hu c1 c3 yKk yPp (fun _ _ => rfl) (fun _ _ => rfl) hSF hTW (fun z => absurd rfl z) (fun _ w => ⟨rfl, ?_⟩)
      have hsz : ∀ r, r ≠ 5 → r ≠ u → upd (upd b_size u (nI c)) 5 0 r = b_size r := fun r h1 h2 => by rw [pk_un h1, pk_un h2]
      have hout : ∀ (a b : Nat → Int32) (j : Nat), ¬ (50 * u ≤ j ∧ j < 50 * u + 50) → kd_w a b u 50 j = a j := fun a b j h => kd_out h
      refine i_mk ⟨⟨0, by omega, rfl, pk_us, fun i hi => ?_⟩, fun u' hu' => ?_, i3, ⟨fun j hj => ?_, fun r hr => ?_⟩, ⟨n, m, tk, ln, D, B, pr, pR_ext (xMS_e.trans xMS_e.symm) (xCK_e.trans xCK_e.symm) (xCV_e.trans xCV_e.symm) (xCP_e.trans xCP_e.symm) (xFO_e.trans xFO_e.symm) (xPO_e.trans xPO_e.symm) (yUN_e.trans yUN_e.symm) (yUS_e.trans yUS_e.symm) (yPL_e.trans yPL_e.symm) (fun j hj => ⟨?_, ?_⟩) (fun r hr => ?_) hR, hm⟩, i6, i7, i8⟩
      · have ek : kn (kd_w b_kind (fun i => b_kind (250 + i)) u 50) (250 + i) = kn b_kind (250 + i) := congrArg Int32.toNatClampNeg (hout _ _ _ (by omega))
        rw [ek, hout _ _ _ (by omega), hout _ _ _ (by omega)]
        exact c4 i hi
      · by_cases z : u' = u
        · subst z
          refine ⟨c, pk_us, by rw [pk_un (by omega), pk_us], un_row c1 (fun i hi => ⟨yKk i hi, yPp i hi⟩) hSF hcl hTW (fun i hi => ?_) (fun i hi => ?_)⟩
          · rw [kd_in hi, kd_in hi, kd_in hi]
            exact ⟨(c4 i (by omega)).1, (c4 i (by omega)).2.1, rfl⟩
          · rw [kd_in (by omega), kd_in (by omega)]
            exact ⟨rfl, rfl⟩
        · obtain ⟨cu, a, b, d⟩ := i2 u' hu'
          have := d.1
          refine ⟨cu, by rw [pk_un z]; exact a, by rw [hsz u' (by omega) z]; exact b, rl_row_ext d (fun i hi => ?_) (fun i hi => ?_)⟩
          · exact ⟨kd_out (by omega), kd_out (by omega), kd_out (by omega)⟩
          · exact ⟨kd_out (by omega), kd_out (by omega)⟩
      · unfold kd_w
        split
        · exact i4.1 _ (by omega)
        · exact i4.1 j hj
      · by_cases z : r = 5
        · rw [z, pk_us]; exact ⟨0, by omega, rfl⟩
        · rw [pk_un z]
          by_cases y : r = u
          · rw [y, pk_us]; exact ⟨c, c1, rfl⟩
          · rw [pk_un y]; exact i4.2 r hr
      · rw [yK_e, yK_e]; exact hout _ _ _ (by omega)
      · rw [yV_e, yV_e]; exact hout _ _ _ (by omega)
      · rw [yS_e, yS_e]; exact hsz r (by omega) (by omega)
end
section
/-! link: the owed row -/
theorem lk_T_inj {C W : Nat → Nat → Nat} {M lst : Nat → Nat} {lib : Nat → Prop} : ∀ l, (∀ i j, i < j → j < l → lst i ≠ lst j) → (∀ k, k < (lk_T C W M lst lib l).1 → ∃ i, i < l ∧ (lk_T C W M lst lib l).2 k = lst i) ∧ ∀ k k', k < (lk_T C W M lst lib l).1 → k' < (lk_T C W M lst lib l).1 → (lk_T C W M lst lib l).2 k = (lk_T C W M lst lib l).2 k' → k = k' := by
  intro l
  induction l with
  | zero => exact fun _ => ⟨fun k h => absurd h (Nat.not_lt_zero _), fun k k' h => absurd h (Nat.not_lt_zero _)⟩
  | succ l ih =>
    intro h
    obtain ⟨a, b⟩ := ih (fun i j hij hj => h i j hij (by omega))
    by_cases hc : ¬ lib l ∨ lk_O C W M (lst l) (fun k => C ((lk_T C W M lst lib l).2 k)) (fun k => W ((lk_T C W M lst lib l).2 k)) (fun k => M ((lk_T C W M lst lib l).2 k)) (lk_T C W M lst lib l).1
    · rw [lk_T_yes hc]
      generalize (lk_T C W M lst lib l).1 = n0 at *
      generalize (lk_T C W M lst lib l).2 = tk0 at *
      have hne : ∀ k, k < n0 → tk0 k ≠ lst l := fun k hk e => by
        obtain ⟨i, hi, ei⟩ := a k hk
        exact h i l hi (by omega) (ei.symm.trans e)
      constructor
      · intro k hk
        have hk' : k < n0 + 1 := hk
        show ∃ i, i < l + 1 ∧ (if k = n0 then lst l else tk0 k) = lst i
        by_cases z : k = n0
        · rw [if_pos z]; exact ⟨l, by omega, rfl⟩
        · rw [if_neg z]
          obtain ⟨i, hi, ei⟩ := a k (by omega)
          exact ⟨i, by omega, ei⟩
      · intro k k' hk hk'
        have hk1 : k < n0 + 1 := hk
        have hk2 : k' < n0 + 1 := hk'
        show (if k = n0 then lst l else tk0 k) = (if k' = n0 then lst l else tk0 k') → k = k'
        by_cases z : k = n0
        · by_cases z' : k' = n0
          · exact fun _ => by omega
          · rw [if_pos z, if_neg z']
            exact fun e => absurd e.symm (hne k' (by omega))
        · by_cases z' : k' = n0
          · rw [if_neg z, if_pos z']
            exact fun e => absurd e (hne k (by omega))
          · rw [if_neg z, if_neg z']
            exact b k k' (by omega) (by omega)
    · rw [lk_T_no hc]
      exact ⟨fun k hk => by obtain ⟨i, hi, e⟩ := a k hk; exact ⟨i, by omega, e⟩, b⟩
theorem lk_q_cong {K V K' V' : Nat → Nat → Nat} {L L' tk : Nat → Nat} {n c nm : Nat} (hL : ∀ k, k < n → L k ≤ 50) (hE : lk_E K V K' V' L L' n) : lk_q K V L tk n c nm = lk_q K' V' L' tk n c nm := by
  unfold lk_q
  rw [← (@lk_cong K V K' V' L L' nm n hL hE).1]
  cases e : lk_b K V L nm n with
  | none => rfl
  | some d =>
    have hd := lk_b_in hL e
    show (if _ then _ else _) = (if _ then _ else _)
    rw [((hE _ hd.1).2 _ hd.2.1).1]
theorem sk3 {n : Nat} {P : Nat → (Nat → Nat) → (Nat → Nat) → (Nat → Nat) → Prop} (h : ∀ k, k < n → ∃ D B pr, P k D B pr) : ∃ D B pr : Nat → Nat → Nat, ∀ k, k < n → P k (D k) (B k) (pr k) := by
  have hx : ∀ k, ∃ t : (Nat → Nat) × (Nat → Nat) × (Nat → Nat), k < n → P k t.1 t.2.1 t.2.2 := by
    intro k
    by_cases hk : k < n
    · obtain ⟨D, B, pr, hp⟩ := h k hk
      exact ⟨(D, B, pr), fun _ => hp⟩
    · exact ⟨(fun _ => 0, fun _ => 0, fun _ => 0), fun z => absurd z hk⟩
  obtain ⟨f, hf⟩ := Classical.skolem.mp hx
  exact ⟨fun k => (f k).1, fun k => (f k).2.1, fun k => (f k).2.2, hf⟩
/-- what a good link leaves is a program -/
theorem ln_pR {E : SX} {Z : SY} {C W : Nat → Nat → Nat} {M tk : Nat → Nat} {n : Nat} {uv : Nat → Nat → Int32} (hn : n ≤ 5) (htk : ∀ k, k < n → tk k < 5)
    (hw : lk_o (fun k => C (tk k)) (fun k => W (tk k)) (fun k => M (tk k)) n (50 * n) ≤ 48) (hall : ∀ nm, nm < 12 → lk_R (fun k => C (tk k)) (fun k => W (tk k)) (fun k => M (tk k)) nm n 0)
    (h1 : yUN Z = nI n) (h2 : yUS Z = nI (lk_o (fun k => C (tk k)) (fun k => W (tk k)) (fun k => M (tk k)) n (50 * n))) (h3 : xMS E = nI (lk_o (fun k => C (tk k)) (fun k => W (tk k)) (fun k => M (tk k)) n (50 * n)))
    (hrow : ∀ k, k < n → M (tk k) ≤ 50 ∧ yS Z (11 + k) = nI (M (tk k)) ∧ (∀ i, i < M (tk k) → xCK E (50 * tk k + i) = nI (C (tk k) i) ∧ yK Z (550 + 50 * k + i) = nI (C (tk k) i) ∧ xCV E (50 * tk k + i) = uv k i ∧ yV Z (550 + 50 * k + i) = uv k i ∧ tk_P (C (tk k) i) (uv k i) ∧ (uv k i).toNatClampNeg = W (tk k) i) ∧ wf_U (C (tk k)) (fun i => tk_n (C (tk k) i) (W (tk k) i)) (M (tk k)) (fun i => xCP E (50 * tk k + i)) (50 * tk k))
    (hpo : ∀ nm, nm < 12 → xPO E nm = lk_p (fun k => C (tk k)) (fun k => W (tk k)) (fun k => M (tk k)) n (50 * n) nm) (hpl : ∀ nm, nm < 12 → yPL Z nm = lk_p (fun k => C (tk k)) (fun k => W (tk k)) (fun k => M (tk k)) n (50 * n) nm) (hfo : ∀ nm, nm < 12 → xFO E nm = lk_q (fun k => C (tk k)) (fun k => W (tk k)) (fun k => M (tk k)) tk n (50 * n) nm) :
    ∃ D B pr, pR E Z n (lk_o (fun k => C (tk k)) (fun k => W (tk k)) (fun k => M (tk k)) n (50 * n)) tk (fun k => M (tk k)) D B pr := by
  have eK : ∀ k, k < n → ∀ i, i < M (tk k) → pK Z k i = C (tk k) i := fun k hk i hi => by
    obtain ⟨_, a, _, _, b, _⟩ := (hrow k hk).2.2.1 i hi
    show (yK Z _).toNatClampNeg = _
    have := b.1
    rw [a, nI_clamp (by omega)]
  have eV : ∀ k, k < n → ∀ i, i < M (tk k) → pV Z k i = W (tk k) i := fun k hk i hi => by
    obtain ⟨_, _, _, a, _, b⟩ := (hrow k hk).2.2.1 i hi
    show (yV Z _).toNatClampNeg = _
    rw [a, b]
  have hLk : ∀ k, k < n → (fun k => M (tk k)) k ≤ 50 := fun k hk => (hrow k hk).1
  have hE : lk_E (fun k => C (tk k)) (fun k => W (tk k)) (pK Z) (pV Z) (fun k => M (tk k)) (fun k => M (tk k)) n := fun k hk => ⟨rfl, fun i hi => ⟨(eK k hk i hi).symm, (eV k hk i hi).symm⟩⟩
  obtain ⟨D, B, pr, hDB⟩ := sk3 (n := n) (P := fun k D B pr => wf_S (pK Z k) (pO Z k) (M (tk k)) D B ∧ wf_J (pK Z k) (M (tk k)) (fun i => xCP E (50 * tk k + i)) (50 * tk k) B pr) (fun k hk => wf_U_ext (hrow k hk).2.2.2 (fun i hi => ⟨eK k hk i hi, by unfold pO; rw [eK k hk i hi, eV k hk i hi], rfl⟩))
  refine ⟨D, B, pr, hn, hw, h1, h2, h3, fun k hk => ⟨htk k hk, (hrow k hk).1, (hrow k hk).2.1, fun i hi => ?_, (hDB k hk).1, (hDB k hk).2⟩, fun nm hnm => by rw [hpo nm hnm, hpl nm hnm], fun nm hnm => by rw [hfo nm hnm]; exact lk_q_cong hLk hE, fun k hk i hi => ?_⟩
  · obtain ⟨a, b, c, d, e, f⟩ := (hrow k hk).2.2.1 i hi
    unfold pT
    rw [eK k hk i hi, c, d]
    exact ⟨a, b, rfl, e⟩
  · obtain ⟨a, b, c, d, e, f⟩ := (hrow k hk).2.2.1 i hi
    rw [eK k hk i hi, eV k hk i hi]
    have huse : (C (tk k) i = 2 ∨ C (tk k) i = 3 ∨ C (tk k) i = 5) → ∃ d, lk_b (fun k => C (tk k)) (fun k => W (tk k)) (fun k => M (tk k)) (W (tk k) i % 16) n = some d ∧ lk_su (fun k => C (tk k)) (fun k => W (tk k)) d k i := by
      intro hu
      have hlt := (tw_U e hu).2.2
      rw [f] at hlt
      rcases hall _ hlt with ⟨_, h⟩ | ⟨h, _⟩ | ⟨h, _⟩
      · exact h k hk i hi ⟨hu, rfl⟩
      · exact absurd h (by decide)
      · exact absurd h (by decide)
    constructor
    · intro h2
      obtain ⟨d', hb, hsu⟩ := huse (Or.inl h2)
      have hsu' : C (tk (d' / 50)) (d' % 50) = 29 := by
        have : lk_su (fun k => C (tk k)) (fun k => W (tk k)) d' k i = (C (tk (d' / 50)) (d' % 50) = 29) := if_neg (by show ¬ C (tk k) i = 5; omega)
        rw [this] at hsu; exact hsu
      obtain ⟨mv, hmv, emv⟩ := e.2.2.2.1 (Or.inl h2)
      have eW : W (tk k) i = mv := by rw [← f, emv, nI_clamp (by omega)]
      rw [eW, show mv % 16 = mv by omega] at hb
      have hin := lk_b_in hLk hb
      have hdt : lk_dt (fun k => C (tk k)) (fun k => W (tk k)) (fun k => M (tk k)) n d' = true := by
        refine decide_eq_true ⟨hin.2.1, hsu', ?_⟩
        rw [hin.2.2.2]; exact hb
      have hat := lk_o_at hdt
      have hmono := @lk_o_mono (fun k => C (tk k)) (fun k => W (tk k)) (fun k => M (tk k)) n (d' + 1) (50 * n) (by have := hin.1; omega)
      have hz : 1 ≤ lk_z (fun k => W (tk k)) d' := Nat.succ_pos _
      refine ⟨lk_o (fun k => C (tk k)) (fun k => W (tk k)) (fun k => M (tk k)) n d', by omega, ?_⟩
      rw [eW, hpl mv hmv]
      unfold lk_p
      rw [hb]
      exact if_pos ⟨hsu', by have := hin.1; omega⟩
    · intro h5
      obtain ⟨d', hb, hsu⟩ := huse (Or.inr (Or.inr h5))
      have hin := lk_b_in hLk hb
      have hsu' : C (tk (d' / 50)) (d' % 50) = 28 ∧ W (tk (d' / 50)) (d' % 50) / 16 % 4 = W (tk k) i / 16 := by
        have : lk_su (fun k => C (tk k)) (fun k => W (tk k)) d' k i = (C (tk (d' / 50)) (d' % 50) = 28 ∧ W (tk (d' / 50)) (d' % 50) / 16 % 4 = W (tk k) i / 16) := if_pos (by show C (tk k) i = 5; omega)
        rw [this] at hsu; exact hsu
      refine ⟨d', ?_, ?_, ?_⟩
      · rw [← (@lk_cong (fun k => C (tk k)) (fun k => W (tk k)) (pK Z) (pV Z) (fun k => M (tk k)) (fun k => M (tk k)) (W (tk k) i % 16) n hLk hE).1]; exact hb
      · rw [eK _ hin.1 _ hin.2.1]; exact hsu'.1
      · rw [eV _ hin.1 _ hin.2.1]; exact hsu'.2
theorem i_vc_link {k : Nat} {u : SX} {v : SY} (I : i_Rel k u v) (hk : k + 5 ≤ 2560) : wpX_link (fun r u' => wpY_link (fun r' v' => r' = r ∧ i_Rel (k + 5) u' v') v) u := by
  obtain ⟨f_draftCount, f_openCount, f_operandsDue, f_faultPlace, f_listCount, f_takenCount, f_culpritName, f_memorySize, f_operandCount, f_pendingCount, f_frameCount, f_next, f_outcome, f_lastResult, f_stepCount, a_draftKind, a_draftValue, a_draftPartner, a_openBlock, a_unitKind, a_unitValue, a_unitPartner, a_unitLength, a_listedUnit, a_listedAsLibrary, a_takenUnit, a_definition, a_isDuplicate, a_isWanted, a_codeKind, a_codeValue, a_codePartner, a_functionOf, a_placeOf, a_memory, a_operands, a_pendingToken, a_pendingDue, a_locals, a_returnTo⟩ := u
  obtain ⟨g_place, g_culprit, g_listed, g_units, g_taken, g_used, g_depth, g_waiting, g_held, g_fault, g_steps, g_result, g_given, g_gift, g_has, b_kind, b_value, b_size, b_list, b_library, b_places, b_memory, b_wanted, b_pc, b_base, b_locals, b_waits, b_got, b_values⟩ := v
  have I' := i_el I
  obtain ⟨⟨c, c1, c2, c3, c4⟩, i2, ⟨nl, l1, l2, l3, l4, l5, l6, l7⟩, i4, ⟨n0, m0, tk0, ln0, D0, B0, pr0, hR, hm⟩, i6, i7, i8⟩ := I'
  subst c2 l2 l3 l4 l5
  have hM : ∀ u, u < 5 → a_unitLength u = nI (kn b_size u) ∧ b_size u = nI (kn b_size u) ∧ rl_row a_unitKind a_unitValue a_unitPartner (50 * u) b_kind b_value (50 * u) (kn b_size u) := by
    intro u hu
    obtain ⟨cu, a, b, d⟩ := i2 u hu
    have : kn b_size u = cu := by
      show (b_size u).toNatClampNeg = cu
      have := d.1
      rw [b, nI_clamp (by omega)]
    rw [this]
    exact ⟨a, b, d⟩
  have hU : ∀ u, u < 5 → yr_R b_kind b_value b_size u (fun i => kn b_kind (50 * u + i)) (fun i => kn b_value (50 * u + i)) (kn b_size u) := by
    intro u hu
    obtain ⟨_, b, d⟩ := hM u hu
    exact ⟨d.1, b, fun i hi => ⟨(d.2.1 i hi).2.2.1, (d.2.1 i hi).2.2.2, rfl⟩⟩
  have hX : ∀ u, u < 5 → yr_R a_unitKind a_unitValue a_unitLength u (fun i => kn b_kind (50 * u + i)) (fun i => kn b_value (50 * u + i)) (kn b_size u) := by
    intro u hu
    obtain ⟨a, _, d⟩ := hM u hu
    refine ⟨d.1, a, fun i hi => ?_⟩
    obtain ⟨e1, e2, e3, e4⟩ := d.2.1 i hi
    rw [e1, e2]
    exact ⟨e3, e4, rfl⟩
  have hlst : ∀ i, i < nl → kn b_list i < 5 ∧ b_list i = nI (kn b_list i) := by
    intro i hi
    obtain ⟨u, hu, e⟩ := l6 i (by omega)
    have : kn b_list i = u := by
      show (b_list i).toNatClampNeg = u
      rw [e, nI_clamp (by omega)]
    rw [this]
    exact ⟨hu, e⟩
  have hlib : ∀ i, i < nl → (b_library i = 0 ↔ ¬ ¬ b_library i = 0) := fun i _ => Classical.not_not.symm
  have hinj := (@lk_T_inj (fun u i => kn b_kind (50 * u + i)) (fun u i => kn b_value (50 * u + i)) (kn b_size) (kn b_list) (fun i => ¬ b_library i = 0) nl (fun i j hij hj e => l7 i j hij hj (by rw [(hlst i (by omega)).2, (hlst j hj).2, e]))).2
  have hin := @lk_T_in (fun u i => kn b_kind (50 * u + i)) (fun u i => kn b_value (50 * u + i)) (kn b_size) (kn b_list) (fun i => ¬ b_library i = 0) nl (fun i hi => (hlst i hi).1)
  have hT : lk_T (fun u i => kn b_kind (50 * u + i)) (fun u i => kn b_value (50 * u + i)) (kn b_size) (kn b_list) (fun i => ¬ b_library i = 0) nl = ((lk_T (fun u i => kn b_kind (50 * u + i)) (fun u i => kn b_value (50 * u + i)) (kn b_size) (kn b_list) (fun i => ¬ b_library i = 0) nl).1, (lk_T (fun u i => kn b_kind (50 * u + i)) (fun u i => kn b_value (50 * u + i)) (kn b_size) (kn b_list) (fun i => ¬ b_library i = 0) nl).2) := rfl
  revert hT hinj hin
  generalize (lk_T (fun u i => kn b_kind (50 * u + i)) (fun u i => kn b_value (50 * u + i)) (kn b_size) (kn b_list) (fun i => ¬ b_library i = 0) nl).1 = n
  generalize (lk_T (fun u i => kn b_kind (50 * u + i)) (fun u i => kn b_value (50 * u + i)) (kn b_size) (kn b_list) (fun i => ¬ b_library i = 0) nl).2 = tk
  intro hinj hin hT
  have hn5 : n ≤ 5 := by have := hin.1; omega
  have hdr : ∀ (kd vl sz : Nat → Int32), (∀ j, j < 300 → kd j = b_kind j ∧ vl j = b_value j) → sz 5 = b_size 5 → rl_dr (nI c) a_draftKind a_draftValue kd vl sz := by
    intro kd vl sz h1 h2
    refine ⟨c, c1, rfl, by rw [h2]; exact c3, fun i hi => ?_⟩
    have ek : kn kd (250 + i) = kn b_kind (250 + i) := congrArg Int32.toNatClampNeg (h1 _ (by omega)).1
    rw [ek, (h1 _ (by omega)).1, (h1 _ (by omega)).2]
    exact c4 i hi
  have hun : ∀ (kd vl sz : Nat → Int32), (∀ j, j < 300 → kd j = b_kind j ∧ vl j = b_value j) → (∀ r, r < 6 → sz r = b_size r) → rl_un a_unitKind a_unitValue a_unitPartner a_unitLength kd vl sz := by
    intro kd vl sz h1 h2 u hu
    obtain ⟨cu, a, b, d⟩ := i2 u hu
    have := d.1
    exact ⟨cu, a, by rw [h2 u (by omega)]; exact b, rl_row_ext d (fun i hi => ⟨rfl, rfl, rfl⟩) (fun i hi => h1 _ (by omega))⟩
  refine xl_link l1 rfl hlst hlib hX (fun u hu i j hij hj => (hM u hu).2.2.2.2.2.1 i j hij hj) (fun u hu t ht => (hM u hu).2.2.2.2.2.2 t ht) hT hinj (fun r cul tu de du wa hZ hr => ?_) (fun cul tu de du wa ck cv cp fo po mem hZ hco hV => ?_)
  · refine yl_link l1 rfl hlst hlib hU i4 hT hZ (fun _ kd vl sz hG => ⟨rfl, i_mk ⟨hdr kd vl sz hG.1 (hG.2.1 5 (by omega)), hun kd vl sz hG.1 hG.2.1, ⟨0, by omega, rfl, rfl, rfl, rfl, l6, fun i j _ hj => absurd hj (Nat.not_lt_zero _)⟩, hG.2.2.2.2.2, ⟨n0, m0, tk0, ln0, D0, B0, pr0, pR_ext (xMS_e.trans xMS_e.symm) (xCK_e.trans xCK_e.symm) (xCV_e.trans xCV_e.symm) (xCP_e.trans xCP_e.symm) (xFO_e.trans xFO_e.symm) (xPO_e.trans xPO_e.symm) (yUN_e.trans yUN_e.symm) (yUS_e.trans yUS_e.symm) (yPL_e.trans yPL_e.symm) (fun j hj => ?_) (fun r hr => ?_) hR, hm⟩, i6, rfl, i8.1, i8.2⟩⟩) (fun z => absurd z hr)
    · rw [yK_e, yK_e, yV_e, yV_e]; exact hG.2.2.2.1 j hj
    · rw [yS_e, yS_e]; exact hG.2.2.2.2.1 r hr
  · refine yl_link l1 rfl hlst hlib hU i4 hT hZ (fun z => absurd rfl z) (fun _ kd0 vl0 sz0 kd vl sz pl my hG hC hw hpl hmy => ⟨rfl, ?_⟩)
    have hall : ∀ nm, nm < 12 → lk_R (fun k => (fun u i => kn b_kind (50 * u + i)) (tk k)) (fun k => (fun u i => kn b_value (50 * u + i)) (tk k)) (fun k => kn b_size (tk k)) nm n 0 := by
      rcases hZ with ⟨_, _, _, _, h, _⟩ | ⟨_, ⟨_, _, h, _⟩ | ⟨h, _⟩⟩
      · exact absurd h (by decide)
      · exact absurd rfl h
      · exact h
    have hlow : ∀ j, j < 300 → kd j = b_kind j ∧ vl j = b_value j := fun j hj => by
      rw [(hC.1 j (by omega)).1, (hC.1 j (by omega)).2]; exact hG.1 j hj
    have hsz : ∀ r, r < 6 → sz r = b_size r := fun r hr => by rw [hC.2.1 r (by omega)]; exact hG.2.1 r hr
    have hrows : ∀ k, k < n → ∀ i, i < 50 → kd (550 + 50 * k + i) = b_kind (50 * tk k + i) ∧ vl (550 + 50 * k + i) = b_value (50 * tk k + i) := fun k hk i hi => by
      rw [((hC.2.2.1 k hk).2 i hi).1, ((hC.2.2.1 k hk).2 i hi).2]
      exact (hG.2.2.1 k hk).2 i hi
    have hpr := @ln_pR (nI c, f_openCount, f_operandsDue, f_faultPlace, 0, nI n, cul, nI (lk_o (fun k => (fun u i => kn b_kind (50 * u + i)) (tk k)) (fun k => (fun u i => kn b_value (50 * u + i)) (tk k)) (fun k => kn b_size (tk k)) n (50 * n)), f_operandCount, f_pendingCount, f_frameCount, f_next, f_outcome, f_lastResult, f_stepCount, a_draftKind, a_draftValue, a_draftPartner, a_openBlock, a_unitKind, a_unitValue, a_unitPartner, a_unitLength, b_list, b_library, tu, de, du, wa, ck, cv, cp, fo, po, mem, a_operands, a_pendingToken, a_pendingDue, a_locals, a_returnTo) (g_place, cul, 0, nI n, nI n, nI (lk_o (fun k => (fun u i => kn b_kind (50 * u + i)) (tk k)) (fun k => (fun u i => kn b_value (50 * u + i)) (tk k)) (fun k => kn b_size (tk k)) n (50 * n)), g_depth, g_waiting, g_held, g_fault, g_steps, g_result, g_given, g_gift, g_has, kd, vl, sz, b_list, b_library, pl, my, b_wanted, b_pc, b_base, b_locals, b_waits, b_got, b_values) (fun u i => kn b_kind (50 * u + i)) (fun u i => kn b_value (50 * u + i)) (kn b_size) tk n (fun k i => b_value (50 * tk k + i)) hn5 hin.2 hw hall (yUN_e) (yUS_e) (xMS_e) (fun k hk => ?_) (fun nm hnm => ?_) (fun nm hnm => ?_) (fun nm hnm => ?_)
    · obtain ⟨D, B, pr, hpR⟩ := hpr
      refine i_mk ⟨hdr kd vl sz hlow (hsz 5 (by omega)), hun kd vl sz hlow hsz, ⟨0, by omega, rfl, rfl, rfl, rfl, l6, fun i j _ hj => absurd hj (Nat.not_lt_zero _)⟩, hC.2.2.2, ⟨n, _, tk, _, D, B, pr, hpR, ?_⟩, i6, rfl, i8.1, i8.2⟩
      refine lk_m_eq (50 * n) hV.2.2 hmy (fun d hd hdt => ?_)
      have hdt' := of_decide_eq_true hdt
      have hk : d / 50 < n := by omega
      have h5 := hin.2 _ hk
      have hrow := (hM _ h5).2.2
      have h1 : d % 50 < kn b_size (tk (d / 50)) := hdt'.1
      have h2 : d % 50 + 1 < kn b_size (tk (d / 50)) := hrow.2.2.2.2 _ h1 hdt'.2.1
      have h50 := hrow.1
      have e1 := (hrow.2.1 _ h2).2.1
      have e2 := ((hG.2.2.1 _ hk).2 (d % 50 + 1) (by omega)).2
      show a_unitValue (50 * tk (d / 50) + d % 50 + 1) = vl0 (301 + d)
      rw [show 301 + d = 300 + 50 * (d / 50) + (d % 50 + 1) by omega, e2]
      exact e1
    · have h5 := hin.2 k hk
      have hrow := (hM _ h5).2.2
      have h50 := hrow.1
      refine ⟨h50, ?_, fun i hi => ?_, ?_⟩
      · rw [yS_e, (hC.2.2.1 k hk).1, (hG.2.2.1 k hk).1]; exact (hM _ h5).2.1
      · obtain ⟨a, b, d, e⟩ := hrow.2.1 i hi
        obtain ⟨r1, r2⟩ := hrows k hk i (by omega)
        rw [xCK_e, xCV_e, yK_e, yV_e, (hco _ (by omega)).1, (hco _ (by omega)).2.1, a, b, r1, r2]
        exact ⟨d, d, rfl, rfl, e, rfl⟩
      · refine wf_U_ext hrow.2.2.1 (fun i hi => ⟨rfl, rfl, ?_⟩)
        rw [xCP_e]
        exact (hco _ (by omega)).2.2
    · rw [xPO_e]; exact (hV.2.1 nm hnm).1
    · rw [yPL_e]; exact hpl nm hnm
    · rw [xFO_e]; exact (hV.2.1 nm hnm).2
end
section
/-! parameters and run: the owed rows -/
def poX (post : Int32 → SX → Prop) (u : SX) : Prop := match u with
  | (f_draftCount, f_openCount, f_operandsDue, f_faultPlace, f_listCount, f_takenCount, f_culpritName, f_memorySize, f_operandCount, f_pendingCount, f_frameCount, f_next, f_outcome, f_lastResult, f_stepCount, a_draftKind, a_draftValue, a_draftPartner, a_openBlock, a_unitKind, a_unitValue, a_unitPartner, a_unitLength, a_listedUnit, a_listedAsLibrary, a_takenUnit, a_definition, a_isDuplicate, a_isWanted, a_codeKind, a_codeValue, a_codePartner, a_functionOf, a_placeOf, a_memory, a_operands, a_pendingToken, a_pendingDue, a_locals, a_returnTo) => post f_outcome (f_draftCount, f_openCount, f_operandsDue, f_faultPlace, f_listCount, f_takenCount, f_culpritName, f_memorySize, f_operandCount, f_pendingCount, f_frameCount, f_next, f_outcome, f_lastResult, f_stepCount, a_draftKind, a_draftValue, a_draftPartner, a_openBlock, a_unitKind, a_unitValue, a_unitPartner, a_unitLength, a_listedUnit, a_listedAsLibrary, a_takenUnit, a_definition, a_isDuplicate, a_isWanted, a_codeKind, a_codeValue, a_codePartner, a_functionOf, a_placeOf, a_memory, a_operands, a_pendingToken, a_pendingDue, a_locals, a_returnTo)
def bgY (post : Int32 → SY → Prop) (u : SY) : Prop := match u with
  | (g_place, g_culprit, g_listed, g_units, g_taken, g_used, g_depth, g_waiting, g_held, g_fault, g_steps, g_result, g_given, g_gift, g_has, b_kind, b_value, b_size, b_list, b_library, b_places, b_memory, b_wanted, b_pc, b_base, b_locals, b_waits, b_got, b_values) => ∃ n79 : Nat, wY_run_79 post n79 g_place g_culprit g_listed g_units g_taken g_used g_depth g_waiting g_held g_fault g_steps g_result g_given g_gift 0 b_kind b_value b_size b_list b_library b_places b_memory b_wanted b_pc b_base b_locals b_waits b_got b_values
/-- a name that is a function -/
def fnm (Z : SY) (n : Nat) (ln : Nat → Nat) (nm d : Nat) : Prop := lk_b (pK Z) (pV Z) ln nm n = some d ∧ pK Z (d / 50) (d % 50) = 28
section
variable {E : SX} {Z : SY} {n m : Nat} {tk ln : Nat → Nat} {D B pr : Nat → Nat → Nat}
theorem fn_in (hR : pR E Z n m tk ln D B pr) {nm d : Nat} (h : fnm Z n ln nm d) : d / 50 < n ∧ d % 50 < ln (d / 50) ∧ tk (d / 50) < 5 ∧ ln (d / 50) ≤ 50 ∧ yV Z (550 + d) = nI (pV Z (d / 50) (d % 50)) ∧ yK Z (550 + d) = 28 ∧ xCV E (50 * tk (d / 50) + d % 50) = nI (pV Z (d / 50) (d % 50)) ∧ pV Z (d / 50) (d % 50) < 256 := by
  have hd := lk_b_in (fun k hk => (pR_rows hR k hk).1) h.1
  obtain ⟨a, b, _, c, _⟩ := hR.2.2.2.2.2.1 _ hd.1
  obtain ⟨_, c2, c3, c4⟩ := c _ hd.2.1
  obtain ⟨v1, v2, v3⟩ := tw_V c4 (Or.inl h.2)
  have e : 550 + 50 * (d / 50) + d % 50 = 550 + d := by omega
  rw [e] at c2 c3 v1
  rw [h.2] at c2
  have ev : (yV Z (550 + d)).toNatClampNeg = pV Z (d / 50) (d % 50) := by
    show _ = (yV Z _).toNatClampNeg
    rw [e]
  rw [e, ev] at v2
  rw [ev] at v1
  exact ⟨hd.1, hd.2.1, a, b, v1, c2, c3.trans v1, v2⟩
theorem fn_fo (hR : pR E Z n m tk ln D B pr) {nm d : Nat} (hnm : nm < 12) (h : fnm Z n ln nm d) : xFO E nm = nI (50 * tk (d / 50) + d % 50) := by
  have hd := lk_b_in (fun k hk => (pR_rows hR k hk).1) h.1
  rw [hR.2.2.2.2.2.2.2.1 nm hnm]
  unfold lk_q
  rw [h.1]
  exact if_pos ⟨h.2, by have := hd.1; omega⟩
theorem fn_no (hR : pR E Z n m tk ln D B pr) {nm : Nat} (hnm : nm < 12) (h : ¬ ∃ d, fnm Z n ln nm d) : xFO E nm = -1 := by
  rw [hR.2.2.2.2.2.2.2.1 nm hnm]
  unfold lk_q
  cases e : lk_b (pK Z) (pV Z) ln nm n with
  | none => rfl
  | some d => exact if_neg (fun q => h ⟨d, e, q.1⟩)
end
section
variable {f_draftCount f_openCount f_operandsDue f_faultPlace f_listCount f_takenCount f_culpritName f_memorySize f_operandCount f_pendingCount f_frameCount f_next f_outcome f_lastResult f_stepCount : Int32} {a_draftKind a_draftValue a_draftPartner a_openBlock a_unitKind a_unitValue a_unitPartner a_unitLength a_listedUnit a_listedAsLibrary a_takenUnit a_definition a_isDuplicate a_isWanted a_codeKind a_codeValue a_codePartner a_functionOf a_placeOf a_memory a_operands a_pendingToken a_pendingDue a_locals a_returnTo : Nat → Int32}
variable {Z : SY} {n m : Nat} {tk ln : Nat → Nat} {D B pr : Nat → Nat → Nat}
theorem x_par {post : Int32 → Prop} {v : Int32} (hR : pR (f_draftCount, f_openCount, f_operandsDue, f_faultPlace, f_listCount, f_takenCount, f_culpritName, f_memorySize, f_operandCount, f_pendingCount, f_frameCount, f_next, f_outcome, f_lastResult, f_stepCount, a_draftKind, a_draftValue, a_draftPartner, a_openBlock, a_unitKind, a_unitValue, a_unitPartner, a_unitLength, a_listedUnit, a_listedAsLibrary, a_takenUnit, a_definition, a_isDuplicate, a_isWanted, a_codeKind, a_codeValue, a_codePartner, a_functionOf, a_placeOf, a_memory, a_operands, a_pendingToken, a_pendingDue, a_locals, a_returnTo) Z n m tk ln D B pr) (h1 : ∀ nm d, nm < 12 → v = nI nm → fnm Z n ln nm d → post (nI (pV Z (d / 50) (d % 50) / 16 % 4))) (h2 : ∀ nm, nm < 12 → v = nI nm → (¬ ∃ d, fnm Z n ln nm d) → post (-1)) (h0 : (v < 0 ∨ nI 12 ≤ v) → post (-1)) : wpX_parameters post (f_draftCount, f_openCount, f_operandsDue, f_faultPlace, f_listCount, f_takenCount, f_culpritName, f_memorySize, f_operandCount, f_pendingCount, f_frameCount, f_next, f_outcome, f_lastResult, f_stepCount, a_draftKind, a_draftValue, a_draftPartner, a_openBlock, a_unitKind, a_unitValue, a_unitPartner, a_unitLength, a_listedUnit, a_listedAsLibrary, a_takenUnit, a_definition, a_isDuplicate, a_isWanted, a_codeKind, a_codeValue, a_codePartner, a_functionOf, a_placeOf, a_memory, a_operands, a_pendingToken, a_pendingDue, a_locals, a_returnTo) v := by
  unfold wpX_parameters
  refine x_name (fun nm hnm e => br_f (by decide) ⟨pk_in nm 12 hnm e, ?_⟩) (fun z => br_t rfl (h0 z))
  rw [ba_cl e (by omega)]
  by_cases hd : ∃ d, fnm Z n ln nm d
  · obtain ⟨d, hd⟩ := hd
    obtain ⟨b1, b2, b3, b4, b5, b6, b7, b8⟩ := fn_in hR hd
    have hfo := fn_fo hR hnm hd
    rw [xFO_e] at hfo
    rw [xCV_e] at b7
    rw [hfo]
    refine br_f (ba_m1 (by omega)) ⟨pk_in nm 12 hnm e, pk_in (50 * tk (d / 50) + d % 50) 250 (by omega), ?_⟩
    rw [nI_clamp (show 50 * tk (d / 50) + d % 50 < 2 ^ 31 by omega)]
    refine x_cnt (a := pV Z (d / 50) (d % 50) / 16 % 4) (by rw [b7, ba_cnt (by omega)]) (h1 nm d hnm e hd)
  · have hfo := fn_no hR hnm hd
    rw [xFO_e] at hfo
    exact br_t hfo (h2 nm hnm e hd)
theorem x_run {post : Int32 → SX → Prop} {v1 v2 v3 v4 : Int32} (hR : pR (f_draftCount, f_openCount, f_operandsDue, f_faultPlace, f_listCount, f_takenCount, f_culpritName, f_memorySize, f_operandCount, f_pendingCount, f_frameCount, f_next, f_outcome, f_lastResult, f_stepCount, a_draftKind, a_draftValue, a_draftPartner, a_openBlock, a_unitKind, a_unitValue, a_unitPartner, a_unitLength, a_listedUnit, a_listedAsLibrary, a_takenUnit, a_definition, a_isDuplicate, a_isWanted, a_codeKind, a_codeValue, a_codePartner, a_functionOf, a_placeOf, a_memory, a_operands, a_pendingToken, a_pendingDue, a_locals, a_returnTo) Z n m tk ln D B pr) (h1 : ∀ nm d, nm < 12 → v1 = nI nm → fnm Z n ln nm d → ∃ f, wkX (poX post) f (nI 0) (mX (f_draftCount, f_openCount, f_operandsDue, f_faultPlace, f_listCount, f_takenCount, f_culpritName, f_memorySize, f_operandCount, f_pendingCount, f_frameCount, f_next, f_outcome, f_lastResult, f_stepCount, a_draftKind, a_draftValue, a_draftPartner, a_openBlock, a_unitKind, a_unitValue, a_unitPartner, a_unitLength, a_listedUnit, a_listedAsLibrary, a_takenUnit, a_definition, a_isDuplicate, a_isWanted, a_codeKind, a_codeValue, a_codePartner, a_functionOf, a_placeOf, a_memory, a_operands, a_pendingToken, a_pendingDue, a_locals, a_returnTo) (nI 0) (nI 0) (nI 1) (nI (50 * tk (d / 50) + d % 50 + 1)) (-2) 0 (nI 1) a_memory (upd (upd (upd a_operands 0 v2) 1 v3) 2 v4) a_pendingToken a_pendingDue (mlo a_locals (upd (upd (upd a_operands 0 v2) 1 v3) 2 v4) 0 0 (pV Z (d / 50) (d % 50) / 16 % 4)) (upd a_returnTo 0 (nI 0)))) (h2 : ∀ nm, nm < 12 → v1 = nI nm → (¬ ∃ d, fnm Z n ln nm d) → post (-1) (f_draftCount, f_openCount, f_operandsDue, f_faultPlace, f_listCount, f_takenCount, f_culpritName, f_memorySize, f_operandCount, f_pendingCount, f_frameCount, f_next, f_outcome, 0, f_stepCount, a_draftKind, a_draftValue, a_draftPartner, a_openBlock, a_unitKind, a_unitValue, a_unitPartner, a_unitLength, a_listedUnit, a_listedAsLibrary, a_takenUnit, a_definition, a_isDuplicate, a_isWanted, a_codeKind, a_codeValue, a_codePartner, a_functionOf, a_placeOf, a_memory, a_operands, a_pendingToken, a_pendingDue, a_locals, a_returnTo)) (h0 : (v1 < 0 ∨ nI 12 ≤ v1) → post (-1) (f_draftCount, f_openCount, f_operandsDue, f_faultPlace, f_listCount, f_takenCount, f_culpritName, f_memorySize, f_operandCount, f_pendingCount, f_frameCount, f_next, f_outcome, 0, f_stepCount, a_draftKind, a_draftValue, a_draftPartner, a_openBlock, a_unitKind, a_unitValue, a_unitPartner, a_unitLength, a_listedUnit, a_listedAsLibrary, a_takenUnit, a_definition, a_isDuplicate, a_isWanted, a_codeKind, a_codeValue, a_codePartner, a_functionOf, a_placeOf, a_memory, a_operands, a_pendingToken, a_pendingDue, a_locals, a_returnTo)) : wpX_run post (f_draftCount, f_openCount, f_operandsDue, f_faultPlace, f_listCount, f_takenCount, f_culpritName, f_memorySize, f_operandCount, f_pendingCount, f_frameCount, f_next, f_outcome, f_lastResult, f_stepCount, a_draftKind, a_draftValue, a_draftPartner, a_openBlock, a_unitKind, a_unitValue, a_unitPartner, a_unitLength, a_listedUnit, a_listedAsLibrary, a_takenUnit, a_definition, a_isDuplicate, a_isWanted, a_codeKind, a_codeValue, a_codePartner, a_functionOf, a_placeOf, a_memory, a_operands, a_pendingToken, a_pendingDue, a_locals, a_returnTo) v1 v2 v3 v4 := by
  unfold wpX_run
  refine x_name (fun nm hnm e => br_f (by decide) ⟨pk_in nm 12 hnm e, ?_⟩) (fun z => br_t rfl (h0 z))
  rw [ba_cl e (by omega)]
  by_cases hd : ∃ d, fnm Z n ln nm d
  · obtain ⟨d, hd⟩ := hd
    obtain ⟨b1, b2, b3, b4, b5, b6, b7, b8⟩ := fn_in hR hd
    have hfo := fn_fo hR hnm hd
    have hfo' := hfo
    have b7' := b7
    rw [xFO_e] at hfo'
    rw [xCV_e] at b7'
    rw [hfo']
    refine br_f (ba_m1 (by omega)) (nm_e (nm_e (nm_e ⟨pk_in nm 12 hnm e, pk_in (50 * tk (d / 50) + d % 50) 250 (by omega), ?_⟩)))
    rw [nI_clamp (show 50 * tk (d / 50) + d % 50 < 2 ^ 31 by omega)]
    refine x_cnt (a := pV Z (d / 50) (d % 50) / 16 % 4) (by rw [b7', ba_cnt (by omega)]) ?_
    have key : wpX_beginFunction (fun u => ∃ f, wkX (poX post) f (nI 0) u) (mX (f_draftCount, f_openCount, f_operandsDue, f_faultPlace, f_listCount, f_takenCount, f_culpritName, f_memorySize, f_operandCount, f_pendingCount, f_frameCount, f_next, f_outcome, f_lastResult, f_stepCount, a_draftKind, a_draftValue, a_draftPartner, a_openBlock, a_unitKind, a_unitValue, a_unitPartner, a_unitLength, a_listedUnit, a_listedAsLibrary, a_takenUnit, a_definition, a_isDuplicate, a_isWanted, a_codeKind, a_codeValue, a_codePartner, a_functionOf, a_placeOf, a_memory, a_operands, a_pendingToken, a_pendingDue, a_locals, a_returnTo) (nI (0 + pV Z (d / 50) (d % 50) / 16 % 4)) (nI 0) (nI 0) (nI 0) (-2) 0 (nI 0) a_memory (upd (upd (upd a_operands 0 v2) 1 v3) 2 v4) a_pendingToken a_pendingDue a_locals a_returnTo) (nI nm) :=
      x_begin (by omega) (by omega) hnm (by omega) (by omega) (by omega) hfo (by rw [b7, ba_cnt (by omega)]) (fun z => absurd z (by omega)) (fun _ z => absurd z (by omega)) (fun _ _ => h1 nm d hnm e hd)
    rw [Nat.zero_add, ← e] at key
    exact key
  · have hfo := fn_no hR hnm hd
    rw [xFO_e] at hfo
    exact br_t hfo (h2 nm hnm e hd)
end
section
variable {g_place g_culprit g_listed g_units g_taken g_used g_depth g_waiting g_held g_fault g_steps g_result g_given g_gift g_has : Int32} {b_kind b_value b_size b_list b_library b_places b_memory b_wanted b_pc b_base b_locals b_waits b_got b_values : Nat → Int32}
variable {E : SX} {n m : Nat} {tk ln : Nat → Nat} {D B pr : Nat → Nat → Nat}
theorem y_par {post : Int32 → Prop} {v : Int32} (hR : pR E (g_place, g_culprit, g_listed, g_units, g_taken, g_used, g_depth, g_waiting, g_held, g_fault, g_steps, g_result, g_given, g_gift, g_has, b_kind, b_value, b_size, b_list, b_library, b_places, b_memory, b_wanted, b_pc, b_base, b_locals, b_waits, b_got, b_values) n m tk ln D B pr) (h1 : ∀ nm d, nm < 12 → v = nI nm → fnm (g_place, g_culprit, g_listed, g_units, g_taken, g_used, g_depth, g_waiting, g_held, g_fault, g_steps, g_result, g_given, g_gift, g_has, b_kind, b_value, b_size, b_list, b_library, b_places, b_memory, b_wanted, b_pc, b_base, b_locals, b_waits, b_got, b_values) n ln nm d → post (nI (pV (g_place, g_culprit, g_listed, g_units, g_taken, g_used, g_depth, g_waiting, g_held, g_fault, g_steps, g_result, g_given, g_gift, g_has, b_kind, b_value, b_size, b_list, b_library, b_places, b_memory, b_wanted, b_pc, b_base, b_locals, b_waits, b_got, b_values) (d / 50) (d % 50) / 16 % 4))) (h2 : ∀ nm, nm < 12 → v = nI nm → (¬ ∃ d, fnm (g_place, g_culprit, g_listed, g_units, g_taken, g_used, g_depth, g_waiting, g_held, g_fault, g_steps, g_result, g_given, g_gift, g_has, b_kind, b_value, b_size, b_list, b_library, b_places, b_memory, b_wanted, b_pc, b_base, b_locals, b_waits, b_got, b_values) n ln nm d) → post (-1)) (h0 : (v < 0 ∨ nI 12 ≤ v) → post (-1)) : wpY_parameters post (g_place, g_culprit, g_listed, g_units, g_taken, g_used, g_depth, g_waiting, g_held, g_fault, g_steps, g_result, g_given, g_gift, g_has, b_kind, b_value, b_size, b_list, b_library, b_places, b_memory, b_wanted, b_pc, b_base, b_locals, b_waits, b_got, b_values) v := by
  have hun : g_units = nI n := hR.2.2.1
  have hrows := pR_rows hR
  rw [yK_e, yV_e, yS_e] at hrows
  have hn5 := hR.1
  unfold wpY_parameters
  refine y_outs (m := 12) (by omega) (fun nm hnm e => br_t rfl ?_) (fun z => br_f (by decide) (br_t (by decide) (h0 z)))
  rw [hun, e]
  refine yl_def (f := 11) (K := pK (g_place, g_culprit, g_listed, g_units, g_taken, g_used, g_depth, g_waiting, g_held, g_fault, g_steps, g_result, g_given, g_gift, g_has, b_kind, b_value, b_size, b_list, b_library, b_places, b_memory, b_wanted, b_pc, b_base, b_locals, b_waits, b_got, b_values)) (V := pV (g_place, g_culprit, g_listed, g_units, g_taken, g_used, g_depth, g_waiting, g_held, g_fault, g_steps, g_result, g_given, g_gift, g_has, b_kind, b_value, b_size, b_list, b_library, b_places, b_memory, b_wanted, b_pc, b_base, b_locals, b_waits, b_got, b_values)) (L := ln) (by omega) (by omega) hrows ?_
  by_cases hd : ∃ d, fnm (g_place, g_culprit, g_listed, g_units, g_taken, g_used, g_depth, g_waiting, g_held, g_fault, g_steps, g_result, g_given, g_gift, g_has, b_kind, b_value, b_size, b_list, b_library, b_places, b_memory, b_wanted, b_pc, b_base, b_locals, b_waits, b_got, b_values) n ln nm d
  · obtain ⟨d, hd⟩ := hd
    obtain ⟨b1, b2, b3, b4, b5, b6, b7, b8⟩ := fn_in hR hd
    rw [yV_e] at b5
    rw [yK_e] at b6
    have hin : vp_in (nI (550 + d)) 800 := pk_in (550 + d) 800 (by omega)
    have ec : (nI (550 + d)).toNatClampNeg = 550 + d := nI_clamp (by omega)
    rw [hd.1]
    have := h1 nm d hnm e hd
    refine br_f (nI_pos (by omega)) ⟨hin, br_t (by show b_kind (nI (550 + d)).toNatClampNeg = 28; rw [ec, b6]) ⟨hin, ?_⟩⟩
    show post ((b_value (nI (550 + d)).toNatClampNeg >>> ((4 : Int32) &&& 31)) &&& 3)
    rw [ec, b5, ba_cnt (by omega)]
    exact this
  · cases eb : lk_b (pK (g_place, g_culprit, g_listed, g_units, g_taken, g_used, g_depth, g_waiting, g_held, g_fault, g_steps, g_result, g_given, g_gift, g_has, b_kind, b_value, b_size, b_list, b_library, b_places, b_memory, b_wanted, b_pc, b_base, b_locals, b_waits, b_got, b_values)) (pV (g_place, g_culprit, g_listed, g_units, g_taken, g_used, g_depth, g_waiting, g_held, g_fault, g_steps, g_result, g_given, g_gift, g_has, b_kind, b_value, b_size, b_list, b_library, b_places, b_memory, b_wanted, b_pc, b_base, b_locals, b_waits, b_got, b_values)) ln nm n with
    | none => exact br_t (by decide) (h2 nm hnm e hd)
    | some d =>
      have hdi := lk_b_in (fun k hk => (pR_rows hR k hk).1) eb
      obtain ⟨_, h50, _, hT, _⟩ := hR.2.2.2.2.2.1 _ hdi.1
      obtain ⟨_, c2, _, c4⟩ := hT _ hdi.2.1
      rw [yK_e, show 550 + 50 * (d / 50) + d % 50 = 550 + d by omega] at c2
      have h9 := c4.1
      have hin : vp_in (nI (550 + d)) 800 := pk_in (550 + d) 800 (by omega)
      have ec : (nI (550 + d)).toNatClampNeg = 550 + d := nI_clamp (by omega)
      refine br_f (nI_pos (by omega)) ⟨hin, br_f ?_ (h2 nm hnm e hd)⟩
      show ¬ b_kind (nI (550 + d)).toNatClampNeg = 28
      rw [ec, c2]
      exact ba_ne (b := 28) (by omega) (by omega) (fun z => hd ⟨d, eb, z⟩)
theorem y_run {post : Int32 → SY → Prop} {v1 v2 v3 v4 : Int32} (hR : pR E (g_place, g_culprit, g_listed, g_units, g_taken, g_used, g_depth, g_waiting, g_held, g_fault, g_steps, 0, g_given, g_gift, g_has, b_kind, b_value, b_size, b_list, b_library, b_places, b_memory, b_wanted, b_pc, b_base, b_locals, b_waits, b_got, b_values) n m tk ln D B pr) (h1 : ∀ nm d, nm < 12 → v1 = nI nm → fnm (g_place, g_culprit, g_listed, g_units, g_taken, g_used, g_depth, g_waiting, g_held, g_fault, g_steps, 0, g_given, g_gift, g_has, b_kind, b_value, b_size, b_list, b_library, b_places, b_memory, b_wanted, b_pc, b_base, b_locals, b_waits, b_got, b_values) n ln nm d → ∃ f, wkY post f (mY (g_place, g_culprit, g_listed, g_units, g_taken, g_used, g_depth, g_waiting, g_held, g_fault, g_steps, 0, g_given, g_gift, g_has, b_kind, b_value, b_size, b_list, b_library, b_places, b_memory, b_wanted, b_pc, b_base, b_locals, b_waits, b_got, b_values) (nI 1) (nI 0) (nI 0) 0 (nI 1) 0 g_given g_gift 0 b_memory (upd b_pc 0 (nI (550 + d + 1))) (upd b_base 0 (nI 0)) (mlo b_locals (upd (upd (upd b_values 0 v2) 1 v3) 2 v4) 0 0 (pV (g_place, g_culprit, g_listed, g_units, g_taken, g_used, g_depth, g_waiting, g_held, g_fault, g_steps, 0, g_given, g_gift, g_has, b_kind, b_value, b_size, b_list, b_library, b_places, b_memory, b_wanted, b_pc, b_base, b_locals, b_waits, b_got, b_values) (d / 50) (d % 50) / 16 % 4)) b_waits b_got (upd (upd (upd b_values 0 v2) 1 v3) 2 v4))) (h2 : ∀ nm, nm < 12 → v1 = nI nm → (¬ ∃ d, fnm (g_place, g_culprit, g_listed, g_units, g_taken, g_used, g_depth, g_waiting, g_held, g_fault, g_steps, 0, g_given, g_gift, g_has, b_kind, b_value, b_size, b_list, b_library, b_places, b_memory, b_wanted, b_pc, b_base, b_locals, b_waits, b_got, b_values) n ln nm d) → post (-1) (g_place, g_culprit, g_listed, g_units, g_taken, g_used, g_depth, g_waiting, g_held, g_fault, g_steps, 0, g_given, g_gift, g_has, b_kind, b_value, b_size, b_list, b_library, b_places, b_memory, b_wanted, b_pc, b_base, b_locals, b_waits, b_got, b_values)) (h0 : (v1 < 0 ∨ nI 12 ≤ v1) → post (-1) (g_place, g_culprit, g_listed, g_units, g_taken, g_used, g_depth, g_waiting, g_held, g_fault, g_steps, 0, g_given, g_gift, g_has, b_kind, b_value, b_size, b_list, b_library, b_places, b_memory, b_wanted, b_pc, b_base, b_locals, b_waits, b_got, b_values)) : wpY_run post (g_place, g_culprit, g_listed, g_units, g_taken, g_used, g_depth, g_waiting, g_held, g_fault, g_steps, g_result, g_given, g_gift, g_has, b_kind, b_value, b_size, b_list, b_library, b_places, b_memory, b_wanted, b_pc, b_base, b_locals, b_waits, b_got, b_values) v1 v2 v3 v4 := by
  unfold wpY_run
  refine y_par hR (fun nm d hnm e hd => ?_) (fun nm hnm e hd => br_f (by decide) (h2 nm hnm e hd)) (fun z => br_f (by decide) (h0 z))
  refine br_t (nI_pos' (by omega)) (nm_e (nm_e (nm_e ?_)))
  obtain ⟨f, hf⟩ := h1 nm d hnm e hd
  have key : wpY_begin (bgY post) (mY (g_place, g_culprit, g_listed, g_units, g_taken, g_used, g_depth, g_waiting, g_held, g_fault, g_steps, 0, g_given, g_gift, g_has, b_kind, b_value, b_size, b_list, b_library, b_places, b_memory, b_wanted, b_pc, b_base, b_locals, b_waits, b_got, b_values) (nI 0) (nI 0) (nI (0 + pV (g_place, g_culprit, g_listed, g_units, g_taken, g_used, g_depth, g_waiting, g_held, g_fault, g_steps, 0, g_given, g_gift, g_has, b_kind, b_value, b_size, b_list, b_library, b_places, b_memory, b_wanted, b_pc, b_base, b_locals, b_waits, b_got, b_values) (d / 50) (d % 50) / 16 % 4)) 0 (nI 0) 0 g_given g_gift g_has b_memory b_pc b_base b_locals b_waits b_got (upd (upd (upd b_values 0 v2) 1 v3) 2 v4)) (nI nm) (nI (pV (g_place, g_culprit, g_listed, g_units, g_taken, g_used, g_depth, g_waiting, g_held, g_fault, g_steps, 0, g_given, g_gift, g_has, b_kind, b_value, b_size, b_list, b_library, b_places, b_memory, b_wanted, b_pc, b_base, b_locals, b_waits, b_got, b_values) (d / 50) (d % 50) / 16 % 4)) :=
    y_begin hR (by omega) (by omega) hnm (by omega) (by omega) (by omega) hd.1 (fun z => absurd z (by omega)) (fun _ z => absurd z (by omega)) (fun _ _ => ⟨f, hf⟩)
  rw [Nat.zero_add, ← e] at key
  exact key
end
end
section
/-! the last two owed rows -/
theorem i_vc_parameters {k : Nat} {u : SX} {v : SY} (I : i_Rel k u v) (hk : k + 5 ≤ 2560) (v1 : Int32) : wpX_parameters (fun r => wpY_parameters (fun r' => r' = r ∧ i_Rel (k + 5) u v) v v1) u v1 := by
  obtain ⟨f_draftCount, f_openCount, f_operandsDue, f_faultPlace, f_listCount, f_takenCount, f_culpritName, f_memorySize, f_operandCount, f_pendingCount, f_frameCount, f_next, f_outcome, f_lastResult, f_stepCount, a_draftKind, a_draftValue, a_draftPartner, a_openBlock, a_unitKind, a_unitValue, a_unitPartner, a_unitLength, a_listedUnit, a_listedAsLibrary, a_takenUnit, a_definition, a_isDuplicate, a_isWanted, a_codeKind, a_codeValue, a_codePartner, a_functionOf, a_placeOf, a_memory, a_operands, a_pendingToken, a_pendingDue, a_locals, a_returnTo⟩ := u
  obtain ⟨g_place, g_culprit, g_listed, g_units, g_taken, g_used, g_depth, g_waiting, g_held, g_fault, g_steps, g_result, g_given, g_gift, g_has, b_kind, b_value, b_size, b_list, b_library, b_places, b_memory, b_wanted, b_pc, b_base, b_locals, b_waits, b_got, b_values⟩ := v
  have I' := i_el I
  obtain ⟨_, _, _, _, ⟨n, m, tk, ln, D, B, pr, hR, hm⟩, _⟩ := I'
  refine x_par hR (fun nm d hnm e hd => y_par hR (fun nm' d' hnm' e' hd' => ⟨?_, I⟩) (fun nm' hnm' e' hd' => ?_) (fun z => absurd (ix_no (by omega) hnm e z) id)) (fun nm hnm e hd => y_par hR (fun nm' d' hnm' e' hd' => ?_) (fun _ _ _ _ => ⟨rfl, I⟩) (fun z => absurd (ix_no (by omega) hnm e z) id)) (fun z => y_par hR (fun nm' d' hnm' e' hd' => absurd (ix_no (by omega) hnm' e' z) id) (fun _ _ _ _ => ⟨rfl, I⟩) (fun _ => ⟨rfl, I⟩))
  · have en := ba_inj (by omega) (by omega) (e.symm.trans e')
    subst en
    have ed : d = d' := Option.some.inj (hd.1.symm.trans hd'.1)
    subst ed
    rfl
  · have en := ba_inj (by omega) (by omega) (e.symm.trans e')
    subst en
    exact absurd ⟨d, hd⟩ hd'
  · have en := ba_inj (by omega) (by omega) (e.symm.trans e')
    subst en
    exact absurd ⟨d', hd'⟩ hd
theorem i_vc_run {k : Nat} {u : SX} {v : SY} (I : i_Rel k u v) (hk : k + 5 ≤ 2560) (v1 : Int32) (v2 : Int32) (v3 : Int32) (v4 : Int32) : wpX_run (fun r u' => wpY_run (fun r' v' => r' = r ∧ i_Rel (k + 5) u' v') v v1 v2 v3 v4) u v1 v2 v3 v4 := by
  obtain ⟨f_draftCount, f_openCount, f_operandsDue, f_faultPlace, f_listCount, f_takenCount, f_culpritName, f_memorySize, f_operandCount, f_pendingCount, f_frameCount, f_next, f_outcome, f_lastResult, f_stepCount, a_draftKind, a_draftValue, a_draftPartner, a_openBlock, a_unitKind, a_unitValue, a_unitPartner, a_unitLength, a_listedUnit, a_listedAsLibrary, a_takenUnit, a_definition, a_isDuplicate, a_isWanted, a_codeKind, a_codeValue, a_codePartner, a_functionOf, a_placeOf, a_memory, a_operands, a_pendingToken, a_pendingDue, a_locals, a_returnTo⟩ := u
  obtain ⟨g_place, g_culprit, g_listed, g_units, g_taken, g_used, g_depth, g_waiting, g_held, g_fault, g_steps, g_result, g_given, g_gift, g_has, b_kind, b_value, b_size, b_list, b_library, b_places, b_memory, b_wanted, b_pc, b_base, b_locals, b_waits, b_got, b_values⟩ := v
  have I' := i_el I
  obtain ⟨i1, i2, i3, i4, ⟨n, m, tk, ln, D, B, pr, hR0, hm⟩, i6, i7, i8, i9, i10, i11⟩ := I'
  subst i10 i11
  have hR : pR (f_draftCount, f_openCount, f_operandsDue, f_faultPlace, f_listCount, f_takenCount, f_culpritName, f_memorySize, f_operandCount, f_pendingCount, f_frameCount, f_next, f_outcome, f_lastResult, f_stepCount, a_draftKind, a_draftValue, a_draftPartner, a_openBlock, a_unitKind, a_unitValue, a_unitPartner, a_unitLength, a_listedUnit, a_listedAsLibrary, a_takenUnit, a_definition, a_isDuplicate, a_isWanted, a_codeKind, a_codeValue, a_codePartner, a_functionOf, a_placeOf, a_memory, a_operands, a_pendingToken, a_pendingDue, a_locals, a_returnTo) (g_place, g_culprit, g_listed, g_units, g_taken, g_used, g_depth, g_waiting, g_held, g_fault, g_steps, 0, g_given, g_gift, g_has, b_kind, b_value, b_size, b_list, b_library, b_places, b_memory, b_wanted, b_pc, b_base, a_locals, b_waits, b_got, a_operands) n m tk ln D B pr := pR_ext (xMS_e.trans xMS_e.symm) (xCK_e.trans xCK_e.symm) (xCV_e.trans xCV_e.symm) (xCP_e.trans xCP_e.symm) (xFO_e.trans xFO_e.symm) (xPO_e.trans xPO_e.symm) (yUN_e.trans yUN_e.symm) (yUS_e.trans yUS_e.symm) (yPL_e.trans yPL_e.symm) (fun j _ => ⟨congrFun (yK_e.trans yK_e.symm) j, congrFun (yV_e.trans yV_e.symm) j⟩) (fun j _ => congrFun (yS_e.trans yS_e.symm) j) hR0
  have bad : i_Rel (k + 5) (f_draftCount, f_openCount, f_operandsDue, f_faultPlace, f_listCount, f_takenCount, f_culpritName, f_memorySize, f_operandCount, f_pendingCount, f_frameCount, f_next, f_outcome, 0, f_stepCount, a_draftKind, a_draftValue, a_draftPartner, a_openBlock, a_unitKind, a_unitValue, a_unitPartner, a_unitLength, a_listedUnit, a_listedAsLibrary, a_takenUnit, a_definition, a_isDuplicate, a_isWanted, a_codeKind, a_codeValue, a_codePartner, a_functionOf, a_placeOf, a_memory, a_operands, a_pendingToken, a_pendingDue, a_locals, a_returnTo) (g_place, g_culprit, g_listed, g_units, g_taken, g_used, g_depth, g_waiting, g_held, g_fault, g_steps, 0, g_given, g_gift, g_has, b_kind, b_value, b_size, b_list, b_library, b_places, b_memory, b_wanted, b_pc, b_base, a_locals, b_waits, b_got, a_operands) := i_mk ⟨i1, i2, i3, i4, ⟨n, m, tk, ln, D, B, pr, pR_ext (xMS_e.trans xMS_e.symm) (xCK_e.trans xCK_e.symm) (xCV_e.trans xCV_e.symm) (xCP_e.trans xCP_e.symm) (xFO_e.trans xFO_e.symm) (xPO_e.trans xPO_e.symm) (yUN_e.trans yUN_e.symm) (yUS_e.trans yUS_e.symm) (yPL_e.trans yPL_e.symm) (fun j _ => ⟨congrFun (yK_e.trans yK_e.symm) j, congrFun (yV_e.trans yV_e.symm) j⟩) (fun j _ => congrFun (yS_e.trans yS_e.symm) j) hR0, hm⟩, i6, i7, rfl, i9, rfl, rfl⟩
  have rel : ∀ (oc pc fc nx o lr sc de wa he gv gf ha : Int32) (me my op lc pt pd rt cp ba wt gt : Nat → Int32), (∀ i, i < m → me i = my i) → i_Rel (k + 5) (mX (f_draftCount, f_openCount, f_operandsDue, f_faultPlace, f_listCount, f_takenCount, f_culpritName, f_memorySize, f_operandCount, f_pendingCount, f_frameCount, f_next, f_outcome, f_lastResult, f_stepCount, a_draftKind, a_draftValue, a_draftPartner, a_openBlock, a_unitKind, a_unitValue, a_unitPartner, a_unitLength, a_listedUnit, a_listedAsLibrary, a_takenUnit, a_definition, a_isDuplicate, a_isWanted, a_codeKind, a_codeValue, a_codePartner, a_functionOf, a_placeOf, a_memory, a_operands, a_pendingToken, a_pendingDue, a_locals, a_returnTo) oc pc fc nx o lr sc me op pt pd lc rt) (mY (g_place, g_culprit, g_listed, g_units, g_taken, g_used, g_depth, g_waiting, g_held, g_fault, g_steps, 0, g_given, g_gift, g_has, b_kind, b_value, b_size, b_list, b_library, b_places, b_memory, b_wanted, b_pc, b_base, a_locals, b_waits, b_got, a_operands) de wa he o sc lr gv gf ha my cp ba lc wt gt op) := by
    intro oc pc fc nx o lr sc de wa he gv gf ha me my op lc pt pd rt cp ba wt gt hmm
    show i_Rel (k + 5) (f_draftCount, f_openCount, f_operandsDue, f_faultPlace, f_listCount, f_takenCount, f_culpritName, f_memorySize, oc, pc, fc, nx, o, lr, sc, a_draftKind, a_draftValue, a_draftPartner, a_openBlock, a_unitKind, a_unitValue, a_unitPartner, a_unitLength, a_listedUnit, a_listedAsLibrary, a_takenUnit, a_definition, a_isDuplicate, a_isWanted, a_codeKind, a_codeValue, a_codePartner, a_functionOf, a_placeOf, me, op, pt, pd, lc, rt) (g_place, g_culprit, g_listed, g_units, g_taken, g_used, de, wa, he, o, sc, lr, gv, gf, ha, b_kind, b_value, b_size, b_list, b_library, b_places, my, b_wanted, cp, ba, lc, wt, gt, op)
    exact i_mk ⟨i1, i2, i3, i4, ⟨n, m, tk, ln, D, B, pr, pR_ext (xMS_e.trans xMS_e.symm) (xCK_e.trans xCK_e.symm) (xCV_e.trans xCV_e.symm) (xCP_e.trans xCP_e.symm) (xFO_e.trans xFO_e.symm) (xPO_e.trans xPO_e.symm) (yUN_e.trans yUN_e.symm) (yUS_e.trans yUS_e.symm) (yPL_e.trans yPL_e.symm) (fun j _ => ⟨congrFun (yK_e.trans yK_e.symm) j, congrFun (yV_e.trans yV_e.symm) j⟩) (fun j _ => congrFun (yS_e.trans yS_e.symm) j) hR0, hmm⟩, i6, i7, rfl, rfl, rfl, rfl⟩
  refine x_run hR (fun nm d hnm e hd => ?_) (fun nm hnm e hd => y_run hR (fun nm' d' hnm' e' hd' => ?_) (fun _ _ _ _ => ⟨rfl, bad⟩) (fun z => absurd (ix_no (by omega) hnm e z) id)) (fun z => y_run hR (fun nm' d' hnm' e' hd' => absurd (ix_no (by omega) hnm' e' z) id) (fun _ _ _ _ => ⟨rfl, bad⟩) (fun _ => ⟨rfl, bad⟩))
  · obtain ⟨b1, b2, b3, b4, b5, b6, b7, b8⟩ := fn_in hR hd
    obtain ⟨_, _, _, _, kS, _⟩ := hR.2.2.2.2.2.1 _ b1
    have hp1 := kS.2.2.1 _ b2 hd.2
    have hpl : d % 50 + 1 < ln (d / 50) := by
      apply Classical.byContradiction
      intro z
      have ez : d % 50 + 1 = ln (d / 50) := by omega
      have := kS.1
      rw [← ez, hp1.1] at this
      omega
    have hwg := (wg_le (g_place, g_culprit, g_listed, g_units, g_taken, g_used, g_depth, g_waiting, g_held, g_fault, g_steps, 0, g_given, g_gift, g_has, b_kind, b_value, b_size, b_list, b_library, b_places, b_memory, b_wanted, b_pc, b_base, a_locals, b_waits, b_got, a_operands) (d / 50) (d % 50 + 1) 0 (by omega)).1
    have sim := s_all hR 1000000 0 (by omega) 0 (d / 50) (d % 50 + 1) 0 0 0 0 1 1 0 a_memory b_memory (upd (upd (upd a_operands 0 v2) 1 v3) 2 v4) (mlo a_locals (upd (upd (upd a_operands 0 v2) 1 v3) 2 v4) 0 0 (pV (g_place, g_culprit, g_listed, g_units, g_taken, g_used, g_depth, g_waiting, g_held, g_fault, g_steps, 0, g_given, g_gift, g_has, b_kind, b_value, b_size, b_list, b_library, b_places, b_memory, b_wanted, b_pc, b_base, a_locals, b_waits, b_got, a_operands) (d / 50) (d % 50) / 16 % 4)) a_pendingToken a_pendingDue b_waits b_got (upd a_returnTo 0 (nI 0)) (upd b_pc 0 (nI (550 + d + 1))) (upd b_base 0 (nI 0)) g_given g_gift
      ⟨b1, hpl, by omega, by omega, by omega, by rw [pk_us]; exact congrArg nI (by omega), pk_us, hm, by omega, by omega, ⟨hp1.2, rfl, by omega⟩, ⟨rfl, rfl, rfl⟩⟩ (by omega)
    obtain ⟨o, x', y', ⟨oc, pc, fc, nx, lr, sc, de, wa, he, gv, gf, ha, me, my, op, lc, pt, pd, rt, cp, ba, wt, gt, ex, ey, hmm⟩, hX, hY⟩ := sim
    subst ex ey
    refine hX (poX _) ?_
    show wpY_run (fun r' v' => r' = o ∧ i_Rel (k + 5) (mX (f_draftCount, f_openCount, f_operandsDue, f_faultPlace, f_listCount, f_takenCount, f_culpritName, f_memorySize, f_operandCount, f_pendingCount, f_frameCount, f_next, f_outcome, f_lastResult, f_stepCount, a_draftKind, a_draftValue, a_draftPartner, a_openBlock, a_unitKind, a_unitValue, a_unitPartner, a_unitLength, a_listedUnit, a_listedAsLibrary, a_takenUnit, a_definition, a_isDuplicate, a_isWanted, a_codeKind, a_codeValue, a_codePartner, a_functionOf, a_placeOf, a_memory, a_operands, a_pendingToken, a_pendingDue, a_locals, a_returnTo) oc pc fc nx o lr sc me op pt pd lc rt) v') (g_place, g_culprit, g_listed, g_units, g_taken, g_used, g_depth, g_waiting, g_held, g_fault, g_steps, g_result, g_given, g_gift, g_has, b_kind, b_value, b_size, b_list, b_library, b_places, b_memory, b_wanted, b_pc, b_base, a_locals, b_waits, b_got, a_operands) v1 v2 v3 v4
    refine y_run hR (fun nm' d' hnm' e' hd' => ?_) (fun nm' hnm' e' hd' => ?_) (fun z => absurd (ix_no (by omega) hnm e z) id)
    · have en := ba_inj (by omega) (by omega) (e.symm.trans e')
      subst en
      have ed : d = d' := Option.some.inj (hd.1.symm.trans hd'.1)
      subst ed
      exact hY _ ⟨rfl, rel oc pc fc nx o lr sc de wa he gv gf ha me my op lc pt pd rt cp ba wt gt hmm⟩
    · have en := ba_inj (by omega) (by omega) (e.symm.trans e')
      subst en
      exact absurd ⟨d, hd⟩ hd'
  · have en := ba_inj (by omega) (by omega) (e.symm.trans e')
    subst en
    exact absurd ⟨d', hd'⟩ hd
end
