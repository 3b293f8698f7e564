/-! linking as pure recursion over rows: K, V kinds and values, L lengths -/
def kn (a : Nat → Int32) (j : Nat) : Nat := (a j).toNatClampNeg
/-- the first definition of a name among the first t tokens of row k -/
def lk_f (K V : Nat → Nat → Nat) (k nm : Nat) : Nat → Option Nat
  | 0 => none
  | t + 1 => match lk_f K V k nm t with
    | some i => some i
    | none => if (K k t = 28 ∨ K k t = 29) ∧ V k t % 16 = nm then some t else none
def lk_w (K V : Nat → Nat → Nat) (k i : Nat) : Bool := if K k i = 28 then decide (64 ≤ V k i) else decide (128 ≤ V k i)
def lk_B1 (K V : Nat → Nat → Nat) (n : Nat) (old o : Option Nat) : Option Nat := match o with
  | none => old
  | some i => match old with
    | none => some (50 * n + i)
    | some c => if lk_w K V (c / 50) (c % 50) = true ∧ lk_w K V n i = false then some (50 * n + i) else some c
def lk_X1 (K V : Nat → Nat → Nat) (n : Nat) (old o : Option Nat) : Option Nat := match o with
  | none => old
  | some i => match old with
    | none => some (50 * n + i)
    | some c => if lk_w K V n i = false then some (50 * n + i) else some c
def lk_U1 (K V : Nat → Nat → Nat) (n : Nat) (du : Bool) (old o : Option Nat) : Bool := match o with
  | none => du
  | some i => match old with
    | none => du
    | some c => if lk_w K V n i = false ∧ lk_w K V (c / 50) (c % 50) = false then true else du
def lk_S1 (K V : Nat → Nat → Nat) (n s : Nat) (o : Option Nat) : Nat := match o with
  | none => s
  | some i => if lk_w K V n i = false then s + 1 else s
def lk_b (K V : Nat → Nat → Nat) (L : Nat → Nat) (nm : Nat) : Nat → Option Nat
  | 0 => none
  | n + 1 => lk_B1 K V n (lk_b K V L nm n) (lk_f K V n nm (L n))
def lk_x (K V : Nat → Nat → Nat) (L : Nat → Nat) (nm : Nat) : Nat → Option Nat
  | 0 => none
  | n + 1 => lk_X1 K V n (lk_x K V L nm n) (lk_f K V n nm (L n))
def lk_u (K V : Nat → Nat → Nat) (L : Nat → Nat) (nm : Nat) : Nat → Bool
  | 0 => false
  | n + 1 => lk_U1 K V n (lk_u K V L nm n) (lk_x K V L nm n) (lk_f K V n nm (L n))
def lk_s (K V : Nat → Nat → Nat) (L : Nat → Nat) (nm : Nat) : Nat → Nat
  | 0 => 0
  | n + 1 => lk_S1 K V n (lk_s K V L nm n) (lk_f K V n nm (L n))
def lk_D (K V : Nat → Nat → Nat) (k nm i : Nat) : Prop := (K k i = 28 ∨ K k i = 29) ∧ V k i % 16 = nm
def lk_Q (K V : Nat → Nat → Nat) (k nm i : Nat) : Prop := (K k i = 2 ∨ K k i = 3 ∨ K k i = 5) ∧ V k i % 16 = nm
def lk_W (K V : Nat → Nat → Nat) (L : Nat → Nat) (nm n : Nat) : Prop := ∃ k, k < n ∧ ∃ i, i < L k ∧ lk_Q K V k nm i
theorem lk_f_some {K V : Nat → Nat → Nat} {k nm : Nat} : ∀ {t i}, lk_f K V k nm t = some i → i < t ∧ lk_D K V k nm i ∧ ∀ j, j < i → ¬ lk_D K V k nm j := by
  intro t
  have hn : ∀ t, lk_f K V k nm t = none → ∀ j, j < t → ¬ lk_D K V k nm j := by
    intro t
    induction t with
    | zero => exact fun _ j h => absurd h (by omega)
    | succ t ih =>
      intro h j hj
      unfold lk_f at h
      split at h
      · exact nomatch h
      · rename_i e
        split at h
        · exact nomatch h
        · rename_i e2
          by_cases z : j = t
          · subst z; exact e2
          · exact ih e j (by omega)
  induction t with
  | zero => exact fun h => nomatch h
  | succ t ih =>
    intro i h
    unfold lk_f at h
    split at h
    · rename_i i' e
      cases h
      obtain ⟨a, b, c⟩ := ih e
      exact ⟨by omega, b, c⟩
    · rename_i e
      split at h
      · rename_i e2
        cases h
        exact ⟨by omega, e2, hn _ e⟩
      · exact nomatch h
theorem lk_f_none {K V : Nat → Nat → Nat} {k nm : Nat} : ∀ {t}, lk_f K V k nm t = none ↔ ∀ j, j < t → ¬ lk_D K V k nm j := by
  intro t
  constructor
  · induction t with
    | zero => exact fun _ j h => absurd h (by omega)
    | succ t ih =>
      intro h j hj
      unfold lk_f at h
      split at h
      · exact nomatch h
      · rename_i e
        split at h
        · exact nomatch h
        · rename_i e2
          by_cases z : j = t
          · subst z; exact e2
          · exact ih e j (by omega)
  · intro h
    cases e : lk_f K V k nm t with
    | none => rfl
    | some i =>
      have := lk_f_some e
      exact absurd this.2.1 (h i this.1)
theorem lk_f_succ_n {K V : Nat → Nat → Nat} {k nm t : Nat} (h : ¬ lk_D K V k nm t) : lk_f K V k nm (t + 1) = lk_f K V k nm t := by
  show (match lk_f K V k nm t with | some i => some i | none => _) = _
  cases e : lk_f K V k nm t with
  | some i => rfl
  | none => exact if_neg h
theorem lk_f_succ_d {K V : Nat → Nat → Nat} {k nm t : Nat} (h : lk_D K V k nm t) (hn : lk_f K V k nm t = none) : lk_f K V k nm (t + 1) = some t := by
  show (match lk_f K V k nm t with | some i => some i | none => _) = _
  rw [hn]
  exact if_pos h
theorem lk_f_cong {K V K' V' : Nat → Nat → Nat} {k k' nm : Nat} : ∀ {t}, (∀ i, i < t → K k i = K' k' i ∧ V k i = V' k' i) → lk_f K V k nm t = lk_f K' V' k' nm t := by
  intro t
  induction t with
  | zero => exact fun _ => rfl
  | succ t ih =>
    intro h
    have e := h t (by omega)
    show (match lk_f K V k nm t with | some i => some i | none => _) = (match lk_f K' V' k' nm t with | some i => some i | none => _)
    rw [ih (fun i hi => h i (by omega)), e.1, e.2]
theorem lk_w_cong {K V K' V' : Nat → Nat → Nat} {k i : Nat} (h : K k i = K' k i ∧ V k i = V' k i) : lk_w K V k i = lk_w K' V' k i := by
  unfold lk_w
  rw [h.1, h.2]
theorem lk_b_in {K V : Nat → Nat → Nat} {L : Nat → Nat} {nm : Nat} : ∀ {n}, (∀ k, k < n → L k ≤ 50) → ∀ {c}, lk_b K V L nm n = some c → c / 50 < n ∧ c % 50 < L (c / 50) ∧ lk_D K V (c / 50) nm (c % 50) := by
  intro n
  induction n with
  | zero => exact fun _ _ h => nomatch h
  | succ n ih =>
    intro hL c h
    have ih' := fun {c} => @ih (fun k hk => hL k (by omega)) c
    have hLn := hL n (by omega)
    change lk_B1 K V n (lk_b K V L nm n) (lk_f K V n nm (L n)) = some c at h
    unfold lk_B1 at h
    split at h
    · have := ih' h; exact ⟨by omega, this.2⟩
    · rename_i i e
      have hi := lk_f_some e
      have h50 : (50 * n + i) / 50 = n ∧ (50 * n + i) % 50 = i := by omega
      split at h
      · cases h
        rw [h50.1, h50.2]
        exact ⟨by omega, hi.1, hi.2.1⟩
      · rename_i c' e2
        split at h
        · cases h
          rw [h50.1, h50.2]
          exact ⟨by omega, hi.1, hi.2.1⟩
        · cases h
          have := ih' e2; exact ⟨by omega, this.2⟩
theorem lk_x_in {K V : Nat → Nat → Nat} {L : Nat → Nat} {nm : Nat} : ∀ {n}, (∀ k, k < n → L k ≤ 50) → ∀ {c}, lk_x K V L nm n = some c → c / 50 < n ∧ c % 50 < L (c / 50) ∧ lk_D K V (c / 50) nm (c % 50) := by
  intro n
  induction n with
  | zero => exact fun _ _ h => nomatch h
  | succ n ih =>
    intro hL c h
    have ih' := fun {c} => @ih (fun k hk => hL k (by omega)) c
    have hLn := hL n (by omega)
    change lk_X1 K V n (lk_x K V L nm n) (lk_f K V n nm (L n)) = some c at h
    unfold lk_X1 at h
    split at h
    · have := ih' h; exact ⟨by omega, this.2⟩
    · rename_i i e
      have hi := lk_f_some e
      have h50 : (50 * n + i) / 50 = n ∧ (50 * n + i) % 50 = i := by omega
      split at h
      · cases h
        rw [h50.1, h50.2]
        exact ⟨by omega, hi.1, hi.2.1⟩
      · rename_i c' e2
        split at h
        · cases h
          rw [h50.1, h50.2]
          exact ⟨by omega, hi.1, hi.2.1⟩
        · cases h
          have := ih' e2; exact ⟨by omega, this.2⟩
/-- the component's choice and the reference's -/
def lk_A (K V : Nat → Nat → Nat) (x b : Option Nat) (u : Bool) (s : Nat) : Prop := (x = none ↔ b = none) ∧ (u = false → x = b) ∧ (x = none → s = 0) ∧ (∀ c, x = some c → (lk_w K V (c / 50) (c % 50) = false ↔ 1 ≤ s)) ∧ (∀ c, b = some c → (lk_w K V (c / 50) (c % 50) = false ↔ 1 ≤ s)) ∧ (u = true ↔ 2 ≤ s)
theorem lk_agree {K V : Nat → Nat → Nat} {L : Nat → Nat} {nm : Nat} : ∀ {n}, (∀ k, k < n → L k ≤ 50) → lk_A K V (lk_x K V L nm n) (lk_b K V L nm n) (lk_u K V L nm n) (lk_s K V L nm n) := by
  intro n
  induction n with
  | zero => exact fun _ => ⟨Iff.rfl, fun _ => rfl, fun _ => rfl, fun c h => (nomatch h), fun c h => (nomatch h), ⟨fun h => (nomatch h), fun h => absurd h (by show ¬ 2 ≤ 0; decide)⟩⟩
  | succ n ih =>
    intro hL
    have h := ih (fun k hk => hL k (by omega))
    have hLn := hL n (by omega)
    show lk_A K V (lk_X1 K V n (lk_x K V L nm n) (lk_f K V n nm (L n))) (lk_B1 K V n (lk_b K V L nm n) (lk_f K V n nm (L n))) (lk_U1 K V n (lk_u K V L nm n) (lk_x K V L nm n) (lk_f K V n nm (L n))) (lk_S1 K V n (lk_s K V L nm n) (lk_f K V n nm (L n)))
    revert h
    generalize lk_x K V L nm n = x
    generalize lk_b K V L nm n = b
    generalize lk_u K V L nm n = u
    generalize lk_s K V L nm n = s
    intro h
    cases e : lk_f K V n nm (L n) with
    | none => exact h
    | some i =>
      have hi := (lk_f_some e).1
      have h1 : (50 * n + i) / 50 = n := by omega
      have h2 : (50 * n + i) % 50 = i := by omega
      obtain ⟨a1, a2, a3, a4, a5, a6⟩ := h
      cases x with
      | none =>
        have eb := a1.mp rfl
        subst eb
        have es := a3 rfl
        subst es
        have eu : u = false := by cases u with | false => rfl | true => exact absurd (a6.mp rfl) (by decide)
        subst eu
        show lk_A K V (some (50 * n + i)) (some (50 * n + i)) false (if lk_w K V n i = false then 0 + 1 else 0)
        refine ⟨⟨fun z => (nomatch z), fun z => (nomatch z)⟩, fun _ => rfl, fun z => (nomatch z), fun c hc => ?_, fun c hc => ?_, ⟨fun z => (nomatch z), fun z => ?_⟩⟩
        · cases hc; rw [h1, h2]; by_cases z : lk_w K V n i = false
          · rw [if_pos z]; exact ⟨fun _ => by decide, fun _ => z⟩
          · rw [if_neg z]; exact ⟨fun y => absurd y z, fun y => absurd y (by decide)⟩
        · cases hc; rw [h1, h2]; by_cases z : lk_w K V n i = false
          · rw [if_pos z]; exact ⟨fun _ => by decide, fun _ => z⟩
          · rw [if_neg z]; exact ⟨fun y => absurd y z, fun y => absurd y (by decide)⟩
        · exfalso; split at z <;> omega
      | some c =>
        cases b with
        | none => exact absurd (a1.mpr rfl) (by intro z; exact nomatch z)
        | some d =>
          have a4 := a4 c rfl
          have a5 := a5 d rfl
          show lk_A K V (if lk_w K V n i = false then some (50 * n + i) else some c) (if lk_w K V (d / 50) (d % 50) = true ∧ lk_w K V n i = false then some (50 * n + i) else some d) (if lk_w K V n i = false ∧ lk_w K V (c / 50) (c % 50) = false then true else u) (if lk_w K V n i = false then s + 1 else s)
          by_cases z : lk_w K V n i = false
          · rw [if_pos z, if_pos z]
            by_cases y : lk_w K V (c / 50) (c % 50) = false
            · have hs := a4.mp y
              have hd := a5.mpr hs
              rw [if_neg (by rw [hd]; exact fun q => nomatch q.1), if_pos ⟨z, y⟩]
              refine ⟨⟨fun q => (nomatch q), fun q => (nomatch q)⟩, fun q => (nomatch q), fun q => (nomatch q), fun c' hc => ?_, fun c' hc => ?_, ⟨fun _ => by omega, fun _ => rfl⟩⟩
              · cases hc; rw [h1, h2]; exact ⟨fun _ => by omega, fun _ => z⟩
              · cases hc; exact ⟨fun _ => by omega, fun _ => hd⟩
            · have hs : ¬ 1 ≤ s := fun q => y (a4.mpr q)
              have hd : lk_w K V (d / 50) (d % 50) = true := by
                cases q : lk_w K V (d / 50) (d % 50) with
                | true => rfl
                | false => exact absurd (a5.mp q) hs
              have eu : u = false := by cases u with | false => rfl | true => exact absurd (a6.mp rfl) (by omega)
              rw [if_pos ⟨hd, z⟩, if_neg (fun q => y q.2), eu]
              refine ⟨⟨fun q => (nomatch q), fun q => (nomatch q)⟩, fun _ => rfl, fun q => (nomatch q), fun c' hc => ?_, fun c' hc => ?_, ⟨fun q => (nomatch q), fun q => by omega⟩⟩
              · cases hc; rw [h1, h2]; exact ⟨fun _ => by omega, fun _ => z⟩
              · cases hc; rw [h1, h2]; exact ⟨fun _ => by omega, fun _ => z⟩
          · rw [if_neg z, if_neg (fun q => z q.2), if_neg (fun q => z q.1), if_neg z]
            refine ⟨⟨fun q => (nomatch q), fun q => (nomatch q)⟩, a2, fun q => (nomatch q), fun c' hc => ?_, fun c' hc => ?_, a6⟩
            · cases hc; exact a4
            · cases hc; exact a5
/-- rows that hold the same -/
def lk_E (K V K' V' : Nat → Nat → Nat) (L L' : Nat → Nat) (n : Nat) : Prop := ∀ k, k < n → L k = L' k ∧ ∀ i, i < L k → K k i = K' k i ∧ V k i = V' k i
theorem lk_cong {K V K' V' : Nat → Nat → Nat} {L L' : Nat → Nat} {nm : Nat} : ∀ {n}, (∀ k, k < n → L k ≤ 50) → lk_E K V K' V' L L' n → lk_b K V L nm n = lk_b K' V' L' nm n ∧ lk_x K V L nm n = lk_x K' V' L' nm n ∧ lk_u K V L nm n = lk_u K' V' L' nm n ∧ lk_s K V L nm n = lk_s K' V' L' nm n := by
  intro n
  induction n with
  | zero => exact fun _ _ => ⟨rfl, rfl, rfl, rfl⟩
  | succ n ih =>
    intro hL hE
    have hL' : ∀ k, k < n → L k ≤ 50 := fun k hk => hL k (by omega)
    obtain ⟨i1, i2, i3, i4⟩ := ih hL' (fun k hk => hE k (by omega))
    have en := hE n (by omega)
    have ef : lk_f K V n nm (L n) = lk_f K' V' n nm (L' n) := by rw [← en.1]; exact lk_f_cong en.2
    have ew : ∀ c, c / 50 < n → c % 50 < L (c / 50) → lk_w K V (c / 50) (c % 50) = lk_w K' V' (c / 50) (c % 50) := fun c h1 h2 => lk_w_cong ((hE (c / 50) (by omega)).2 _ h2)
    have ewn : ∀ i, i < L n → lk_w K V n i = lk_w K' V' n i := fun i h => lk_w_cong (en.2 i h)
    have hb := @lk_b_in K V L nm n hL'
    have hx := @lk_x_in K V L nm n hL'
    show lk_B1 K V n (lk_b K V L nm n) (lk_f K V n nm (L n)) = lk_B1 K' V' n (lk_b K' V' L' nm n) (lk_f K' V' n nm (L' n)) ∧ lk_X1 K V n (lk_x K V L nm n) (lk_f K V n nm (L n)) = lk_X1 K' V' n (lk_x K' V' L' nm n) (lk_f K' V' n nm (L' n)) ∧ lk_U1 K V n (lk_u K V L nm n) (lk_x K V L nm n) (lk_f K V n nm (L n)) = lk_U1 K' V' n (lk_u K' V' L' nm n) (lk_x K' V' L' nm n) (lk_f K' V' n nm (L' n)) ∧ lk_S1 K V n (lk_s K V L nm n) (lk_f K V n nm (L n)) = lk_S1 K' V' n (lk_s K' V' L' nm n) (lk_f K' V' n nm (L' n))
    rw [← ef, ← i1, ← i2, ← i3, ← i4]
    cases e : lk_f K V n nm (L n) with
    | none => exact ⟨rfl, rfl, rfl, rfl⟩
    | some i =>
      have e1 := ewn i (lk_f_some e).1
      refine ⟨?_, ?_, ?_, ?_⟩
      · unfold lk_B1
        cases q : lk_b K V L nm n with
        | none => rfl
        | some c => simp only [e1, ew c (hb q).1 (hb q).2.1]
      · unfold lk_X1
        cases q : lk_x K V L nm n with
        | none => rfl
        | some c => simp only [e1]
      · unfold lk_U1
        cases q : lk_x K V L nm n with
        | none => rfl
        | some c => simp only [e1, ew c (hx q).1 (hx q).2.1]
      · unfold lk_S1
        simp only [e1]
theorem lk_W_cong {K V K' V' : Nat → Nat → Nat} {L L' : Nat → Nat} {nm n : Nat} (hE : lk_E K V K' V' L L' n) : lk_W K V L nm n ↔ lk_W K' V' L' nm n := by
  constructor
  · rintro ⟨k, hk, i, hi, h⟩
    have e := hE k hk
    have e2 := e.2 i hi
    refine ⟨k, hk, i, by rw [← e.1]; exact hi, ?_⟩
    unfold lk_Q at h ⊢
    rw [← e2.1, ← e2.2]; exact h
  · rintro ⟨k, hk, i, hi, h⟩
    have e := hE k hk
    rw [← e.1] at hi
    have e2 := e.2 i hi
    refine ⟨k, hk, i, hi, ?_⟩
    unfold lk_Q at h ⊢
    rw [e2.1, e2.2]; exact h
theorem lk_b_none {K V : Nat → Nat → Nat} {L : Nat → Nat} {nm : Nat} : ∀ {n}, lk_b K V L nm n = none ↔ ∀ k, k < n → lk_f K V k nm (L k) = none := by
  intro n
  induction n with
  | zero => exact ⟨fun _ k h => absurd h (by omega), fun _ => rfl⟩
  | succ n ih =>
    show lk_B1 K V n (lk_b K V L nm n) (lk_f K V n nm (L n)) = none ↔ _
    constructor
    · intro h k hk
      cases e : lk_f K V n nm (L n) with
      | none =>
        rw [e] at h
        by_cases z : k = n
        · rw [z]; exact e
        · exact ih.mp h k (by omega)
      | some i =>
        rw [e] at h
        unfold lk_B1 at h
        split at h
        · rename_i q; exact nomatch q
        · split at h
          · exact nomatch h
          · split at h <;> exact nomatch h
    · intro h
      rw [h n (by omega)]
      exact ih.mpr (fun k hk => h k (by omega))
