/-! the grammar as a pure machine over kinds K and operand counts N: blocks not yet closed (a list, innermost first) and operands due -/
def sk_st (K : Nat → Nat) : Nat → List Nat
  | 0 => []
  | p + 1 => if K p = 28 ∨ K p = 22 ∨ K p = 24 then p :: sk_st K p else if K p = 23 then p :: (sk_st K p).tail else if K p = 27 then (sk_st K p).tail else sk_st K p
def sk_d (K N : Nat → Nat) : Nat → Nat
  | 0 => 0
  | p + 1 => sk_d K N p - 1 + (if K p = 29 then 1 else N p)
def sk_B (K : Nat → Nat) (p : Nat) : Nat := (sk_st K p).length
def sk_fit3 (K : Nat → Nat) (k : Nat) : List Nat → Prop
  | [] => k = 28 ∨ k = 29
  | o :: _ => if k = 23 then K o = 22 else 20 ≤ k ∧ k ≤ 27
def sk_fit2 (K N : Nat → Nat) (p : Nat) : Prop := if 0 < sk_d K N p then K p ≤ 18 else sk_fit3 K (K p) (sk_st K p)
def sk_fit (K N : Nat → Nat) (p : Nat) : Prop := if 0 < p ∧ K (p - 1) = 29 then K p = 0 else sk_fit2 K N p
theorem sk_st_push {K : Nat → Nat} {p : Nat} (h : K p = 28 ∨ K p = 22 ∨ K p = 24) : sk_st K (p + 1) = p :: sk_st K p := if_pos h
theorem sk_st_else {K : Nat → Nat} {p : Nat} (h : K p = 23) : sk_st K (p + 1) = p :: (sk_st K p).tail := by
  show (if _ then _ else _) = _
  rw [if_neg (by omega), if_pos h]
theorem sk_st_end {K : Nat → Nat} {p : Nat} (h : K p = 27) : sk_st K (p + 1) = (sk_st K p).tail := by
  show (if _ then _ else _) = _
  rw [if_neg (by omega), if_neg (by omega), if_pos h]
theorem sk_st_same {K : Nat → Nat} {p : Nat} (h1 : K p ≠ 28) (h2 : K p ≠ 22) (h3 : K p ≠ 24) (h4 : K p ≠ 23) (h5 : K p ≠ 27) : sk_st K (p + 1) = sk_st K p := by
  show (if _ then _ else _) = _
  rw [if_neg (by omega), if_neg h4, if_neg h5]
theorem sk_B_le (K : Nat → Nat) : ∀ p, (sk_st K p).length ≤ p := by
  intro p
  induction p with
  | zero => exact Nat.le_refl _
  | succ p ih =>
    show (if _ then _ else _ : List Nat).length ≤ _
    split
    · show (sk_st K p).length + 1 ≤ _; omega
    · split
      · show (sk_st K p).tail.length + 1 ≤ _; rw [List.length_tail]; omega
      · split
        · rw [List.length_tail]; omega
        · omega
theorem sk_d_le {K N : Nat → Nat} : ∀ p, (∀ j, j < p → N j ≤ 3) → sk_d K N p ≤ 3 * p := by
  intro p
  induction p with
  | zero => exact fun _ => Nat.le_refl _
  | succ p ih =>
    intro h
    have h1 := ih (fun j hj => h j (by omega))
    have h2 := h p (by omega)
    show sk_d K N p - 1 + _ ≤ _
    split <;> omega
theorem sk_after {K N : Nat → Nat} {p : Nat} (h : sk_fit K N p) (e : K p = 29) : sk_st K p = [] ∧ sk_d K N p = 0 := by
  unfold sk_fit at h
  split at h
  · omega
  · unfold sk_fit2 at h
    split at h
    · omega
    · rename_i hd
      cases es : sk_st K p with
      | nil => exact ⟨rfl, by omega⟩
      | cons o l =>
        rw [es] at h
        change (if K p = 23 then K o = 22 else 20 ≤ K p ∧ K p ≤ 27) at h
        split at h <;> omega
theorem sk_after1 {K N : Nat → Nat} {p : Nat} (h : sk_fit K N p) (e : K p = 29) : sk_st K (p + 1) = [] ∧ sk_d K N (p + 1) = 1 := by
  obtain ⟨a, b⟩ := sk_after h e
  refine ⟨by rw [sk_st_same (by omega) (by omega) (by omega) (by omega) (by omega), a], ?_⟩
  show sk_d K N p - 1 + _ = 1
  rw [b, if_pos e]
/-- inside a block the place before is no DATA -/
theorem sk_fit_in {K N : Nat → Nat} {p : Nat} (hall : ∀ j, j < p → sk_fit K N j) (h : sk_fit K N p) (hb : 1 ≤ sk_B K p) : sk_fit2 K N p := by
  unfold sk_fit at h
  split at h
  · rename_i hc
    have := sk_after1 (hall (p - 1) (by omega)) hc.2
    rw [show p - 1 + 1 = p by omega] at this
    unfold sk_B at hb
    rw [this.1] at hb
    exact absurd hb (by decide)
  · exact h
theorem sk_in {K N : Nat → Nat} {p : Nat} (h : sk_fit2 K N p) (hb : 1 ≤ sk_B K p) : (0 < sk_d K N p → K p ≤ 18) ∧ (sk_d K N p = 0 → 20 ≤ K p ∧ K p ≤ 27 ∧ ∃ o l, sk_st K p = o :: l ∧ (K p = 23 → K o = 22)) := by
  unfold sk_fit2 at h
  split at h
  · exact ⟨fun _ => h, fun e => by omega⟩
  · refine ⟨fun e => by omega, fun _ => ?_⟩
    unfold sk_B at hb
    cases es : sk_st K p with
    | nil => rw [es] at hb; exact absurd hb (by decide)
    | cons o l =>
      rw [es] at h
      change (if K p = 23 then K o = 22 else 20 ≤ K p ∧ K p ≤ 27) at h
      split at h
      · exact ⟨by omega, by omega, o, l, rfl, fun _ => h⟩
      · exact ⟨h.1, h.2, o, l, rfl, fun e => by omega⟩
/-- what is known of the blocks not yet closed -/
def sk_o1 (K : Nat → Nat) (i o n : Nat) : Prop := o < i ∧ (K o = 22 ∨ K o = 23 ∨ K o = 24 ∨ K o = 28) ∧ sk_B K (o + 1) = n + 1 ∧ (∀ q, o < q → q ≤ i → n + 1 ≤ sk_B K q) ∧ (K o = 22 → ∀ q, o < q → q < i → K q = 23 → sk_B K q ≠ n + 1) ∧ (∃ f, f ≤ o ∧ (K o = 23 → K f = 22) ∧ (K o ≠ 23 → f = o) ∧ sk_B K f = n ∧ ∀ q, f < q → q ≤ i → n + 1 ≤ sk_B K q)
def sk_op (K : Nat → Nat) (i : Nat) : List Nat → Prop
  | [] => True
  | o :: l => sk_o1 K i o l.length ∧ (∀ o', o' ∈ l → o' < o) ∧ sk_op K i l
theorem sk_op_ext {K : Nat → Nat} {i : Nat} : ∀ l : List Nat, sk_op K i l → l.length ≤ sk_B K (i + 1) → (K i = 23 → l.length < sk_B K i) → sk_op K (i + 1) l := by
  intro l
  induction l with
  | nil => exact fun _ _ _ => trivial
  | cons o l ih =>
    intro h hl h3
    have hl' : l.length + 1 ≤ sk_B K (i + 1) := hl
    obtain ⟨⟨a, b, c, d, e, f, f1, f2, f3, f4, f5⟩, g, h⟩ := h
    refine ⟨⟨by omega, b, c, ?_, ?_, f, f1, f2, f3, f4, ?_⟩, g, ih h (by omega) (fun z => by have : l.length + 1 < _ := h3 z; omega)⟩
    · intro q q1 q2
      by_cases z : q = i + 1
      · rw [z]; exact hl'
      · exact d q q1 (by omega)
    · intro k q q1 q2 q3
      by_cases z : q = i
      · have : l.length + 1 < _ := h3 (by rw [← z]; exact q3)
        rw [z]; omega
      · exact e k q q1 (by omega) q3
    · intro q q1 q2
      by_cases z : q = i + 1
      · rw [z]; exact hl'
      · exact f5 q q1 (by omega)
theorem sk_op_lt {K : Nat → Nat} {i : Nat} : ∀ l : List Nat, sk_op K i l → ∀ o, o ∈ l → o < i ∧ (K o = 22 ∨ K o = 23 ∨ K o = 24 ∨ K o = 28) := by
  intro l
  induction l with
  | nil => exact fun _ o h => nomatch h
  | cons o l ih =>
    intro h o' ho
    cases ho with
    | head => exact ⟨h.1.1, h.1.2.1⟩
    | tail _ ho => exact ih h.2.2 o' ho
/-- what is known of the closed ones -/
def sk_c1 (K : Nat → Nat) (pa : Nat → Int32) (i o e : Nat) : Prop := o < e ∧ e < i ∧ pa o = nI e ∧ (K e = 27 ∨ (K o = 22 ∧ K e = 23)) ∧ sk_B K (o + 1) = sk_B K e ∧ (∀ q, o < q → q ≤ e → sk_B K e ≤ sk_B K q) ∧ (K o = 22 → ∀ q, o < q → q < e → K q = 23 → sk_B K q ≠ sk_B K e)
def sk_c2 (K : Nat → Nat) (pa : Nat → Int32) (e o f : Nat) : Prop := f ≤ o ∧ o < e ∧ pa e = nI o ∧ (K o = 22 ∨ K o = 23 ∨ K o = 24 ∨ K o = 28) ∧ (K o = 23 → K f = 22) ∧ (K o ≠ 23 → f = o) ∧ sk_B K f + 1 = sk_B K e ∧ ∀ q, f < q → q ≤ e → sk_B K e ≤ sk_B K q
def sk_cl (K : Nat → Nat) (pa : Nat → Int32) (i : Nat) : Prop := (∀ o, o < i → (K o = 22 ∨ K o = 23 ∨ K o = 24) → ¬ o ∈ sk_st K i → ∃ e, sk_c1 K pa i o e) ∧ (∀ e, e < i → K e = 27 → ∃ o f, sk_c2 K pa e o f)
theorem sk_c1_up {K : Nat → Nat} {pa pa' : Nat → Int32} {i o e : Nat} (h : sk_c1 K pa i o e) (hp : pa' o = pa o) : sk_c1 K pa' (i + 1) o e := by
  obtain ⟨a, b, c, d⟩ := h
  exact ⟨a, by omega, by rw [hp, c], d⟩
theorem sk_c2_up {K : Nat → Nat} {pa pa' : Nat → Int32} {e o f : Nat} (h : sk_c2 K pa e o f) (hp : pa' e = pa e) : sk_c2 K pa' e o f := by
  obtain ⟨a, b, c, d⟩ := h
  exact ⟨a, b, by rw [hp, c], d⟩
theorem sk_stepA {K : Nat → Nat} {pa : Nat → Int32} {i : Nat} (ho : sk_op K i (sk_st K i)) (hc : sk_cl K pa i) (h1 : K i ≠ 28) (h2 : K i ≠ 22) (h3 : K i ≠ 24) (h4 : K i ≠ 23) (h5 : K i ≠ 27) : sk_op K (i + 1) (sk_st K (i + 1)) ∧ sk_cl K pa (i + 1) := by
  have es := sk_st_same h1 h2 h3 h4 h5
  constructor
  · rw [es]
    exact sk_op_ext _ ho (by unfold sk_B; rw [es]; exact Nat.le_refl _) (fun z => absurd z h4)
  · constructor
    · intro o a b c
      rw [es] at c
      by_cases z : o = i
      · subst z; omega
      · obtain ⟨e, he⟩ := hc.1 o (by omega) b c
        exact ⟨e, sk_c1_up he rfl⟩
    · intro e a b
      by_cases z : e = i
      · subst z; omega
      · exact hc.2 e (by omega) b
theorem sk_stepB {K : Nat → Nat} {pa : Nat → Int32} {i : Nat} (ho : sk_op K i (sk_st K i)) (hc : sk_cl K pa i) (h : K i = 28 ∨ K i = 22 ∨ K i = 24) : sk_op K (i + 1) (sk_st K (i + 1)) ∧ sk_cl K pa (i + 1) := by
  have es := sk_st_push h
  have eb : sk_B K (i + 1) = (sk_st K i).length + 1 := by unfold sk_B; rw [es]; rfl
  constructor
  · rw [es]
    refine ⟨⟨by omega, by omega, eb, ?_, ?_, i, by omega, by omega, fun _ => rfl, rfl, ?_⟩, fun o ho' => (sk_op_lt _ ho o ho').1, ?_⟩
    · intro q q1 q2
      rw [show q = i + 1 by omega, eb]; exact Nat.le_refl _
    · intro _ q q1 q2; omega
    · intro q q1 q2
      rw [show q = i + 1 by omega, eb]; exact Nat.le_refl _
    · exact sk_op_ext _ ho (by rw [eb]; omega) (fun z => by omega)
  · constructor
    · intro o a b c
      rw [es] at c
      have z : o ≠ i := fun e => c (by rw [e]; exact List.mem_cons_self ..)
      obtain ⟨e, he⟩ := hc.1 o (by omega) b (fun m => c (List.mem_cons_of_mem _ m))
      exact ⟨e, sk_c1_up he rfl⟩
    · intro e a b
      by_cases z : e = i
      · subst z; omega
      · exact hc.2 e (by omega) b
theorem sk_stepC {K : Nat → Nat} {pa : Nat → Int32} {i o : Nat} {l : List Nat} (ho : sk_op K i (sk_st K i)) (hc : sk_cl K pa i) (hs : sk_st K i = o :: l) (h : K i = 27) : sk_op K (i + 1) (sk_st K (i + 1)) ∧ sk_cl K (upd (upd pa o (nI i)) i (nI o)) (i + 1) := by
  have es := sk_st_end h
  rw [hs] at es ho
  have eb : sk_B K (i + 1) = l.length := by unfold sk_B; rw [es]; rfl
  have ei : sk_B K i = l.length + 1 := by unfold sk_B; rw [hs]; rfl
  obtain ⟨⟨a, b, c, d, e, f, f1, f2, f3, f4, f5⟩, g, ho⟩ := ho
  constructor
  · rw [es]
    exact sk_op_ext _ ho (by rw [eb]; exact Nat.le_refl _) (fun z => by omega)
  · constructor
    · intro x a' b' c'
      have z : x ≠ i := fun z => by subst z; omega
      by_cases y : x = o
      · subst y
        refine ⟨i, a, by omega, by rw [pk_un (by omega), pk_us], Or.inl h, by rw [c, ei], fun q q1 q2 => by rw [ei]; exact d q q1 q2, fun k q q1 q2 q3 => by rw [ei]; exact e k q q1 q2 q3⟩
      · obtain ⟨e', he⟩ := hc.1 x (by omega) b' (fun m => by
          rw [hs] at m
          cases m with
          | head => exact y rfl
          | tail _ m => exact c' (by rw [es]; exact m))
        exact ⟨e', sk_c1_up he (by rw [pk_un z, pk_un y])⟩
    · intro x a' b'
      by_cases z : x = i
      · subst z
        exact ⟨o, f, f1, a, pk_us, b, f2, f3, by rw [f4, ei], fun q q1 q2 => by rw [ei]; exact f5 q q1 q2⟩
      · obtain ⟨o', f', hf⟩ := hc.2 x (by omega) b'
        exact ⟨o', f', sk_c2_up hf (by rw [pk_un z, pk_un (fun y => by subst y; omega)])⟩
theorem sk_stepD {K : Nat → Nat} {pa : Nat → Int32} {i o : Nat} {l : List Nat} (ho : sk_op K i (sk_st K i)) (hc : sk_cl K pa i) (hs : sk_st K i = o :: l) (h : K i = 23) (hko : K o = 22) : sk_op K (i + 1) (sk_st K (i + 1)) ∧ sk_cl K (upd (upd pa o (nI i)) i (nI o)) (i + 1) := by
  have es := sk_st_else h
  rw [hs] at es ho
  have es' : sk_st K (i + 1) = i :: l := es
  have eb : sk_B K (i + 1) = l.length + 1 := by unfold sk_B; rw [es']; rfl
  have ei : sk_B K i = l.length + 1 := by unfold sk_B; rw [hs]; rfl
  obtain ⟨⟨a, b, c, d, e, f, f1, f2, f3, f4, f5⟩, g, ho⟩ := ho
  have ef : f = o := f3 (by omega)
  subst ef
  constructor
  · rw [es']
    refine ⟨⟨by omega, by omega, eb, ?_, fun z => by omega, f, by omega, fun _ => hko, fun z => absurd h z, f4, ?_⟩, fun o' ho' => Nat.lt_trans (g o' ho') a, ?_⟩
    · intro q q1 q2
      rw [show q = i + 1 by omega, eb]; exact Nat.le_refl _
    · intro q q1 q2
      by_cases z : q = i + 1
      · rw [z, eb]; exact Nat.le_refl _
      · exact f5 q q1 (by omega)
    · exact sk_op_ext _ ho (by rw [eb]; omega) (fun z => by omega)
  · constructor
    · intro x a' b' c'
      have z : x ≠ i := fun z => c' (by rw [es', z]; exact List.mem_cons_self ..)
      by_cases y : x = f
      · subst y
        refine ⟨i, a, by omega, by rw [pk_un (by omega), pk_us], Or.inr ⟨hko, h⟩, by rw [c, ei], fun q q1 q2 => by rw [ei]; exact d q q1 q2, fun k q q1 q2 q3 => by rw [ei]; exact e k q q1 q2 q3⟩
      · obtain ⟨e', he⟩ := hc.1 x (by omega) b' (fun m => by
          rw [hs] at m
          cases m with
          | head => exact y rfl
          | tail _ m => exact c' (by rw [es']; exact List.mem_cons_of_mem _ m))
        exact ⟨e', sk_c1_up he (by rw [pk_un z, pk_un y])⟩
    · intro x a' b'
      by_cases z : x = i
      · subst z; omega
      · obtain ⟨o', f', hf⟩ := hc.2 x (by omega) b'
        exact ⟨o', f', sk_c2_up hf (by rw [pk_un z, pk_un (fun y => by subst y; omega)])⟩
/-- a well formed row: what linking and running need of it -/
def wf_J (K : Nat → Nat) (c : Nat) (P : Nat → Int32) (b : Nat) (B pr : Nat → Nat) : Prop := (∀ o, o < c → 1 ≤ B o → (K o = 22 ∨ K o = 23 ∨ K o = 24) → o < pr o ∧ pr o < c ∧ P o = nI (b + pr o) ∧ (K (pr o) = 27 ∨ (K o = 22 ∧ K (pr o) = 23)) ∧ B (o + 1) = B (pr o) ∧ (∀ q, o < q → q ≤ pr o → B (pr o) ≤ B q) ∧ (K o = 22 → ∀ q, o < q → q < pr o → K q = 23 → B q ≠ B (pr o)))
  ∧ (∀ e, e < c → 1 ≤ B e → K e = 27 → ∃ f, f ≤ pr e ∧ pr e < e ∧ P e = nI (b + pr e) ∧ (K (pr e) = 22 ∨ K (pr e) = 23 ∨ K (pr e) = 24 ∨ K (pr e) = 28) ∧ (K (pr e) = 23 → K f = 22) ∧ (K (pr e) ≠ 23 → f = pr e) ∧ B f + 1 = B e ∧ ∀ q, f < q → q ≤ e → B e ≤ B q)
def wf_S (K N : Nat → Nat) (c : Nat) (D B : Nat → Nat) : Prop := B c = 0 ∧ (∀ p, p < c → 20 ≤ K p → K p ≤ 27 → 1 ≤ B p ∧ (K p = 23 → 2 ≤ B p)) ∧ (∀ p, p < c → K p = 28 → B (p + 1) = 1 ∧ D (p + 1) = 0) ∧ (∀ p, p < c → 1 ≤ B p → D (p + 1) = D p - 1 + N p ∧ (0 < D p → K p ≤ 18) ∧ (D p = 0 → 20 ≤ K p ∧ K p ≤ 27) ∧ ((K p = 22 ∨ K p = 24) → B (p + 1) = B p + 1) ∧ (K p = 27 → B (p + 1) + 1 = B p) ∧ (K p ≠ 22 → K p ≠ 24 → K p ≠ 27 → B (p + 1) = B p))
def wf_U (K N : Nat → Nat) (c : Nat) (P : Nat → Int32) (b : Nat) : Prop := ∃ D B pr : Nat → Nat, wf_S K N c D B ∧ wf_J K c P b B pr
theorem sk_wf {K N : Nat → Nat} {c : Nat} {pa P : Nat → Int32} {b : Nat} (hall : ∀ j, j < c → sk_fit K N j) (hs : sk_st K c = []) (hcl : sk_cl K pa c) (hP : ∀ i, i < c → P i = nI b + pa i) (h9 : ∀ i, i < c → K i = 28 → N i = 0) (hopa : ∀ p, p ≤ c → sk_op K p (sk_st K p)) : wf_U K N c P b := by
  have hex : ∃ pr : Nat → Nat, (∀ o, o < c → (K o = 22 ∨ K o = 23 ∨ K o = 24) → sk_c1 K pa c o (pr o)) ∧ (∀ e, e < c → K e = 27 → ∃ f, sk_c2 K pa e (pr e) f) := by
    have hx : ∀ o, ∃ e, (o < c → (K o = 22 ∨ K o = 23 ∨ K o = 24) → sk_c1 K pa c o e) ∧ (o < c → K o = 27 → ∃ f, sk_c2 K pa o e f) := by
      intro o
      by_cases ho : o < c
      · by_cases h1 : K o = 22 ∨ K o = 23 ∨ K o = 24
        · obtain ⟨e, he⟩ := hcl.1 o ho h1 (by rw [hs]; exact fun m => nomatch m)
          exact ⟨e, fun _ _ => he, fun _ z => by omega⟩
        · by_cases h2 : K o = 27
          · obtain ⟨e, f, he⟩ := hcl.2 o ho h2
            exact ⟨e, fun _ z => absurd z h1, fun _ _ => ⟨f, he⟩⟩
          · exact ⟨0, fun _ z => absurd z h1, fun _ z => absurd z h2⟩
      · exact ⟨0, fun z => absurd z ho, fun z => absurd z ho⟩
    obtain ⟨pr, hpr⟩ := Classical.skolem.mp hx
    exact ⟨pr, fun o a b => (hpr o).1 a b, fun e a b => (hpr e).2 a b⟩
  obtain ⟨pr, hp1, hp2⟩ := hex
  refine ⟨sk_d K N, sk_B K, pr, ⟨by unfold sk_B; rw [hs]; rfl, ?_, ?_, ?_⟩, ?_, ?_⟩
  · intro p hp hk1 hk2
    have hf := hall p hp
    unfold sk_fit at hf
    split at hf
    · omega
    · unfold sk_fit2 at hf
      split at hf
      · omega
      · unfold sk_B
        cases es : sk_st K p with
        | nil =>
          rw [es] at hf
          change K p = 28 ∨ K p = 29 at hf
          omega
        | cons o l =>
          refine ⟨Nat.succ_pos _, fun e23 => ?_⟩
          rw [es] at hf
          change (if K p = 23 then K o = 22 else 20 ≤ K p ∧ K p ≤ 27) at hf
          rw [if_pos e23] at hf
          have hop := hopa p (by omega)
          rw [es] at hop
          have h1 : sk_B K (o + 1) = l.length + 1 := hop.1.2.2.1
          have h2 : sk_B K (o + 1) = (sk_st K o).length + 1 := by unfold sk_B; rw [sk_st_push (by omega)]; rfl
          have hfo := hall o (by have := hop.1.1; omega)
          unfold sk_fit at hfo
          split at hfo
          · omega
          · unfold sk_fit2 at hfo
            split at hfo
            · omega
            · cases eo : sk_st K o with
              | nil =>
                rw [eo] at hfo
                change K o = 28 ∨ K o = 29 at hfo
                omega
              | cons o' l' =>
                rw [eo] at h2
                show 2 ≤ l.length + 1
                rw [← h1, h2]
                exact Nat.succ_le_succ (Nat.succ_le_succ (Nat.zero_le _))
  · intro p hp hk
    have hf := hall p hp
    unfold sk_fit at hf
    split at hf
    · omega
    · unfold sk_fit2 at hf
      split at hf
      · omega
      · rename_i hd
        cases es : sk_st K p with
        | nil =>
          refine ⟨by unfold sk_B; rw [sk_st_push (Or.inl hk), es]; rfl, ?_⟩
          show sk_d K N p - 1 + _ = 0
          rw [if_neg (by omega), h9 p hp hk]
          omega
        | cons o l =>
          rw [es] at hf
          change (if K p = 23 then K o = 22 else 20 ≤ K p ∧ K p ≤ 27) at hf
          split at hf <;> omega
  · intro p hp hb
    have h2 := sk_in (sk_fit_in (fun j hj => hall j (by omega)) (hall p hp) hb) hb
    have hne : K p ≠ 29 := fun z => by
      have := sk_after (hall p hp) z
      unfold sk_B at hb
      rw [this.1] at hb
      exact absurd hb (by decide)
    refine ⟨?_, h2.1, fun z => ⟨(h2.2 z).1, (h2.2 z).2.1⟩, ?_, ?_, ?_⟩
    · show sk_d K N p - 1 + _ = _
      rw [if_neg hne]
    · intro z
      unfold sk_B
      rw [sk_st_push (by omega)]; rfl
    · intro z
      unfold sk_B at hb ⊢
      rw [sk_st_end z, List.length_tail]; omega
    · intro z1 z2 z3
      unfold sk_B at hb ⊢
      by_cases z4 : K p = 23
      · rw [sk_st_else z4]
        show (sk_st K p).tail.length + 1 = _
        rw [List.length_tail]; omega
      · by_cases z5 : K p = 28
        · exfalso
          by_cases zd : sk_d K N p = 0
          · have := (h2.2 zd).2.1; omega
          · have := h2.1 (by omega); omega
        · rw [sk_st_same z5 z1 z2 z4 z3]
  · intro o ho _ hk
    obtain ⟨a, b', c', d⟩ := hp1 o ho hk
    exact ⟨a, b', by rw [hP o ho, c', nI_add], d⟩
  · intro e he _ hk
    obtain ⟨f, a, b', c', d⟩ := hp2 e he hk
    exact ⟨f, a, b', by rw [hP e he, c', nI_add], d⟩
