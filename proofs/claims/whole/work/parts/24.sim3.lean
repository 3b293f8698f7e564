/-! the two machines run alike: finishing, and the whole -/
section
variable {E : SX} {Z : SY} {n m : Nat} {tk ln : Nat → Nat} {D B pr : Nat → Nat → Nat}
theorem pO_1 {k p : Nat} (h : pK Z k p = 4 ∨ pK Z k p = 18 ∨ pK Z k p = 20 ∨ pK Z k p = 22 ∨ pK Z k p = 24 ∨ pK Z k p = 25 ∨ pK Z k p = 26) : pO Z k p = 1 := by
  unfold pO
  rcases h with e | e | e | e | e | e | e <;> rw [e] <;> rfl
theorem pO_2 {k p : Nat} (h : (6 ≤ pK Z k p ∧ pK Z k p ≤ 17) ∨ pK Z k p = 21) : pO Z k p = 2 := by
  unfold pO tk_n
  rcases h with e | e
  · rw [if_neg (by omega), if_neg (by omega), if_pos (by omega)]
  · rw [e]; rfl
/-- an expression is finished: its value is given -/
theorem s_fv (hR : pR E Z n m tk ln D B pr) {t μ : Nat} (IH : iH E Z n m tk ln D B (t + 1) μ) {d k p lo ho j s M t0 g du : Nat} {me my op lc pt pd wt gt rt pc ba : Nat → Int32} {gv v : Int32} {PX : (SX → Prop) → Nat → Prop} {PY : (Int32 → SY → Prop) → Nat → Prop}
    (f1 : k < n) (f2 : p < ln k) (f3 : 1 ≤ B k p) (f4 : d < 10) (f5 : s ≤ 200) (f6 : pc d = nI (550 + 50 * k + p)) (f7 : ba d = nI lo) (f8 : ∀ i, i < m → me i = my i) (f9 : lo + ho ≤ 50 * d) (f12 : fr Z n D B tk ln pt pd wt gt rt pc ba d lo ho M)
    (r1 : t0 < p) (hD : 1 ≤ D k t0) (r6 : D k p = D k t0 - 1) (r7 : ∀ q, t0 < q → q < p → 1 ≤ D k q) (r9 : lo + j + g ≤ 50 * d + t0) (r10 : 1 ≤ du) (r11 : cn Z D B tk ln pt pd wt gt k d lo ho j t0 (D k t0) g du)
    (hmu : 160 * (200 - s) + M + 3 * (51 - p) + (lo + (j + 1)) < μ + 1)
    (hX : ∀ j', j = j' + 1 → ∀ post f, kX post f t (mX E (nI (g + 1)) (nI (lo + j' + 1)) (nI (d + 1)) (nI (50 * tk k + p)) (-2) 0 (nI s) me (upd op g v) pt (upd pd (lo + j') (pd (lo + j') - 1)) lc rt) → ∃ f', PX post f')
    (hY : ∀ j', j = j' + 1 → ∀ post f, wkY post f (mY Z (nI (d + 1)) (nI (lo + j' + 1)) (nI g) 0 (nI s) 0 gv v 1 my pc ba lc wt gt op) → ∃ f', PY post f') : sG E Z m PX PY := by
  cases j with
  | zero => exact absurd r11.1 (by omega)
  | succ j =>
    have hsus : cn Z D B tk ln pt pd wt gt k d lo ho (j + 1) p (D k p + 1) g du := by
      rw [show D k p + 1 = D k t0 by omega]
      refine cn_adv (by omega) (fun q a b => ?_) r11
      by_cases z : q = t0
      · rw [z]; exact hD
      · exact r7 q (by omega) b
    have := s_give hR IH (v := v) (op := op) (lc := lc) (gv := gv) f1 f2 f3 f4 f5 f6 f7 f8 f9 (by omega) hsus r10 f12 (by omega)
    exact sG_map this (fun post f hf => hX j rfl post f (kX_of hf)) (fun post f hf => hY j rfl post f hf)
theorem s_fE (hR : pR E Z n m tk ln D B pr) {t μ : Nat} (ht : t < 1000000) (IH : iH E Z n m tk ln D B (t + 1) μ) {d k p lo ho j s M t0 g du : Nat} {me my op lc pt pd wt gt rt pc ba : Nat → Int32} {gv gf : Int32}
    (f1 : k < n) (f2 : p < ln k) (f3 : 1 ≤ B k p) (f4 : d < 10) (f5 : s ≤ 200) (f6 : pc d = nI (550 + 50 * k + p)) (f7 : ba d = nI lo) (f8 : ∀ i, i < m → me i = my i) (f9 : lo + ho ≤ 50 * d) (f10 : lo + (j + 1) + (g + pO Z k t0) ≤ 50 * d + p) (f12 : fr Z n D B tk ln pt pd wt gt rt pc ba d lo ho M)
    (hP : cnP Z tk pt pd wt gt (lo + j) k t0 0) (r1 : t0 < p) (r2 : t0 < ln k) (r3 : 1 ≤ B k t0) (r6 : D k p = D k t0 - 1) (r7 : ∀ q, t0 < q → q < p → 1 ≤ D k q) (r9 : lo + j + g ≤ 50 * d + t0) (r10 : 1 ≤ du) (r11 : cn Z D B tk ln pt pd wt gt k d lo ho j t0 (D k t0) g du)
    (hmu : 160 * (200 - s) + M + 3 * (51 - p) + (lo + (j + 1)) < μ + 1) (hK : 4 ≤ pK Z k t0 ∧ pK Z k t0 ≤ 18 ∧ pK Z k t0 ≠ 5) :
    sG E Z m (fun post f => wkX post f (nI t) (xs E tk d k p (lo + (j + 1)) (g + pO Z k t0) s me op lc pt pd rt)) (fun post f => wcY 0 post f (ys Z d (lo + (j + 1)) (g + pO Z k t0) s gv gf 0 my op lc pc ba wt gt)) := by
  have hR' := hR
  obtain ⟨hn5, hm4, _, hus, hms, hrow, hpo, hfo, huse⟩ := hR'
  obtain ⟨h5, h50, _, hT, hS, hJ⟩ := hrow k f1
  obtain ⟨c1, c2, c3, c4⟩ := hT t0 r2
  obtain ⟨p1, p2, p3, p4⟩ := hP
  have hD := in_E hS r2 r3 (by omega)
  have hO3 := pO3 hR f1 r2
  have xstep : ∀ (post : SX → Prop) (f : Nat), wpX_finishExpression (kX post f t) (mX E (nI (g + pO Z k t0)) (nI (lo + j)) (nI (d + 1)) (nI (50 * tk k + p)) (-2) 0 (nI s) me op pt pd lc rt) (nI (pK Z k t0)) → wkX post (f + 1) (nI t) (xs E tk d k p (lo + (j + 1)) (g + pO Z k t0) s me op lc pt pd rt) := fun post f hf => x_fin (w := lo + j) ht (by omega) (by omega) p2 (xf_E (by omega) (by omega) p1 c1 hK.2.1 hK.2.2 hf)
  by_cases h4 : pK Z k t0 = 4
  · have hO : pO Z k t0 = 1 := pO_1 (by omega)
    rw [h4] at xstep
    have ystep : ∀ (post : Int32 → SY → Prop) (f : Nat), w99Y (fun u => wkY post f u) (nI (550 + 50 * k + t0)) 4 (nI d) (op g) 0 (mY Z (nI (d + 1)) (nI (lo + j)) (nI g) 0 (nI s) 0 gv gf 0 my pc ba lc wt gt op) → wcY 0 post f (ys Z d (lo + (j + 1)) (g + pO Z k t0) s gv gf 0 my op lc pc ba wt gt) := fun post f hf => yc_pre (w := lo + j) hR f1 r2 (by omega) (by omega) (by omega) p3 h4 (by omega) (fun _ => hf) (fun z => by omega)
    rw [hO] at xstep ystep ⊢
    rcases pk_ix (op g) (n := m) (by omega) with z | z | ⟨r, hr, e⟩
    · have z' : op g < 0 ∨ nI m ≤ op g := Or.inl z
      cases j with
      | zero => exact absurd r11.1 (by omega)
      | succ j =>
        refine ⟨7, mX E (nI g) (nI (lo + (j + 1))) (nI (d + 1)) (nI (50 * tk k + p)) 7 0 (nI s) me op pt pd lc rt, mY Z (nI (d + 1)) (nI (lo + (j + 1))) (nI g) 7 (nI s) 0 gv gf 0 my pc ba lc wt gt op, ⟨_, _, _, _, _, _, _, _, _, _, _, _, _, _, _, _, _, _, _, _, _, _, _, rfl, rfl, f8⟩, fun post hp => ⟨2, xstep post 1 ?_⟩, fun post hp => ⟨1, ystep post 1 ?_⟩⟩
        · exact xe_get (w := lo + j) (by omega) (by omega) hms hm4 (fun r hr e => absurd z (by rw [e]; exact nI_pos (by omega))) (fun _ => kX_of (x_over (u := E) (by decide) hp))
        · exact y9_4 hus hm4 (fun r hr e => absurd z (by rw [e]; exact nI_pos (by omega))) (fun _ => br_f (nI_nle (Nat.succ_pos _) (by omega)) (br_f (by decide) (br_f (by decide) hp)))
    · cases j with
      | zero => exact absurd r11.1 (by omega)
      | succ j =>
        refine ⟨7, mX E (nI g) (nI (lo + (j + 1))) (nI (d + 1)) (nI (50 * tk k + p)) 7 0 (nI s) me op pt pd lc rt, mY Z (nI (d + 1)) (nI (lo + (j + 1))) (nI g) 7 (nI s) 0 gv gf 0 my pc ba lc wt gt op, ⟨_, _, _, _, _, _, _, _, _, _, _, _, _, _, _, _, _, _, _, _, _, _, _, rfl, rfl, f8⟩, fun post hp => ⟨2, xstep post 1 ?_⟩, fun post hp => ⟨1, ystep post 1 ?_⟩⟩
        · exact xe_get (w := lo + j) (by omega) (by omega) hms hm4 (fun r hr e => absurd z (by rw [e]; exact nI_ge hr (by omega))) (fun _ => kX_of (x_over (u := E) (by decide) hp))
        · exact y9_4 hus hm4 (fun r hr e => absurd z (by rw [e]; exact nI_ge hr (by omega))) (fun _ => br_f (nI_nle (Nat.succ_pos _) (by omega)) (br_f (by decide) (br_f (by decide) hp)))
    · refine s_fv hR IH (v := me r) (op := op) (lc := lc) (gv := gv) f1 f2 f3 f4 f5 f6 f7 f8 f9 f12 r1 hD r6 r7 r9 r10 r11 hmu (fun j' ej post f hf => ⟨f + 1, xstep post f ?_⟩) (fun j' ej post f hf => ⟨f, ystep post f ?_⟩)
      · subst ej
        refine xe_get (w := lo + j') (by omega) (by omega) hms hm4 (fun r' hr' e' => ?_) (fun z => ?_)
        · have := ba_inj (by omega) (by omega) (e.symm.trans e')
          subst this
          exact hf
        · exfalso
          rw [e] at z
          rcases z with z | z
          · exact nI_pos (by omega) z
          · exact nI_ge hr (by omega) z
      · subst ej
        refine y9_4 hus hm4 (fun r' hr' e' => ?_) (fun z => ?_)
        · have := ba_inj (by omega) (by omega) (e.symm.trans e')
          subst this
          rw [← f8 r hr]
          exact hf
        · exfalso
          rw [e] at z
          rcases z with z | z
          · exact nI_pos (by omega) z
          · exact nI_ge hr (by omega) z
  · by_cases h18 : pK Z k t0 = 18
    · have hO : pO Z k t0 = 1 := pO_1 (by omega)
      rw [h18] at xstep
      have ystep : ∀ (post : Int32 → SY → Prop) (f : Nat), w99Y (fun u => wkY post f u) (nI (550 + 50 * k + t0)) 18 (nI d) (op g) 0 (mY Z (nI (d + 1)) (nI (lo + j)) (nI g) 0 (nI s) 0 gv gf 0 my pc ba lc wt gt op) → wcY 0 post f (ys Z d (lo + (j + 1)) (g + pO Z k t0) s gv gf 0 my op lc pc ba wt gt) := fun post f hf => yc_pre (w := lo + j) hR f1 r2 (by omega) (by omega) (by omega) p3 h18 (by omega) (fun _ => hf) (fun z => by omega)
      rw [hO] at xstep ystep ⊢
      refine s_fv hR IH (v := if op g = 0 then 1 else 0) (op := op) (lc := lc) (gv := gv) f1 f2 f3 f4 f5 f6 f7 f8 f9 f12 r1 hD r6 r7 r9 r10 r11 hmu (fun j' ej post f hf => ⟨f + 1, xstep post f ?_⟩) (fun j' ej post f hf => ⟨f, ystep post f ?_⟩)
      · subst ej
        exact xe_not (w := lo + j') (by omega) (by omega) hf
      · subst ej
        exact y9_18 hf
    · have hO : pO Z k t0 = 2 := pO_2 (by omega)
      have ystep : ∀ (post : Int32 → SY → Prop) (f : Nat), w99Y (fun u => wkY post f u) (nI (550 + 50 * k + t0)) (nI (pK Z k t0)) (nI d) (op g) (op (g + 1)) (mY Z (nI (d + 1)) (nI (lo + j)) (nI g) 0 (nI s) 0 gv gf 0 my pc ba lc wt gt op) → wcY 0 post f (ys Z d (lo + (j + 1)) (g + pO Z k t0) s gv gf 0 my op lc pc ba wt gt) := fun post f hf => yc_pre (w := lo + j) hR f1 r2 (by omega) (by omega) (by omega) p3 rfl (by omega) (fun z => by omega) (fun _ => hf)
      rw [hO] at xstep ystep ⊢
      refine s_fv hR IH (v := tv (pK Z k t0) (op g) (op (g + 1))) (op := op) (lc := lc) (gv := gv) f1 f2 f3 f4 f5 f6 f7 f8 f9 f12 r1 hD r6 r7 r9 r10 r11 hmu (fun j' ej post f hf => ⟨f + 1, xstep post f ?_⟩) (fun j' ej post f hf => ⟨f, ystep post f ?_⟩)
      · subst ej
        exact xe_two (w := lo + j') (by omega) (by omega) (by omega) (by omega) hf
      · subst ej
        exact y9_two (by omega) (by omega) hf
theorem s_fS (hR : pR E Z n m tk ln D B pr) {t μ : Nat} (ht : t < 1000000) (IH : iH E Z n m tk ln D B (t + 1) μ) {d k p lo ho j s M t0 g du : Nat} {me my op lc pt pd wt gt rt pc ba : Nat → Int32} {gv gf : Int32}
    (f1 : k < n) (f2 : p < ln k) (f3 : 1 ≤ B k p) (f4 : d < 10) (f5 : s ≤ 200) (f6 : pc d = nI (550 + 50 * k + p)) (f7 : ba d = nI lo) (f8 : ∀ i, i < m → me i = my i) (f9 : lo + ho ≤ 50 * d) (f10 : lo + (j + 1) + (g + pO Z k t0) ≤ 50 * d + p) (f12 : fr Z n D B tk ln pt pd wt gt rt pc ba d lo ho M)
    (hP : cnP Z tk pt pd wt gt (lo + j) k t0 0) (r1 : t0 < p) (r2 : t0 < ln k) (r3 : 1 ≤ B k t0) (r6 : D k p = D k t0 - 1) (r7 : ∀ q, t0 < q → q < p → 1 ≤ D k q) (r9 : lo + j + g ≤ 50 * d + t0) (r10 : 1 ≤ du) (r11 : cn Z D B tk ln pt pd wt gt k d lo ho j t0 (D k t0) g du)
    (hmu : 160 * (200 - s) + M + 3 * (51 - p) + (lo + (j + 1)) < μ + 1) (hK : 18 < pK Z k t0 ∧ pK Z k t0 ≠ 23 ∧ pK Z k t0 ≠ 27) :
    sG E Z m (fun post f => wkX post f (nI t) (xs E tk d k p (lo + (j + 1)) (g + pO Z k t0) s me op lc pt pd rt)) (fun post f => wcY 0 post f (ys Z d (lo + (j + 1)) (g + pO Z k t0) s gv gf 0 my op lc pc ba wt gt)) := by
  have hR' := hR
  obtain ⟨hn5, hm4, _, hus, hms, hrow, hpo, hfo, huse⟩ := hR'
  obtain ⟨h5, h50, _, hT, hS, hJ⟩ := hrow k f1
  obtain ⟨c1, c2, c3, c4⟩ := hT t0 r2
  obtain ⟨p1, p2, p3, p4⟩ := hP
  have h9 := c4.1
  have h19 := c4.2.1
  have hD := in_S hS r2 r3 (by omega)
  have hD27 := ((hS.2.2.2 t0 r2 r3).2.2.1 hD).2
  rw [hD] at r11 r6
  obtain ⟨du1, rfl⟩ : ∃ q, du = q + 1 := ⟨du - 1, by omega⟩
  obtain ⟨ej, eg⟩ := cn_stmt r11
  subst ej
  subst eg
  have hO3 := pO3 hR f1 r2
  have hDp : D k p = 0 := by omega
  have xstep : ∀ (post : SX → Prop) (f : Nat), wpX_finishStatement (kX post f t) (mX E (nI (g + pO Z k t0)) (nI lo) (nI (d + 1)) (nI (50 * tk k + p)) (-2) 0 (nI s) me op pt pd lc rt) (nI (50 * tk k + t0)) → wkX post (f + 1) (nI t) (xs E tk d k p (lo + (0 + 1)) (g + pO Z k t0) s me op lc pt pd rt) := fun post f hf => x_fin (w := lo) ht (by omega) (by omega) p2 (xf_S (c := pK Z k t0) (by omega) (by omega) p1 c1 (by omega) h9 hf)
  -- what follows a statement at place x
  have next : ∀ (x : Nat) (me' my' lc' pc' : Nat → Int32), x < ln k → 1 ≤ B k x → D k x = 0 → p ≤ x → (∀ i, i < m → me' i = my' i) → pc' d = nI (550 + 50 * k + x) → (∀ i, i < d → pc' i = pc i) → sG E Z m (fun post f => wkX post f (nI (t + 1)) (xs E tk d k x lo g s me' op lc' pt pd rt)) (fun post f => wkY post f (ys Z d lo g s gv gf 0 my' op lc' pc' ba wt gt)) := by
    intro x me' my' lc' pc' x1 x2 x3 x4 x5 x6 x7
    have hwg := (wg_le Z k x 0 (by omega)).1
    exact IH d k x lo g 0 g 1 s M me' my' op lc' pt pd wt gt rt pc' ba gv gf ⟨f1, x1, x2, f4, f5, x6, f7, x5, f9, by omega, ⟨x3, rfl, by omega⟩, fr_ext (fun _ _ => ⟨rfl, rfl, rfl, rfl⟩) (fun _ _ => rfl) (fun i hi => ⟨x7 i hi, rfl⟩) f12⟩ (by omega)
  by_cases h21 : pK Z k t0 = 21
  · have hO : pO Z k t0 = 2 := pO_2 (by omega)
    have ystep : ∀ (post : Int32 → SY → Prop) (f : Nat), w99Y (fun u => wkY post f u) (nI (550 + 50 * k + t0)) 21 (nI d) (op g) (op (g + 1)) (mY Z (nI (d + 1)) (nI lo) (nI g) 0 (nI s) 0 gv gf 0 my pc ba lc wt gt op) → wcY 0 post f (ys Z d (lo + (0 + 1)) (g + pO Z k t0) s gv gf 0 my op lc pc ba wt gt) := fun post f hf => yc_pre (w := lo) hR f1 r2 (by omega) (by omega) (by omega) p3 h21 (by omega) (fun z => by omega) (fun _ => hf)
    rw [h21] at c1
    rw [hO] at xstep ystep ⊢
    rcases pk_ix (op g) (n := m) (by omega) with z | z | ⟨r, hr, e⟩
    · refine ⟨7, mX E (nI g) (nI lo) (nI (d + 1)) (nI (50 * tk k + p)) 7 0 (nI s) me op pt pd lc rt, mY Z (nI (d + 1)) (nI lo) (nI g) 7 (nI s) 0 gv gf 0 my pc ba lc wt gt op, ⟨_, _, _, _, _, _, _, _, _, _, _, _, _, _, _, _, _, _, _, _, _, _, _, rfl, rfl, f8⟩, fun post hp => ⟨2, xstep post 1 ?_⟩, fun post hp => ⟨1, ystep post 1 ?_⟩⟩
      · exact xs_21 (by omega) (by omega) c1 hms hm4 (fun r hr e => absurd z (by rw [e]; exact nI_pos (by omega))) (fun _ => kX_of (x_over (u := E) (by decide) hp))
      · exact y9_21 hus hm4 (fun r hr e => absurd z (by rw [e]; exact nI_pos (by omega))) (fun _ => br_f (nI_nle (Nat.succ_pos _) (by omega)) (br_f (by decide) (br_f (by decide) hp)))
    · refine ⟨7, mX E (nI g) (nI lo) (nI (d + 1)) (nI (50 * tk k + p)) 7 0 (nI s) me op pt pd lc rt, mY Z (nI (d + 1)) (nI lo) (nI g) 7 (nI s) 0 gv gf 0 my pc ba lc wt gt op, ⟨_, _, _, _, _, _, _, _, _, _, _, _, _, _, _, _, _, _, _, _, _, _, _, rfl, rfl, f8⟩, fun post hp => ⟨2, xstep post 1 ?_⟩, fun post hp => ⟨1, ystep post 1 ?_⟩⟩
      · exact xs_21 (by omega) (by omega) c1 hms hm4 (fun r hr e => absurd z (by rw [e]; exact nI_ge hr (by omega))) (fun _ => kX_of (x_over (u := E) (by decide) hp))
      · exact y9_21 hus hm4 (fun r hr e => absurd z (by rw [e]; exact nI_ge hr (by omega))) (fun _ => br_f (nI_nle (Nat.succ_pos _) (by omega)) (br_f (by decide) (br_f (by decide) hp)))
    · have hno : ¬ (op g < 0 ∨ nI m ≤ op g) := by
        rw [e]
        rintro (z | z)
        · exact nI_pos (by omega) z
        · exact nI_ge hr (by omega) z
      have hm' : ∀ i, i < m → upd me r (op (g + 1)) i = upd my r (op (g + 1)) i := by
        intro i hi
        by_cases z : i = r
        · rw [z, pk_us, pk_us]
        · rw [pk_un z, pk_un z]; exact f8 i hi
      refine sG_map (next p (upd me r (op (g + 1))) (upd my r (op (g + 1))) lc pc f2 f3 hDp (Nat.le_refl _) hm' f6 (fun _ _ => rfl)) (fun post f hf => ⟨f + 1, xstep post f ?_⟩) (fun post f hf => ⟨f, ystep post f ?_⟩)
      · refine xs_21 (by omega) (by omega) c1 hms hm4 (fun r' hr' e' => ?_) (fun z => absurd z hno)
        have := ba_inj (by omega) (by omega) (e.symm.trans e')
        subst this
        exact kX_of hf
      · refine y9_21 hus hm4 (fun r' hr' e' => ?_) (fun z => absurd z hno)
        have := ba_inj (by omega) (by omega) (e.symm.trans e')
        subst this
        exact hf
  · have hO : pO Z k t0 = 1 := pO_1 (by omega)
    have ystep : ∀ (post : Int32 → SY → Prop) (f : Nat), w99Y (fun u => wkY post f u) (nI (550 + 50 * k + t0)) (nI (pK Z k t0)) (nI d) (op g) 0 (mY Z (nI (d + 1)) (nI lo) (nI g) 0 (nI s) 0 gv gf 0 my pc ba lc wt gt op) → wcY 0 post f (ys Z d (lo + (0 + 1)) (g + pO Z k t0) s gv gf 0 my op lc pc ba wt gt) := fun post f hf => yc_pre (w := lo) hR f1 r2 (by omega) (by omega) (by omega) p3 rfl (by omega) (fun _ => hf) (fun z => by omega)
    rw [hO] at xstep ystep ⊢
    by_cases h20 : pK Z k t0 = 20
    · obtain ⟨q', hq, hv⟩ := c4.2.2.1 (Or.inr h20)
      rw [h20] at c1 ystep
      refine sG_map (next p me my (upd lc (6 * d + q') (op g)) pc f2 f3 hDp (Nat.le_refl _) f8 f6 (fun _ _ => rfl)) (fun post f hf => ⟨f + 1, xstep post f ?_⟩) (fun post f hf => ⟨f, ystep post f ?_⟩)
      · exact xs_20 (by omega) (by omega) c1 (c3.trans hv) hq f4 (kX_of hf)
      · exact y9_20 (by omega) hv hq f4 hf
    · by_cases h25 : pK Z k t0 = 25
      · rw [h25] at c1 ystep
        have := s_ret hR IH (v := op g) (op := op) (lc := lc) (nx := nI (50 * tk k + p)) (wa := nI lo) (gv := gv) (gf := gf) f4 f5 f8 f7 f12 (by omega)
        refine sG_map this (fun post f hf => ⟨f + 1, xstep post f ?_⟩) (fun post f hf => ⟨f, ystep post f ?_⟩)
        · exact xs_25 (by omega) (by omega) c1 hf
        · exact y9_25 hf
      · by_cases h26 : pK Z k t0 = 26
        · rw [h26] at c1 ystep
          refine sG_map (next p me my lc pc f2 f3 hDp (Nat.le_refl _) f8 f6 (fun _ _ => rfl)) (fun post f hf => ⟨f + 1, xstep post f ?_⟩) (fun post f hf => ⟨f, ystep post f ?_⟩)
          · exact xs_26 (by omega) (by omega) c1 (kX_of hf)
          · exact y9_26 hf
        · have hk2 : pK Z k t0 = 22 ∨ pK Z k t0 = 24 := by omega
          obtain ⟨j1, j2, j3, j4, j5, j6, j7⟩ := hJ.1 t0 r2 r3 (by omega)
          have hbt := (hS.2.2.2 t0 r2 r3).2.2.2.1 hk2
          have hDe : D k (pr k t0) = 0 := in_S hS j2 (by omega) (by omega)
          have hpe : p ≤ pr k t0 := by
            apply Classical.byContradiction
            intro z
            have := r7 (pr k t0) j1 (by omega)
            omega
          have haft : pr k t0 + 1 < ln k ∧ 1 ≤ B k (pr k t0 + 1) ∧ D k (pr k t0 + 1) = 0 := by
            by_cases z : pK Z k (pr k t0) = 27
            · exact after_end hS j2 z (pO_0 (Or.inr z)) (by omega)
            · have h23 : pK Z k (pr k t0) = 23 := by omega
              obtain ⟨g1, g2, g3⟩ := in_next hS j2 (by omega) z
              have := pO_0 (Z := Z) (k := k) (p := pr k t0) (Or.inl h23)
              exact ⟨g1, g2, by omega⟩
          by_cases hz : op g = 0
          · refine sG_map (next (pr k t0 + 1) me my lc (upd pc d (nI (550 + 50 * k + pr k t0 + 1))) haft.1 haft.2.1 haft.2.2 (by omega) f8 (by rw [pk_us, Nat.add_assoc]) (fun i hi => pk_un (by omega))) (fun post f hf => ⟨f + 1, xstep post f ?_⟩) (fun post f hf => ⟨f, ystep post f ?_⟩)
            · exact xs_22 (c := pK Z k t0) (by omega) (by omega) c1 hk2 j3 (fun _ => kX_of hf) (fun z => absurd hz z)
            · rcases hk2 with e | e
              · rw [e]
                exact y9_22 (fun _ => y_jump hR f1 f4 j1 j2 (Or.inr ⟨rfl, by omega, j7 e⟩) (by omega) j5 j6 hf) (fun z => absurd hz z)
              · rw [e]
                exact y9_24 (fun _ => y_jump hR f1 f4 j1 j2 (Or.inl ⟨rfl, by omega⟩) (by omega) j5 j6 hf) (fun z => absurd hz z)
          · refine sG_map (next p me my lc pc f2 f3 hDp (Nat.le_refl _) f8 f6 (fun _ _ => rfl)) (fun post f hf => ⟨f + 1, xstep post f ?_⟩) (fun post f hf => ⟨f, ystep post f ?_⟩)
            · exact xs_22 (c := pK Z k t0) (by omega) (by omega) c1 hk2 j3 (fun z => absurd z hz) (fun _ => kX_of hf)
            · rcases hk2 with e | e
              · rw [e]
                exact y9_22 (fun z => absurd z hz) (fun _ => hf)
              · rw [e]
                exact y9_24 (fun z => absurd z hz) (fun _ => hf)
/-- the two machines run alike -/
theorem s_all (hR : pR E Z n m tk ln D B pr) : ∀ μ t, t + μ ≤ 1000000 → iH E Z n m tk ln D B t μ := by
  intro μ
  induction μ with
  | zero => intro t _ d k p lo ho j h due s M me my op lc pt pd wt gt rt pc ba gv gf _ hmu; exact absurd hmu (Nat.not_lt_zero _)
  | succ μ ih =>
    intro t ht d k p lo ho j h due s M me my op lc pt pd wt gt rt pc ba gv gf hF hmu
    have IH := ih (t + 1) (by omega)
    have ht' : t < 1000000 := by omega
    cases due with
    | succ q =>
      by_cases h3 : pK Z k p ≤ 3
      · exact s_k0 hR ht' IH hF hmu h3
      · by_cases h23 : pK Z k p = 23
        · exact s_k23 hR ht' IH hF hmu h23
        · by_cases h24 : pK Z k p = 24
          · exact s_k24 hR ht' IH hF hmu h24
          · by_cases h27 : pK Z k p = 27
            · exact s_k27 hR ht' IH hF hmu h27
            · exact s_kd hR ht' IH hF hmu ⟨by omega, h23, h24, h27⟩
    | zero =>
      obtain ⟨f1, f2, f3, f4, f5, f6, f7, f8, f9, f10, f11, f12⟩ := hF
      cases j with
      | zero => exact absurd f11.2.2 (by omega)
      | succ j =>
        obtain ⟨t0, g, du, hP, r1, r2, r3, r4, r5, r6, r7, r8, r9, r10, r11⟩ := f11
        rw [wg_pl (by omega)] at hmu
        rw [Nat.sub_zero] at r8
        subst r8
        by_cases h5 : pK Z k t0 = 5
        · exact s_f5 hR ht' IH f1 f2 f3 f4 f5 f6 f7 f8 f9 f10 f12 hP r1 r2 r3 r6 r7 r9 r10 r11 hmu h5
        · by_cases h18 : pK Z k t0 ≤ 18
          · exact s_fE hR ht' IH f1 f2 f3 f4 f5 f6 f7 f8 f9 f10 f12 hP r1 r2 r3 r6 r7 r9 r10 r11 hmu ⟨r4.1, h18, h5⟩
          · exact s_fS hR ht' IH f1 f2 f3 f4 f5 f6 f7 f8 f9 f10 f12 hP r1 r2 r3 r6 r7 r9 r10 r11 hmu ⟨by omega, r4.2.1, r4.2.2⟩
end
