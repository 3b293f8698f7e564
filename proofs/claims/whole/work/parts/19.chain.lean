/-! chains of pending tokens, suspended functions, and what both machines end in -/
theorem in_next {K N : Nat → Nat} {c : Nat} {D B : Nat → Nat} (hS : wf_S K N c D B) {p : Nat} (hp : p < c) (hb : 1 ≤ B p) (hne : K p ≠ 27) : p + 1 < c ∧ 1 ≤ B (p + 1) ∧ D (p + 1) = D p - 1 + N p := by
  have h1 : 1 ≤ B (p + 1) := by rcases B_le hS hp hb with h | h | h <;> omega
  refine ⟨?_, h1, (hS.2.2.2 p hp hb).1⟩
  apply Classical.byContradiction
  intro z
  have : p + 1 = c := by omega
  rw [this, hS.1] at h1
  omega
theorem in_E {K N : Nat → Nat} {c : Nat} {D B : Nat → Nat} (hS : wf_S K N c D B) {p : Nat} (hp : p < c) (hb : 1 ≤ B p) (hk : K p ≤ 19) : 1 ≤ D p := by
  apply Classical.byContradiction
  intro z
  have := (hS.2.2.2 p hp hb).2.2.1 (by omega)
  omega
theorem in_S {K N : Nat → Nat} {c : Nat} {D B : Nat → Nat} (hS : wf_S K N c D B) {p : Nat} (hp : p < c) (hb : 1 ≤ B p) (hk : 19 ≤ K p) : D p = 0 := by
  apply Classical.byContradiction
  intro z
  have := (hS.2.2.2 p hp hb).2.1 (by omega)
  omega
section
variable (Z : SY) (n : Nat) (D B : Nat → Nat → Nat) (tk ln : Nat → Nat)
def cnP (pt pd wt gt : Nat → Int32) (j k t due : Nat) : Prop := pt j = nI (50 * tk k + t) ∧ pd j = nI due ∧ wt j = nI (550 + 50 * k + t) ∧ gt j = nI (pO Z k t - due)
def cn (pt pd wt gt : Nat → Int32) (k f lo ho : Nat) : Nat → Nat → Nat → Nat → Nat → Prop
  | 0, _, dx, h, due => dx = 0 ∧ h = ho ∧ 1 ≤ due
  | j + 1, x, dx, h, due => ∃ t g du, cnP Z tk pt pd wt gt (lo + j) k t due ∧ t < x ∧ t < ln k ∧ 1 ≤ B k t ∧ (4 ≤ pK Z k t ∧ pK Z k t ≠ 23 ∧ pK Z k t ≠ 27) ∧ due ≤ pO Z k t ∧ dx = D k t - 1 + due ∧ (∀ q, t < q → q < x → 1 ≤ D k q) ∧ h = g + (pO Z k t - due) ∧ lo + j + g ≤ 50 * f + t ∧ 1 ≤ du ∧ cn pt pd wt gt k f lo ho j t (D k t) g du
def fr (pt pd wt gt rt pc ba : Nat → Int32) : Nat → Nat → Nat → Nat → Prop
  | 0, lo, ho, M => lo = 0 ∧ ho = 0 ∧ M = 0
  | d + 1, lo, ho, M => ∃ k p lo' ho' j due M', k < n ∧ p < ln k ∧ 1 ≤ B k p ∧ rt (d + 1) = nI (50 * tk k + p) ∧ pc d = nI (550 + 50 * k + p) ∧ ba d = nI lo' ∧ lo = lo' + (j + 1) ∧ 1 ≤ due ∧ cn Z D B tk ln pt pd wt gt k d lo' ho' (j + 1) p (D k p + 1) ho due ∧ lo + ho + 1 ≤ 50 * d + p ∧ lo' + ho' ≤ 50 * d ∧ M = M' + 3 * (51 - p) ∧ fr pt pd wt gt rt pc ba d lo' ho' M'
variable {Z n D B tk ln}
theorem cn_ext {pt pd wt gt pt' pd' wt' gt' : Nat → Int32} {k f lo ho : Nat} : ∀ {j x dx h due}, (∀ i, i < lo + j → pt' i = pt i ∧ pd' i = pd i ∧ wt' i = wt i ∧ gt' i = gt i) → cn Z D B tk ln pt pd wt gt k f lo ho j x dx h due → cn Z D B tk ln pt' pd' wt' gt' k f lo ho j x dx h due := by
  intro j
  induction j with
  | zero => exact fun _ h => h
  | succ j ih =>
    intro x dx h due he hc
    obtain ⟨t, g, du, ⟨p1, p2, p3, p4⟩, r1, r2, r3, r4, r5, r6, r7, r8, r9, r10, r11⟩ := hc
    obtain ⟨e1, e2, e3, e4⟩ := he (lo + j) (by omega)
    exact ⟨t, g, du, ⟨by rw [e1, p1], by rw [e2, p2], by rw [e3, p3], by rw [e4, p4]⟩, r1, r2, r3, r4, r5, r6, r7, r8, r9, r10, ih (fun i hi => he i (by omega)) r11⟩
/-- the place moves on behind the chain -/
theorem cn_adv {pt pd wt gt : Nat → Int32} {k f lo ho j x y dx h due : Nat} (hxy : x ≤ y) (hD : ∀ q, x ≤ q → q < y → 1 ≤ D k q) (hc : cn Z D B tk ln pt pd wt gt k f lo ho (j + 1) x dx h due) : cn Z D B tk ln pt pd wt gt k f lo ho (j + 1) y dx h due := by
  obtain ⟨t, g, du, p, r1, r2, r3, r4, r5, r6, r7, r8, r9, r10, r11⟩ := hc
  refine ⟨t, g, du, p, by omega, r2, r3, r4, r5, r6, fun q a b => ?_, r8, r9, r10, r11⟩
  by_cases z : q < x
  · exact r7 q a z
  · exact hD q (by omega) b
theorem fr_ext {pt pd wt gt rt pc ba pt' pd' wt' gt' rt' pc' ba' : Nat → Int32} : ∀ {d lo ho M}, (∀ i, i < lo → pt' i = pt i ∧ pd' i = pd i ∧ wt' i = wt i ∧ gt' i = gt i) → (∀ i, i ≤ d → rt' i = rt i) → (∀ i, i < d → pc' i = pc i ∧ ba' i = ba i) → fr Z n D B tk ln pt pd wt gt rt pc ba d lo ho M → fr Z n D B tk ln pt' pd' wt' gt' rt' pc' ba' d lo ho M := by
  intro d
  induction d with
  | zero => exact fun _ _ _ h => h
  | succ d ih =>
    intro lo ho M h1 h2 h3 hf
    obtain ⟨k, p, lo', ho', j, due, M', r1, r2, r3, r4, r5, r6, r7, r8, r9, r10, r11, r12, r13⟩ := hf
    refine ⟨k, p, lo', ho', j, due, M', r1, r2, r3, by rw [h2 _ (by omega), r4], by rw [(h3 d (by omega)).1, r5], by rw [(h3 d (by omega)).2, r6], r7, r8, cn_ext (fun i hi => h1 i (by omega)) r9, r10, r11, r12, ih (fun i hi => h1 i (by omega)) (fun i hi => h2 i (by omega)) (fun i hi => h3 i (by omega)) r13⟩
theorem cn_h {pt pd wt gt : Nat → Int32} {k f lo ho : Nat} : ∀ {j x dx h due}, cn Z D B tk ln pt pd wt gt k f lo ho j x dx h due → ho ≤ h := by
  intro j
  induction j with
  | zero => intro x dx h due hc; rw [hc.2.1]; exact Nat.le_refl _
  | succ j ih =>
    intro x dx h due hc
    obtain ⟨t, g, du, p, r1, r2, r3, r4, r5, r6, r7, r8, r9, r10, r11⟩ := hc
    have := ih r11
    omega
end
/-- the end of a run on both sides, with answer o -/
def fN (E : SX) (Z : SY) (m : Nat) (o : Int32) (x : SX) (y : SY) : Prop := ∃ (oc pc fc nx lr sc de wa he gv gf ha : Int32) (me my op lc pt pd rt cp ba wt gt : Nat → Int32), x = mX E oc pc fc nx o lr sc me op pt pd lc rt ∧ y = mY Z de wa he o sc lr gv gf ha my cp ba lc wt gt op ∧ ∀ i, i < m → me i = my i
def sG (E : SX) (Z : SY) (m : Nat) (PX : (SX → Prop) → Nat → Prop) (PY : (Int32 → SY → Prop) → Nat → Prop) : Prop := ∃ o x y, fN E Z m o x y ∧ (∀ post, post x → ∃ f, PX post f) ∧ (∀ post, post o y → ∃ f, PY post f)
theorem sG_map {E : SX} {Z : SY} {m : Nat} {PX PX' : (SX → Prop) → Nat → Prop} {PY PY' : (Int32 → SY → Prop) → Nat → Prop} (h : sG E Z m PX PY) (hx : ∀ post f, PX post f → ∃ f', PX' post f') (hy : ∀ post f, PY post f → ∃ f', PY' post f') : sG E Z m PX' PY' := by
  obtain ⟨o, x, y, a, b, c⟩ := h
  refine ⟨o, x, y, a, fun post hp => ?_, fun post hp => ?_⟩
  · obtain ⟨f, hf⟩ := b post hp
    exact hx post f hf
  · obtain ⟨f, hf⟩ := c post hp
    exact hy post f hf
def xs (E : SX) (tk : Nat → Nat) (d k p w h s : Nat) (me op lc pt pd rt : Nat → Int32) : SX := mX E (nI h) (nI w) (nI (d + 1)) (nI (50 * tk k + p)) (-2) 0 (nI s) me op pt pd lc rt
def ys (Z : SY) (d w h s : Nat) (gv gf ha : Int32) (my op lc pc ba wt gt : Nat → Int32) : SY := mY Z (nI (d + 1)) (nI w) (nI h) 0 (nI s) 0 gv gf ha my pc ba lc wt gt op
/-- the weight of the place of the function at work -/
def wg (Z : SY) (k p j : Nat) : Nat := if j = 0 ∧ pK Z k p = 24 then 1 else 3 * (51 - p)
theorem wg_le (Z : SY) (k p j : Nat) (hp : p < 50) : wg Z k p j ≤ 3 * (51 - p) ∧ 1 ≤ wg Z k p j := by
  unfold wg
  split <;> omega
theorem wg_pl {Z : SY} {k p j : Nat} (h : ¬ (j = 0 ∧ pK Z k p = 24)) : wg Z k p j = 3 * (51 - p) := if_neg h
/-- what ties the two machines -/
def mF (Z : SY) (n m : Nat) (tk ln : Nat → Nat) (D B : Nat → Nat → Nat) (d k p lo ho j h due s M : Nat) (me my pt pd wt gt rt pc ba : Nat → Int32) : Prop := k < n ∧ p < ln k ∧ 1 ≤ B k p ∧ d < 10 ∧ s ≤ 200 ∧ pc d = nI (550 + 50 * k + p) ∧ ba d = nI lo ∧ (∀ i, i < m → me i = my i) ∧ lo + ho ≤ 50 * d ∧ lo + j + h ≤ 50 * d + p ∧ cn Z D B tk ln pt pd wt gt k d lo ho j p (D k p) h due ∧ fr Z n D B tk ln pt pd wt gt rt pc ba d lo ho M
def iH (E : SX) (Z : SY) (n m : Nat) (tk ln : Nat → Nat) (D B : Nat → Nat → Nat) (t μ : Nat) : Prop := ∀ d k p lo ho j h due s M me my op lc pt pd wt gt rt pc ba gv gf, mF Z n m tk ln D B d k p lo ho j h due s M me my pt pd wt gt rt pc ba → 160 * (200 - s) + M + wg Z k p j + (lo + j) < μ → sG E Z m (fun post f => wkX post f (nI t) (xs E tk d k p (lo + j) h s me op lc pt pd rt)) (fun post f => wcY due post f (ys Z d (lo + j) h s gv gf 0 my op lc pc ba wt gt))
section
variable {E : SX} {Z : SY} {n m : Nat} {tk ln : Nat → Nat} {D B pr : Nat → Nat → Nat}
theorem pO3 (hR : pR E Z n m tk ln D B pr) {k i : Nat} (hk : k < n) (hi : i < ln k) : pO Z k i ≤ 3 := by
  obtain ⟨_, _, _, _, _, h6, _⟩ := hR
  obtain ⟨_, _, _, hT, _⟩ := h6 k hk
  exact tk_n3 (hT i hi).2.2.2
/-- a value is given and delivered -/
theorem s_give (hR : pR E Z n m tk ln D B pr) {t μ : Nat} (IH : iH E Z n m tk ln D B t μ) {d k p lo ho j h due s M : Nat} {me my op lc pt pd wt gt rt pc ba : Nat → Int32} {gv v : Int32}
    (hk : k < n) (hp : p < ln k) (hb : 1 ≤ B k p) (hd : d < 10) (hs : s ≤ 200) (hpc : pc d = nI (550 + 50 * k + p)) (hba : ba d = nI lo) (hm : ∀ i, i < m → me i = my i) (hlo : lo + ho ≤ 50 * d) (hw : lo + (j + 1) + (h + 1) ≤ 50 * d + p)
    (hc : cn Z D B tk ln pt pd wt gt k d lo ho (j + 1) p (D k p + 1) h due) (hdu : 1 ≤ due) (hf : fr Z n D B tk ln pt pd wt gt rt pc ba d lo ho M) (hmu : 160 * (200 - s) + M + 3 * (51 - p) + (lo + (j + 1)) < μ) :
    sG E Z m (fun post f => wkX post f (nI t) (xs E tk d k p (lo + j + 1) (h + 1) s me (upd op h v) lc pt (upd pd (lo + j) (pd (lo + j) - 1)) rt)) (fun post f => wkY post f (ys Z d (lo + j + 1) h s gv v 1 my op lc pc ba wt gt)) := by
  have h50 := (hR.2.2.2.2.2.1 k hk).2.1
  obtain ⟨du1, rfl⟩ : ∃ q, due = q + 1 := ⟨due - 1, by omega⟩
  obtain ⟨t0, g, du, ⟨p1, p2, p3, p4⟩, r1, r2, r3, r4, r5, r6, r7, r8, r9, r10, r11⟩ := hc
  have hO3 := pO3 hR hk r2
  have epd : pd (lo + j) - 1 = nI du1 := by rw [p2]; exact nI_pred du1
  have hne : ∀ i, i < lo + j → pt i = pt i ∧ upd pd (lo + j) (nI du1) i = pd i ∧ wt i = wt i ∧ upd gt (lo + j) (nI (pO Z k t0 - du1)) i = gt i := fun i hi => ⟨rfl, pk_un (by omega), rfl, pk_un (by omega)⟩
  have := IH d k p lo ho (j + 1) (h + 1) du1 s M me my (upd op h v) lc pt (upd pd (lo + j) (nI du1)) wt (upd gt (lo + j) (nI (pO Z k t0 - du1))) rt pc ba gv v
    ⟨hk, hp, hb, hd, hs, hpc, hba, hm, hlo, by omega, ⟨t0, g, du, ⟨p1, pk_us, p3, pk_us⟩, r1, r2, r3, r4, by omega, by omega, r7, by omega, r9, r10, cn_ext hne r11⟩, fr_ext (fun i hi => hne i (by omega)) (fun _ _ => rfl) (fun _ _ => ⟨rfl, rfl⟩) hf⟩ (by rw [wg_pl (by omega)]; omega)
  refine sG_map this (fun post f hf => ⟨f, ?_⟩) (fun post f hf => ⟨f + 1, ?_⟩)
  · rw [epd]; exact hf
  · have ede : (nI (d + 1)).toNatClampNeg = d + 1 := nI_clamp (by omega)
    exact y_deliver (due := du1) hR hk r2 (by omega) (by omega) (by rw [ede]; omega) (by rw [ede]) (by rw [ede]; omega) p3 p4 r5 hO3 hf
end
