/-! the two machines run alike -/
section
variable {E : SX} {Z : SY} {n m : Nat} {tk ln : Nat → Nat} {D B pr : Nat → Nat → Nat}
def tpD (pd : Nat → Int32) (w : Nat) : Prop := w = 0 ∨ ∃ w', w = w' + 1 ∧ w' < 500 ∧ ∃ q, pd w' = nI (q + 1) ∧ q < 100
theorem top_due (hR : pR E Z n m tk ln D B pr) {d k p lo ho j h q s M : Nat} {me my pt pd wt gt rt pc ba : Nat → Int32} (hF : mF Z n m tk ln D B d k p lo ho j h (q + 1) s M me my pt pd wt gt rt pc ba) : tpD pd (lo + j) := by
  obtain ⟨f1, f2, f3, f4, f5, f6, f7, f8, f9, f10, f11, f12⟩ := hF
  have h50 := (hR.2.2.2.2.2.1 k f1).2.1
  cases j with
  | succ j =>
    obtain ⟨t, g, du, ⟨p1, p2, p3, p4⟩, r1, r2, r3, r4, r5, r6, r7, r8, r9, r10, r11⟩ := f11
    have := pO3 hR f1 r2
    exact Or.inr ⟨lo + j, rfl, by omega, q, p2, by omega⟩
  | zero =>
    cases d with
    | zero => exact Or.inl f12.1
    | succ d =>
      obtain ⟨k', p', lo', ho', j', due, M', r1, r2, r3, r4, r5, r6, r7, r8, r9, r10, r11, r12, r13⟩ := f12
      obtain ⟨t, g, du, ⟨p1, p2, p3, p4⟩, s1, s2, s3, s4, s5, s6, s7, s8, s9, s10, s11⟩ := r9
      have := pO3 hR r1 s2
      refine Or.inr ⟨lo' + j', by omega, by omega, due - 1, ?_, by omega⟩
      rw [p2]; exact congrArg nI (by omega)
theorem s_ret (hR : pR E Z n m tk ln D B pr) {t μ : Nat} (IH : iH E Z n m tk ln D B (t + 1) μ) {d lo ho s M : Nat} {me my op lc pt pd wt gt rt pc ba : Nat → Int32} {nx wa gv gf v : Int32} (hd : d < 10) (hs : s ≤ 200) (hm : ∀ i, i < m → me i = my i) (hba : ba d = nI lo) (hf : fr Z n D B tk ln pt pd wt gt rt pc ba d lo ho M) (hmu : 160 * (200 - s) + M + lo < μ) :
    sG E Z m (fun post f => wpX_endFunction (kX post f t) (mX E (nI ho) (nI lo) (nI (d + 1)) nx (-2) 0 (nI s) me op pt pd lc rt) v) (fun post f => wpY_leave (fun u => wkY post f u) (mY Z (nI (d + 1)) wa (nI ho) 0 (nI s) 0 gv gf 0 my pc ba lc wt gt op) v) := by
  cases d with
  | zero =>
    refine ⟨0, mX E (nI ho) (nI lo) (nI 0) (rt 0) 0 v (nI s) me op pt pd lc rt, mY Z (nI 0) (ba 0) (nI ho) 0 (nI s) v v gf 0 my pc ba lc wt gt op, ⟨_, _, _, _, _, _, _, _, _, _, _, _, _, _, _, _, _, _, _, _, _, _, _, rfl, rfl, hm⟩, fun post hp => ⟨1, ?_⟩, fun post hp => ⟨1, ?_⟩⟩
    · exact x_end (by omega) (fun _ => kX_of (x_over (u := E) (by decide) hp)) (fun z => absurd rfl z)
    · exact y_leave (by omega) (fun _ => br_t (by decide) (br_t rfl hp)) (fun z => absurd rfl z)
  | succ d =>
    obtain ⟨k, p, lo', ho', j, due, M', r1, r2, r3, r4, r5, r6, r7, r8, r9, r10, r11, r12, r13⟩ := hf
    subst r7
    have h50 := (hR.2.2.2.2.2.1 k r1).2.1
    have := s_give hR IH (v := v) (op := op) (lc := lc) (gv := gv) r1 r2 r3 (by omega) hs r5 r6 hm r11 (by omega) r9 r8 r13 (by omega)
    refine sG_map this (fun post f hf => ⟨f, ?_⟩) (fun post f hf => ⟨f, ?_⟩)
    · refine x_end (by omega) (fun z => absurd z (by omega)) (fun _ => ?_)
      rw [r4]
      exact x_give (w := lo' + j) (by omega) (by omega) (kX_of hf)
    · refine y_leave (by omega) (fun z => absurd z (by omega)) (fun _ => ?_)
      rw [hba]
      exact hf
/-- a token that is a value -/
theorem s_leaf (hR : pR E Z n m tk ln D B pr) {t μ : Nat} (ht : t < 1000000) (IH : iH E Z n m tk ln D B (t + 1) μ) {d k p lo ho j h q s M : Nat} {me my op lc pt pd wt gt rt pc ba : Nat → Int32} {gv gf v : Int32} (hF : mF Z n m tk ln D B d k p lo ho j h (q + 1) s M me my pt pd wt gt rt pc ba) (hmu : 160 * (200 - s) + M + wg Z k p j + (lo + j) < μ + 1) (hK : pK Z k p ≤ 3)
    (hX : ∀ (w : Nat) (P : SX → Prop), w < 500 → P (mX E (nI (h + 1)) (nI (w + 1)) (nI (d + 1)) (nI (50 * tk k + p + 1)) (-2) 0 (nI s) me (upd op h v) pt (upd pd w (pd w - 1)) lc rt) → wpX_takeToken P (mX E (nI h) (nI (w + 1)) (nI (d + 1)) (nI (50 * tk k + p)) (-2) 0 (nI s) me op pt pd lc rt))
    (hY : ∀ (w : Nat) (post : Int32 → SY → Prop) (f : Nat), wkY post f (mY Z (nI (d + 1)) (nI w) (nI h) 0 (nI s) 0 gv v 1 my (upd pc d (nI (550 + 50 * k + (p + 1)))) ba lc wt gt op) → wkY post (f + 1) (mY Z (nI (d + 1)) (nI w) (nI h) 0 (nI s) 0 gv gf 0 my pc ba lc wt gt op)) :
    sG E Z m (fun post f => wkX post f (nI t) (xs E tk d k p (lo + j) h s me op lc pt pd rt)) (fun post f => wcY (q + 1) post f (ys Z d (lo + j) h s gv gf 0 my op lc pc ba wt gt)) := by
  have htop := top_due hR hF
  obtain ⟨f1, f2, f3, f4, f5, f6, f7, f8, f9, f10, f11, f12⟩ := hF
  obtain ⟨h5, h50, _, hT, hS, _⟩ := hR.2.2.2.2.2.1 k f1
  have hD := in_E hS f2 f3 (by omega)
  obtain ⟨g1, g2, g3⟩ := in_next hS f2 f3 (by omega)
  have hO : pO Z k p = 0 := by unfold pO tk_n; rw [if_pos (by omega)]
  rw [hO] at g3
  cases j with
  | zero => exact absurd f11.1 (by omega)
  | succ j =>
    have hdx : D k p = D k (p + 1) + 1 := by clear f11 f12; omega
    rw [hdx] at f11
    rw [wg_pl (by omega)] at hmu
    have := s_give hR IH (v := v) (op := op) (lc := lc) (gv := gv) (pc := upd pc d (nI (550 + 50 * k + (p + 1)))) f1 g1 g2 f4 f5 pk_us f7 f8 f9 (by omega) (cn_adv (by omega) (fun q a b => by rw [show q = p by omega]; exact hD) f11) (by omega) (fr_ext (fun _ _ => ⟨rfl, rfl, rfl, rfl⟩) (fun _ _ => rfl) (fun i hi => ⟨pk_un (by omega), rfl⟩) f12) (by omega)
    refine sG_map this (fun post f hf => ⟨f + 1, ?_⟩) (fun post f hf => ⟨f + 1, ?_⟩)
    · exact x_take ht (by omega) htop (hX (lo + j) _ (by omega) (kX_of hf))
    · exact hY (lo + j + 1) post f hf
theorem s_k0 (hR : pR E Z n m tk ln D B pr) {t μ : Nat} (ht : t < 1000000) (IH : iH E Z n m tk ln D B (t + 1) μ) {d k p lo ho j h q s M : Nat} {me my op lc pt pd wt gt rt pc ba : Nat → Int32} {gv gf : Int32} (hF : mF Z n m tk ln D B d k p lo ho j h (q + 1) s M me my pt pd wt gt rt pc ba) (hmu : 160 * (200 - s) + M + wg Z k p j + (lo + j) < μ + 1) (hK : pK Z k p ≤ 3) :
    sG E Z m (fun post f => wkX post f (nI t) (xs E tk d k p (lo + j) h s me op lc pt pd rt)) (fun post f => wcY (q + 1) post f (ys Z d (lo + j) h s gv gf 0 my op lc pc ba wt gt)) := by
  have hF' := hF
  obtain ⟨f1, f2, f3, f4, f5, f6, f7, f8, f9, f10, f11, f12⟩ := hF'
  have hR' := hR
  obtain ⟨_, hm4, _, _, hms, hrow, hpo, _, huse⟩ := hR'
  obtain ⟨h5, h50, _, hT, hS, _⟩ := hrow k f1
  obtain ⟨c1, c2, c3, c4⟩ := hT p f2
  have ha : 50 * tk k + p < 250 := by omega
  have hh : h < 500 := by omega
  rcases (by omega : pK Z k p = 0 ∨ pK Z k p = 1 ∨ pK Z k p = 2 ∨ pK Z k p = 3) with e | e | e | e
  · rw [e] at c1
    refine s_leaf hR ht IH (v := xCV E (50 * tk k + p)) hF hmu hK (fun w P hw hP => xt0 ha hh hw c1 hP) (fun w post f hf => yt0 hR f1 f2 f4 f6 e ?_)
    rw [← c3]; exact hf
  · obtain ⟨q', hq, hv⟩ := c4.2.2.1 (Or.inl e)
    rw [e] at c1
    exact s_leaf hR ht IH (v := lc (6 * d + q')) hF hmu hK (fun w P hw hP => xt1 ha hh hw c1 (c3.trans hv) hq f4 hP) (fun w post f hf => yt1 hR f1 f2 f4 f6 e hv hq hf)
  · obtain ⟨q', hq, hv⟩ := c4.2.2.2.1 (Or.inl e)
    obtain ⟨r, hr, hpl⟩ := (huse k f1 p f2).1 e
    have eV : pV Z k p = q' := by
      show (yV Z (550 + 50 * k + p)).toNatClampNeg = q'
      rw [hv, nI_clamp (by omega)]
    rw [eV] at hpl
    rw [e] at c1
    refine s_leaf hR ht IH (v := me r) hF hmu hK (fun w P hw hP => xt2 ha hh hw c1 (c3.trans hv) hq ((hpo q' hq).trans hpl) hr hms hm4 hP) (fun w post f hf => yt2 hR f1 f2 f4 f6 e hv hq (by omega) hpl ?_)
    rw [← f8 r hr]; exact hf
  · obtain ⟨q', hq, hv⟩ := c4.2.2.2.1 (Or.inr e)
    rw [e] at c1
    refine s_leaf hR ht IH (v := xPO E q') hF hmu hK (fun w P hw hP => xt3 ha hh hw c1 (c3.trans hv) hq hP) (fun w post f hf => yt3 hR f1 f2 f4 f6 e hv hq ?_)
    rw [← hpo q' hq]; exact hf
/-- a token that waits for operands -/
theorem s_kd (hR : pR E Z n m tk ln D B pr) {t μ : Nat} (ht : t < 1000000) (IH : iH E Z n m tk ln D B (t + 1) μ) {d k p lo ho j h q s M : Nat} {me my op lc pt pd wt gt rt pc ba : Nat → Int32} {gv gf : Int32} (hF : mF Z n m tk ln D B d k p lo ho j h (q + 1) s M me my pt pd wt gt rt pc ba) (hmu : 160 * (200 - s) + M + wg Z k p j + (lo + j) < μ + 1) (hK : 4 ≤ pK Z k p ∧ pK Z k p ≠ 23 ∧ pK Z k p ≠ 24 ∧ pK Z k p ≠ 27) :
    sG E Z m (fun post f => wkX post f (nI t) (xs E tk d k p (lo + j) h s me op lc pt pd rt)) (fun post f => wcY (q + 1) post f (ys Z d (lo + j) h s gv gf 0 my op lc pc ba wt gt)) := by
  have htop := top_due hR hF
  obtain ⟨f1, f2, f3, f4, f5, f6, f7, f8, f9, f10, f11, f12⟩ := hF
  obtain ⟨h5, h50, _, hT, hS, _⟩ := hR.2.2.2.2.2.1 k f1
  obtain ⟨c1, c2, c3, c4⟩ := hT p f2
  have h29 : pK Z k p ≠ 29 := fun z => by
    by_cases zd : D k p = 0
    · have := ((hS.2.2.2 p f2 f3).2.2.1 zd).2; omega
    · have := (hS.2.2.2 p f2 f3).2.1 (by omega); omega
  obtain ⟨g1, g2, g3⟩ := in_next hS f2 f3 hK.2.2.2
  rw [wg_pl (by omega)] at hmu
  have hO3 := pO3 hR f1 f2
  have hext : ∀ i, i < lo + j → upd pt (lo + j) (nI (50 * tk k + p)) i = pt i ∧ upd pd (lo + j) (nI (pO Z k p)) i = pd i ∧ upd wt (lo + j) (nI (550 + 50 * k + p)) i = wt i ∧ upd gt (lo + j) (nI 0) i = gt i := fun i hi => ⟨pk_un (by omega), pk_un (by omega), pk_un (by omega), pk_un (by omega)⟩
  have := IH d k (p + 1) lo ho (j + 1) h (pO Z k p) s M me my op lc (upd pt (lo + j) (nI (50 * tk k + p))) (upd pd (lo + j) (nI (pO Z k p))) (upd wt (lo + j) (nI (550 + 50 * k + p))) (upd gt (lo + j) (nI 0)) rt (upd pc d (nI (550 + 50 * k + (p + 1)))) ba gv gf
    ⟨f1, g1, g2, f4, f5, pk_us, f7, f8, f9, by omega, ⟨p, h, q + 1, ⟨pk_us, pk_us, pk_us, by rw [pk_us]; exact congrArg nI (by omega)⟩, by omega, f2, f3, ⟨hK.1, hK.2.1, hK.2.2.2⟩, Nat.le_refl _, g3, fun q a b => by omega, by omega, by omega, by omega, cn_ext hext f11⟩, fr_ext (fun i hi => hext i (by omega)) (fun _ _ => rfl) (fun i hi => ⟨pk_un (by omega), rfl⟩) f12⟩ (by rw [wg_pl (by omega)]; omega)
  refine sG_map this (fun post f hf => ⟨f + 1, ?_⟩) (fun post f hf => ⟨f + 1, ?_⟩)
  · refine x_take ht (by omega) htop (xtd (c := pK Z k p) (by omega) (by omega) c1 (by rw [c3]; exact c4) ⟨hK.1, hK.2.1, hK.2.2.1, hK.2.2.2, h29⟩ (kX_of ?_))
    rw [c3]
    exact hf
  · exact ytd hR f1 f2 f4 f6 rfl hK (by omega) hf
theorem s_k24 (hR : pR E Z n m tk ln D B pr) {t μ : Nat} (ht : t < 1000000) (IH : iH E Z n m tk ln D B (t + 1) μ) {d k p lo ho j h q s M : Nat} {me my op lc pt pd wt gt rt pc ba : Nat → Int32} {gv gf : Int32} (hF : mF Z n m tk ln D B d k p lo ho j h (q + 1) s M me my pt pd wt gt rt pc ba) (hmu : 160 * (200 - s) + M + wg Z k p j + (lo + j) < μ + 1) (hK : pK Z k p = 24) :
    sG E Z m (fun post f => wkX post f (nI t) (xs E tk d k p (lo + j) h s me op lc pt pd rt)) (fun post f => wcY (q + 1) post f (ys Z d (lo + j) h s gv gf 0 my op lc pc ba wt gt)) := by
  have htop := top_due hR hF
  obtain ⟨f1, f2, f3, f4, f5, f6, f7, f8, f9, f10, f11, f12⟩ := hF
  obtain ⟨h5, h50, _, hT, hS, _⟩ := hR.2.2.2.2.2.1 k f1
  obtain ⟨c1, c2, c3, c4⟩ := hT p f2
  obtain ⟨g1, g2, g3⟩ := in_next hS f2 f3 (by omega)
  have hO : pO Z k p = 1 := by unfold pO; rw [hK]; rfl
  have hw1 := (wg_le Z k p j (by omega)).2
  rw [hK] at c1 c4
  have c4' : tk_P 24 (xCV E (50 * tk k + p)) := by rw [c3]; exact c4
  by_cases hs : s = 200
  · refine ⟨8, mX E (nI h) (nI (lo + j)) (nI (d + 1)) (nI (50 * tk k + p + 1)) 8 0 (nI s) me op pt pd lc rt, mY Z (nI (d + 1)) (nI (lo + j)) (nI h) 8 (nI s) 0 gv gf 0 my (upd pc d (nI (550 + 50 * k + (p + 1)))) ba lc wt gt op, ⟨_, _, _, _, _, _, _, _, _, _, _, _, _, _, _, _, _, _, _, _, _, _, _, rfl, rfl, f8⟩, fun post hp => ⟨2, ?_⟩, fun post hp => ⟨2, ?_⟩⟩
    · exact x_take ht (by omega) htop (xt24 (by omega) (by omega) f5 c1 c4' (fun _ => kX_of (x_over (u := E) (by decide) hp)) (fun z => absurd z (by omega)))
    · exact yt24 hR f1 f2 f4 f6 hK f5 (by omega) (fun _ => br_f (nI_nle (Nat.succ_pos _) (by omega)) (br_f (by decide) (br_f (by decide) hp))) (fun z => absurd z (by omega))
  · have hext : ∀ i, i < lo + j → upd pt (lo + j) (nI (50 * tk k + p)) i = pt i ∧ upd pd (lo + j) (nI 1) i = pd i ∧ upd wt (lo + j) (nI (550 + 50 * k + p)) i = wt i ∧ upd gt (lo + j) (nI 0) i = gt i := fun i hi => ⟨pk_un (by omega), pk_un (by omega), pk_un (by omega), pk_un (by omega)⟩
    have := IH d k (p + 1) lo ho (j + 1) h 1 (s + 1) M me my op lc (upd pt (lo + j) (nI (50 * tk k + p))) (upd pd (lo + j) (nI 1)) (upd wt (lo + j) (nI (550 + 50 * k + p))) (upd gt (lo + j) (nI 0)) rt (upd pc d (nI (550 + 50 * k + (p + 1)))) ba gv gf
      ⟨f1, g1, g2, f4, by omega, pk_us, f7, f8, f9, by omega, ⟨p, h, q + 1, ⟨pk_us, pk_us, pk_us, by rw [pk_us, hO]⟩, by omega, f2, f3, ⟨by omega, by omega, by omega⟩, by omega, by omega, fun q a b => by omega, by omega, by omega, by omega, cn_ext hext f11⟩, fr_ext (fun i hi => hext i (by omega)) (fun _ _ => rfl) (fun i hi => ⟨pk_un (by omega), rfl⟩) f12⟩ (by rw [wg_pl (by omega)]; omega)
    refine sG_map this (fun post f hf => ⟨f + 1, ?_⟩) (fun post f hf => ⟨f + 1, ?_⟩)
    · exact x_take ht (by omega) htop (xt24 (by omega) (by omega) f5 c1 c4' (fun z => absurd z hs) (fun _ => kX_of hf))
    · exact yt24 hR f1 f2 f4 f6 hK f5 (by omega) (fun z => absurd z hs) (fun _ => hf)
end
