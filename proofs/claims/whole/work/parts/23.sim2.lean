/-! the two machines run alike: blocks, and finishing -/
theorem after_end {K N : Nat → Nat} {c : Nat} {D B : Nat → Nat} (hS : wf_S K N c D B) {e : Nat} (he : e < c) (h27 : K e = 27) (hN : N e = 0) (hb : 2 ≤ B e) : e + 1 < c ∧ 1 ≤ B (e + 1) ∧ D (e + 1) = 0 := by
  have h1 := (hS.2.2.2 e he (by omega)).2.2.2.2.1 h27
  have h2 := in_S hS he (by omega) (by omega)
  have h3 := (hS.2.2.2 e he (by omega)).1
  refine ⟨?_, by omega, by omega⟩
  apply Classical.byContradiction
  intro z
  have : e + 1 = c := by omega
  rw [this, hS.1] at h1
  omega
section
variable {E : SX} {Z : SY} {n m : Nat} {tk ln : Nat → Nat} {D B pr : Nat → Nat → Nat}
theorem cn_stmt {pt pd wt gt : Nat → Int32} {k f lo ho j x h q : Nat} (hc : cn Z D B tk ln pt pd wt gt k f lo ho j x 0 h (q + 1)) : j = 0 ∧ h = ho := by
  cases j with
  | zero => exact ⟨rfl, hc.2.1⟩
  | succ j =>
    obtain ⟨t, g, du, p, r1, r2, r3, r4, r5, r6, _⟩ := hc
    omega
theorem pO_0 {k p : Nat} (h : pK Z k p = 23 ∨ pK Z k p = 27) : pO Z k p = 0 := by
  unfold pO
  rcases h with e | e <;> rw [e] <;> rfl
theorem s_k23 (hR : pR E Z n m tk ln D B pr) {t μ : Nat} (ht : t < 1000000) (IH : iH E Z n m tk ln D B (t + 1) μ) {d k p lo ho j h q s M : Nat} {me my op lc pt pd wt gt rt pc ba : Nat → Int32} {gv gf : Int32} (hF : mF Z n m tk ln D B d k p lo ho j h (q + 1) s M me my pt pd wt gt rt pc ba) (hmu : 160 * (200 - s) + M + wg Z k p j + (lo + j) < μ + 1) (hK : pK Z k p = 23) :
    sG E Z m (fun post f => wkX post f (nI t) (xs E tk d k p (lo + j) h s me op lc pt pd rt)) (fun post f => wcY (q + 1) post f (ys Z d (lo + j) h s gv gf 0 my op lc pc ba wt gt)) := by
  have htop := top_due hR hF
  obtain ⟨f1, f2, f3, f4, f5, f6, f7, f8, f9, f10, f11, f12⟩ := hF
  obtain ⟨h5, h50, _, hT, hS, hJ⟩ := hR.2.2.2.2.2.1 k f1
  obtain ⟨c1, c2, c3, c4⟩ := hT p f2
  rw [hK] at c1
  have hD := in_S hS f2 f3 (by omega)
  rw [hD] at f11
  obtain ⟨ej, eh⟩ := cn_stmt f11
  subst ej
  subst eh
  obtain ⟨j1, j2, j3, j4, j5, j6, _⟩ := hJ.1 p f2 f3 (by omega)
  have h2 := (hS.2.1 p f2 (by omega) (by omega)).2 hK
  have h27 : pK Z k (pr k p) = 27 := by omega
  have hbp : B k (p + 1) = B k p := (hS.2.2.2 p f2 f3).2.2.2.2.2 (by omega) (by omega) (by omega)
  obtain ⟨g1, g2, g3⟩ := after_end hS j2 h27 (pO_0 (Or.inr h27)) (by omega)
  rw [wg_pl (by omega)] at hmu
  have hwg := (wg_le Z k (pr k p + 1) 0 (by omega)).1
  have := IH d k (pr k p + 1) lo h 0 h (q + 1) s M me my op lc pt pd wt gt rt (upd (upd pc d (nI (550 + 50 * k + (p + 1)))) d (nI (550 + 50 * k + pr k p + 1))) ba gv gf
    ⟨f1, g1, g2, f4, f5, by rw [pk_us, Nat.add_assoc], f7, f8, f9, by omega, ⟨g3, rfl, by omega⟩, fr_ext (fun _ _ => ⟨rfl, rfl, rfl, rfl⟩) (fun _ _ => rfl) (fun i hi => ⟨by rw [pk_un (by omega), pk_un (by omega)], rfl⟩) f12⟩ (by omega)
  refine sG_map this (fun post f hf => ⟨f + 1, ?_⟩) (fun post f hf => ⟨f + 1, ?_⟩)
  · exact x_take ht (by omega) htop (xt23 (by omega) c1 j3 (kX_of hf))
  · exact yt23 hR f1 f2 f4 f6 hK j1 j2 h27 (by omega) j5 j6 hf
theorem s_k27 (hR : pR E Z n m tk ln D B pr) {t μ : Nat} (ht : t < 1000000) (IH : iH E Z n m tk ln D B (t + 1) μ) {d k p lo ho j h q s M : Nat} {me my op lc pt pd wt gt rt pc ba : Nat → Int32} {gv gf : Int32} (hF : mF Z n m tk ln D B d k p lo ho j h (q + 1) s M me my pt pd wt gt rt pc ba) (hmu : 160 * (200 - s) + M + wg Z k p j + (lo + j) < μ + 1) (hK : pK Z k p = 27) :
    sG E Z m (fun post f => wkX post f (nI t) (xs E tk d k p (lo + j) h s me op lc pt pd rt)) (fun post f => wcY (q + 1) post f (ys Z d (lo + j) h s gv gf 0 my op lc pc ba wt gt)) := by
  have htop := top_due hR hF
  obtain ⟨f1, f2, f3, f4, f5, f6, f7, f8, f9, f10, f11, f12⟩ := hF
  obtain ⟨h5, h50, _, hT, hS, hJ⟩ := hR.2.2.2.2.2.1 k f1
  obtain ⟨c1, c2, c3, c4⟩ := hT p f2
  rw [hK] at c1
  have hD := in_S hS f2 f3 (by omega)
  rw [hD] at f11
  obtain ⟨ej, eh⟩ := cn_stmt f11
  subst ej
  subst eh
  obtain ⟨g, j1, j2, j3, j4, j5, j6, j7, j8⟩ := hJ.2 p f2 f3 hK
  obtain ⟨o1, o2, o3, o4⟩ := hT (pr k p) (by omega)
  have h9o := o4.1
  have hkf : pK Z k g = 22 ∨ pK Z k g = 24 ∨ pK Z k g = 28 := by
    by_cases z : pK Z k (pr k p) = 23
    · exact Or.inl (j5 z)
    · rw [j6 z]; omega
  rw [wg_pl (by omega)] at hmu
  have hfr : ∀ pc', (∀ i, i < d → pc' i = pc i) → fr Z n D B tk ln pt pd wt gt rt pc' ba d lo h M := fun pc' hp => fr_ext (fun _ _ => ⟨rfl, rfl, rfl, rfl⟩) (fun _ _ => rfl) (fun i hi => ⟨hp i hi, rfl⟩) f12
  by_cases z24 : pK Z k (pr k p) = 24
  · have eg : g = pr k p := j6 (by omega)
    subst eg
    have hb := (hS.2.1 (pr k p) (by omega) (by omega) (by omega)).1
    have := IH d k (pr k p) lo h 0 h (q + 1) s M me my op lc pt pd wt gt rt (upd (upd pc d (nI (550 + 50 * k + (p + 1)))) d (nI (550 + 50 * k + pr k p))) ba gv gf
      ⟨f1, by omega, hb, f4, f5, pk_us, f7, f8, f9, by omega, ⟨in_S hS (by omega) hb (by omega), rfl, by omega⟩, hfr _ (fun i hi => by rw [pk_un (by omega), pk_un (by omega)])⟩ (by rw [show wg Z k (pr k p) 0 = 1 from if_pos ⟨rfl, z24⟩]; omega)
    refine sG_map this (fun post f hf => ⟨f + 1, ?_⟩) (fun post f hf => ⟨f + 1, ?_⟩)
    · exact x_take ht (by omega) htop (xt27 (by omega) (by omega) c1 j3 o1 h9o (fun _ => kX_of hf) (fun z => by omega) (fun z => absurd z24 z))
    · exact yt27 hR f1 f2 f4 f6 hK j2 f3 hkf j7 j8 (fun z => by omega) (fun _ => hf) (fun z => by omega)
  · by_cases z28 : pK Z k (pr k p) = 28
    · have eg : g = pr k p := j6 (by omega)
      subst eg
      have := s_ret hR IH (v := 0) (op := op) (lc := lc) (nx := nI (50 * tk k + p + 1)) (wa := nI (lo + 0)) (gv := gv) (gf := gf) f4 f5 f8 f7 (hfr (upd pc d (nI (550 + 50 * k + (p + 1)))) (fun i hi => pk_un (by omega))) (by omega)
      refine sG_map this (fun post f hf => ⟨f + 1, ?_⟩) (fun post f hf => ⟨f + 1, ?_⟩)
      · exact x_take ht (by omega) htop (xt27 (by omega) (by omega) c1 j3 o1 h9o (fun z => absurd z z24) (fun _ => hf) (fun _ z => absurd z28 z))
      · exact yt27 hR f1 f2 f4 f6 hK j2 f3 hkf j7 j8 (fun z => by omega) (fun z => by omega) (fun _ => hf)
    · have h22 : pK Z k g = 22 := by
        by_cases z : pK Z k (pr k p) = 23
        · exact j5 z
        · rw [j6 z]; omega
      have hbg := (hS.2.1 g (by omega) (by omega) (by omega)).1
      obtain ⟨g1, g2, g3⟩ := after_end hS f2 hK (pO_0 (Or.inr hK)) (by omega)
      have hwg := (wg_le Z k (p + 1) 0 (by omega)).1
      have := IH d k (p + 1) lo h 0 h (q + 1) s M me my op lc pt pd wt gt rt (upd pc d (nI (550 + 50 * k + (p + 1)))) ba gv gf
        ⟨f1, g1, g2, f4, f5, pk_us, f7, f8, f9, by omega, ⟨g3, rfl, by omega⟩, hfr _ (fun i hi => pk_un (by omega))⟩ (by omega)
      refine sG_map this (fun post f hf => ⟨f + 1, ?_⟩) (fun post f hf => ⟨f + 1, ?_⟩)
      · exact x_take ht (by omega) htop (xt27 (by omega) (by omega) c1 j3 o1 h9o (fun z => absurd z z24) (fun z => absurd z z28) (fun _ _ => kX_of hf))
      · exact yt27 hR f1 f2 f4 f6 hK (show g < p by omega) f3 hkf j7 j8 (fun _ => hf) (fun z => by omega) (fun z => by omega)
/-- a call begins -/
theorem s_f5 (hR : pR E Z n m tk ln D B pr) {t μ : Nat} (ht : t < 1000000) (IH : iH E Z n m tk ln D B (t + 1) μ) {d k p lo ho j s M t0 g du : Nat} {me my op lc pt pd wt gt rt pc ba : Nat → Int32} {gv gf : Int32}
    (f1 : k < n) (f2 : p < ln k) (f3 : 1 ≤ B k p) (f4 : d < 10) (f5 : s ≤ 200) (f6 : pc d = nI (550 + 50 * k + p)) (f7 : ba d = nI lo) (f8 : ∀ i, i < m → me i = my i) (f9 : lo + ho ≤ 50 * d) (f10 : lo + (j + 1) + (g + pO Z k t0) ≤ 50 * d + p) (f12 : fr Z n D B tk ln pt pd wt gt rt pc ba d lo ho M)
    (hP : cnP Z tk pt pd wt gt (lo + j) k t0 0) (r1 : t0 < p) (r2 : t0 < ln k) (r3 : 1 ≤ B k t0) (r6 : D k p = D k t0 - 1) (r7 : ∀ q, t0 < q → q < p → 1 ≤ D k q) (r9 : lo + j + g ≤ 50 * d + t0) (r10 : 1 ≤ du) (r11 : cn Z D B tk ln pt pd wt gt k d lo ho j t0 (D k t0) g du)
    (hmu : 160 * (200 - s) + M + 3 * (51 - p) + (lo + (j + 1)) < μ + 1) (hK : pK Z k t0 = 5) :
    sG E Z m (fun post f => wkX post f (nI t) (xs E tk d k p (lo + (j + 1)) (g + pO Z k t0) s me op lc pt pd rt)) (fun post f => wcY 0 post f (ys Z d (lo + (j + 1)) (g + pO Z k t0) s gv gf 0 my op lc pc ba wt gt)) := by
  have hR' := hR
  obtain ⟨hn5, hm4, _, _, hms, hrow, hpo, hfo, huse⟩ := hR'
  obtain ⟨h5, h50, _, hT, hS, hJ⟩ := hrow k f1
  obtain ⟨c1, c2, c3, c4⟩ := hT t0 r2
  obtain ⟨p1, p2, p3, p4⟩ := hP
  have hD := in_E hS r2 r3 (by omega)
  have hO3 := pO3 hR f1 r2
  obtain ⟨dd, hb, h28, hcnt⟩ := (huse k f1 t0 r2).2 hK
  have hdd := lk_b_in (fun k hk => (pR_rows hR k hk).1) hb
  obtain ⟨k5, k50, _, kT, kS, _⟩ := hrow (dd / 50) hdd.1
  obtain ⟨e1, e2, e3, e4⟩ := kT (dd % 50) hdd.2.1
  obtain ⟨v1, v2, v3⟩ := tw_U c4 (by omega)
  have v16 := tw_U16 c4 (by omega)
  have eV : (yV Z (550 + 50 * k + t0)).toNatClampNeg = pV Z k t0 := rfl
  rw [eV] at v1 v2 v3 v16
  have hOV : pO Z k t0 = pV Z k t0 / 16 := by unfold pO; rw [hK]; rfl
  obtain ⟨w1, w2, w3⟩ := tw_V e4 (Or.inl h28)
  have eW : (yV Z (550 + 50 * (dd / 50) + dd % 50)).toNatClampNeg = pV Z (dd / 50) (dd % 50) := rfl
  rw [eW] at w1 w2 w3
  have hfa : xFO E (pV Z k t0 % 16) = nI (50 * tk (dd / 50) + dd % 50) := by
    rw [hfo _ v3]
    unfold lk_q
    rw [hb]
    exact if_pos ⟨h28, by omega⟩
  have hcn : (xCV E (50 * tk (dd / 50) + dd % 50) >>> ((4 : Int32) &&& 31)) &&& 3 = nI (pO Z k t0) := by
    rw [e3, w1, ba_cnt (by omega), hcnt, hOV]
  have hp1 : B (dd / 50) (dd % 50 + 1) = 1 ∧ D (dd / 50) (dd % 50 + 1) = 0 := kS.2.2.1 _ hdd.2.1 h28
  have hpl : dd % 50 + 1 < ln (dd / 50) := by
    apply Classical.byContradiction
    intro z
    have e : dd % 50 + 1 = ln (dd / 50) := by have := hdd.2.1; omega
    have := kS.1
    rw [← e, hp1.1] at this
    omega
  rw [hK] at c1
  have xstep : ∀ (post : SX → Prop) (f : Nat), wpX_beginFunction (kX post f t) (mX E (nI (g + pO Z k t0)) (nI (lo + j)) (nI (d + 1)) (nI (50 * tk k + p)) (-2) 0 (nI s) me op pt pd lc rt) (nI (pV Z k t0 % 16)) → wkX post (f + 1) (nI t) (xs E tk d k p (lo + (j + 1)) (g + pO Z k t0) s me op lc pt pd rt) := fun post f hf => x_fin (w := lo + j) ht (by omega) (by omega) p2 (xf_5 (by omega) (by omega) p1 c1 (by rw [c3]; exact v16) hf)
  have ystep : ∀ (post : Int32 → SY → Prop) (f : Nat), wpY_begin (fun u => wkY post f u) (mY Z (nI (d + 1)) (nI (lo + j)) (nI (g + pO Z k t0)) 0 (nI s) 0 gv gf 0 my pc ba lc wt gt op) (nI (pV Z k t0 % 16)) (nI (pO Z k t0)) → wcY 0 post f (ys Z d (lo + (j + 1)) (g + pO Z k t0) s gv gf 0 my op lc pc ba wt gt) := fun post f hf => yc_5 (w := lo + j) hR f1 r2 (by omega) p3 hK v16 hf
  by_cases h200 : s = 200
  · refine ⟨8, mX E (nI (g + pO Z k t0)) (nI (lo + j)) (nI (d + 1)) (nI (50 * tk k + p)) 8 0 (nI s) me op pt pd lc rt, mY Z (nI (d + 1)) (nI (lo + j)) (nI g) 8 (nI s) 0 gv gf 0 my pc ba lc wt gt op, ⟨_, _, _, _, _, _, _, _, _, _, _, _, _, _, _, _, _, _, _, _, _, _, _, rfl, rfl, f8⟩, fun post hp => ⟨2, xstep post 1 ?_⟩, fun post hp => ⟨1, ystep post 1 ?_⟩⟩
    · exact x_begin f5 (by omega) v3 hO3 (by omega) (by omega) hfa hcn (fun _ => kX_of (x_over (u := E) (by decide) hp)) (fun z => absurd z (by omega)) (fun z => absurd z (by omega))
    · exact y_begin hR f5 (by omega) v3 hO3 (by omega) (by omega) hb (fun _ => br_f (nI_nle (Nat.succ_pos _) (by omega)) (br_f (by decide) (br_f (by decide) hp))) (fun z => absurd z (by omega)) (fun z => absurd z (by omega))
  · by_cases h10 : d + 1 = 10
    · refine ⟨9, mX E (nI (g + pO Z k t0)) (nI (lo + j)) (nI (d + 1)) (nI (50 * tk k + p)) 9 0 (nI (s + 1)) me op pt pd lc rt, mY Z (nI (d + 1)) (nI (lo + j)) (nI g) 9 (nI (s + 1)) 0 gv gf 0 my pc ba lc wt gt op, ⟨_, _, _, _, _, _, _, _, _, _, _, _, _, _, _, _, _, _, _, _, _, _, _, rfl, rfl, f8⟩, fun post hp => ⟨2, xstep post 1 ?_⟩, fun post hp => ⟨1, ystep post 1 ?_⟩⟩
      · exact x_begin f5 (by omega) v3 hO3 (by omega) (by omega) hfa hcn (fun z => absurd z h200) (fun _ _ => kX_of (x_over (u := E) (by decide) hp)) (fun _ z => absurd z (by omega))
      · exact y_begin hR f5 (by omega) v3 hO3 (by omega) (by omega) hb (fun z => absurd z h200) (fun _ _ => br_f (nI_nle (Nat.succ_pos _) (by omega)) (br_f (by decide) (br_f (by decide) hp))) (fun _ z => absurd z (by omega))
    · cases j with
      | zero => exact absurd r11.1 (by omega)
      | succ j =>
        have hsus : cn Z D B tk ln pt pd wt gt k d lo ho (j + 1) p (D k p + 1) g du := by
          rw [show D k p + 1 = D k t0 by omega]
          refine cn_adv (by omega) (fun q a b => ?_) r11
          by_cases z : q = t0
          · rw [z]; exact hD
          · exact r7 q (by omega) b
        have hwg := (wg_le Z (dd / 50) (dd % 50 + 1) 0 (by omega)).1
        have := IH (d + 1) (dd / 50) (dd % 50 + 1) (lo + (j + 1)) g 0 g 1 (s + 1) (M + 3 * (51 - p)) me my op (mlo lc op (d + 1) g (pO Z k t0)) pt pd wt gt (upd rt (d + 1) (nI (50 * tk k + p))) (upd pc (d + 1) (nI (550 + dd + 1))) (upd ba (d + 1) (nI (lo + (j + 1)))) gv gf
          ⟨hdd.1, hpl, by omega, by omega, by omega, by rw [pk_us]; exact congrArg nI (by omega), pk_us, f8, by omega, by omega, ⟨hp1.2, rfl, by omega⟩, ⟨k, p, lo, ho, j, du, M, f1, f2, f3, pk_us, by rw [pk_un (by omega)]; exact f6, by rw [pk_un (by omega)]; exact f7, rfl, r10, hsus, by omega, f9, rfl, fr_ext (fun _ _ => ⟨rfl, rfl, rfl, rfl⟩) (fun i hi => pk_un (by omega)) (fun i hi => ⟨pk_un (by omega), pk_un (by omega)⟩) f12⟩⟩ (by omega)
        refine sG_map this (fun post f hf => ⟨f + 1, xstep post f ?_⟩) (fun post f hf => ⟨f, ystep post f ?_⟩)
        · exact x_begin f5 (by omega) v3 hO3 (by omega) (by omega) hfa hcn (fun z => absurd z h200) (fun _ z => absurd z h10) (fun _ _ => kX_of hf)
        · exact y_begin hR f5 (by omega) v3 hO3 (by omega) (by omega) hb (fun z => absurd z h200) (fun _ z => absurd z h10) (fun _ _ => hf)
end
