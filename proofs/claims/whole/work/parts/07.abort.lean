/-! aborts, commits, operations performed -/
section
variable {po nt cc cu lt lw ly : Int32} {R T N : Nat} {tk : Nat → Nat} {nx : Int64} {va ok oo oa ln st ts pc ac ab rk wr wm ur uv ul he qu qs bl ib : Nat → Int32} {tc : Nat → Int64}
theorem ab_15 (hB : rt_B R T) {v z : Nat} (hv : v < 8) (hz : ul v = nI z) (hz8 : z ≤ 8) (hu : ∀ j, j < z → ∃ r, r < R ∧ ur (v * 8 + j) = nI r) {post : SX → Prop}
    (h : ∃ F, wX_abort_58 post F 0 po (nI R) (nI T) nt cc cu lt lw (un_f ur uv (v * 8) z va) ok oo oa ln (upd st v 3) ts (upd pc v 0) (upd ac v 0) (upd ab v (ab v + 1)) rk wr wm ur uv (upd ul v 0) (dz_f he (v * 16) R) qu qs bl) : wX_abort_15 post (nI v) po (nI R) (nI T) nt cc cu lt lw va ok oo oa ln st ts pc ac ab rk wr wm ur uv ul he qu qs bl := by
  have h8 : vp_in (nI v) 8 := vp_in_nI (by omega) (by omega)
  have e : upd ab (nI v).toNatClampNeg (ab (nI v).toNatClampNeg + 1) = upd ab v (ab v + 1) := by rw [nI_clamp (by omega)]
  refine uw_X hv hB.2.1 hz hz8 hu (dl_X hB hv ?_)
  exact ⟨h8, nm_r (s8 (by omega)) ⟨h8, nm_r (s8 (by omega)) ⟨h8, nm_r (s8 (by omega)) ⟨h8, h8, nm_r e h⟩⟩⟩⟩
theorem ya_62 {v : Nat} (hv : v < 8) {post : SY → Prop}
    (h : ∃ F, wY_abort_137 post F 0 po (nI R) (nI T) nx nt cc cu lt ly va ok oo oa ln (upd st v 3) ts (upd pc v 0) (upd ac v 0) (upd ab v (ab v + 1)) rk (upd wr v (-1)) (upd wm v 0) tc ur uv ul (dz_f he (v * 16) 16) ib) :
    ∀ d i F, i + d = 16 → d < F → wY_abort_62 post (nI v) po (nI R) (nI T) nx nt cc cu lt ly F (nI i) va ok oo oa ln st ts pc ac ab rk wr wm tc ur uv ul (dz_f he (v * 16) i) ib := by
  have h8 : vp_in (nI v) 8 := vp_in_nI (by omega) (by omega)
  intro d
  induction d with
  | zero =>
    intro i F hi hF
    obtain ⟨F, rfl⟩ : ∃ G, F = G + 1 := ⟨F - 1, by omega⟩
    have e : i = 16 := by omega
    subst e
    have e : upd ab (nI v).toNatClampNeg (ab (nI v).toNatClampNeg + 1) = upd ab v (ab v + 1) := by rw [nI_clamp (by omega)]
    exact br_t (by decide) ⟨h8, nm_r (s8 (by omega)) ⟨h8, nm_r (s8 (by omega)) ⟨h8, nm_r (s8 (by omega)) ⟨h8, nm_r (s8 (by omega)) ⟨h8, nm_r (s8 (by omega)) ⟨h8, h8, nm_r e h⟩⟩⟩⟩⟩⟩
  | succ d ih =>
    intro i F hi hF
    obtain ⟨F, rfl⟩ : ∃ G, F = G + 1 := ⟨F - 1, by omega⟩
    have hT : ¬ (16 : Int32) ≤ nI i := nI_ge (b := 16) (by omega) (by omega)
    have e : upd (dz_f he (v * 16) i) (nI v * 16 + nI i).toNatClampNeg 0 = dz_f he (v * 16) (i + 1) := by
      rw [ci_16 hv (by omega), dz_s]
    exact br_f hT ⟨vi_16 hv (by omega), nm_r e (nm_r (nI_1 i) (ih (i + 1) F (by omega) (by omega)))⟩
theorem ya_16 {v : Nat} (hv : v < 8) (hR : R ≤ 16) {post : SY → Prop} :
    ∀ i F (va : Nat → Int32), i ≤ 8 → i < F → (∀ j, j < i → ∃ r, r < R ∧ ur (v * 8 + j) = nI r) → (∃ F, wY_abort_62 post (nI v) po (nI R) (nI T) nx nt cc cu lt ly F 0 (un_f ur uv (v * 8) i va) ok oo oa ln st ts pc ac ab rk wr wm tc ur uv (upd ul v 0) he ib) → wY_abort_16 post (nI v) po (nI R) (nI T) nx nt cc cu lt ly F (nI i - 1) va ok oo oa ln st ts pc ac ab rk wr wm tc ur uv ul he ib := by
  intro i
  induction i with
  | zero =>
    intro F va h8 hF _ h
    obtain ⟨F, rfl⟩ : ∃ G, F = G + 1 := ⟨F - 1, by omega⟩
    exact br_t (by decide) ⟨vp_in_nI (by omega) (by omega), nm_r (s8 (by omega)) h⟩
  | succ i ih =>
    intro F va h8 hF hu h
    obtain ⟨F, rfl⟩ : ∃ G, F = G + 1 := ⟨F - 1, by omega⟩
    rw [nI_pred]
    obtain ⟨r, hr, er⟩ := hu i (by omega)
    have hc : (nI v * 8 + nI i).toNatClampNeg = v * 8 + i := ci_8 (by omega) (by omega)
    have hin : vp_in (nI v * 8 + nI i) 64 := vi_8s (by omega) (by omega)
    have hin2 : vp_in (ur (nI v * 8 + nI i).toNatClampNeg) 16 := by
      rw [hc, er]
      exact vp_in_nI (by omega) (by omega)
    have e : upd va (ur (nI v * 8 + nI i).toNatClampNeg).toNatClampNeg (uv (nI v * 8 + nI i).toNatClampNeg) = upd va (ur (v * 8 + i)).toNatClampNeg (uv (v * 8 + i)) := by rw [hc]
    refine br_f (nI_pos (by omega)) ⟨hin, hin, hin2, nm_r e (nm_r (Int32.sub_eq_add_neg (nI i) 1).symm ?_)⟩
    exact ih F _ (by omega) (by omega) (fun j hj => hu j (by omega)) h
theorem ya_Y {v z : Nat} (hv : v < 8) (hR : R ≤ 16) (hz : ul v = nI z) (hz8 : z ≤ 8) (hu : ∀ j, j < z → ∃ r, r < R ∧ ur (v * 8 + j) = nI r) {post : SY → Prop}
    (h : ∃ F, wY_abort_137 post F 0 po (nI R) (nI T) nx nt cc cu lt ly (un_f ur uv (v * 8) z va) ok oo oa ln (upd st v 3) ts (upd pc v 0) (upd ac v 0) (upd ab v (ab v + 1)) rk (upd wr v (-1)) (upd wm v 0) tc ur uv (upd ul v 0) (dz_f he (v * 16) 16) ib) : wpY_abort post (po, nI R, nI T, nx, nt, cc, cu, lt, ly, va, ok, oo, oa, ln, st, ts, pc, ac, ab, rk, wr, wm, tc, ur, uv, ul, he, ib) (nI v) := by
  have h8 : vp_in (nI v) 8 := vp_in_nI (by omega) (by omega)
  have e : ul (nI v).toNatClampNeg - 1 = nI z - 1 := by rw [nI_clamp (by omega), hz]
  refine ⟨h8, nm_r (s8 (by omega)) ⟨h8, nm_r e ⟨z + 1, ya_16 hv hR z (z + 1) va hz8 (by omega) hu ⟨17, ?_⟩⟩⟩⟩
  rw [← ux_uu (f := wr) (k := v) (x := -1) (y := -1)] at h
  have h1 := ya_62 (he := he) hv h 16 0 17 (by omega) (by omega)
  rw [dz_z] at h1
  exact h1
theorem ab_L (hB : rt_B R T) (hK : tb_B T N tk tc) (hI : hv_I R T N tk st wr wm he qu qs) (hM : mn_M R T oo ln st pc ur ul) {v : Nat} (hv : v < T) :
    ∃ va1 st1 wr1 wm1 he1 qu1 qs1 : Nat → Int32, hv_I R T N tk st1 wr1 wm1 he1 qu1 qs1 ∧ mn_M R T oo ln st1 (upd pc v 0) ur (upd ul v 0) ∧
      (∀ x, x < T → x ≠ v → st1 x = st x ∨ (st x = 2 ∧ st1 x = 1)) ∧
      (∀ (post : SX → Prop), post (po, nI R, nI T, nt, cc, cu, lt, lw, va1, ok, oo, oa, ln, st1, ts, upd pc v 0, upd ac v 0, upd ab v (ab v + 1), rk, wr1, wm1, ur, uv, upd ul v 0, he1, qu1, qs1, bl) → wpX_abort post (po, nI R, nI T, nt, cc, cu, lt, lw, va, ok, oo, oa, ln, st, ts, pc, ac, ab, rk, wr, wm, ur, uv, ul, he, qu, qs, bl) (nI v)) ∧
      (∀ (post : SY → Prop), post (po, nI R, nI T, nx, nt, cc, cu, lt, ly, va1, ok, oo, oa, ln, st1, ts, upd pc v 0, upd ac v 0, upd ab v (ab v + 1), rk, wr1, wm1, tc, ur, uv, upd ul v 0, he1, ib) → wpY_abort post (po, nI R, nI T, nx, nt, cc, cu, lt, ly, va, ok, oo, oa, ln, st, ts, pc, ac, ab, rk, wr, wm, tc, ur, uv, ul, he, ib) (nI v)) := by
  have hb := hB
  obtain ⟨hB1, hB2, hB3, hB4⟩ := hb
  obtain ⟨l, p, z, m1, m2, m3, m4, m5, m6, m7, m8, m9⟩ := hM v hv
  have h8 : vp_in (nI v) 8 := vp_in_nI (by omega) (by omega)
  have hdz := dz_R hI.2.1 hB2 hv
  have hst : ∀ st1, ho_S T (upd st v 3) st1 → (∀ x, x < T → x ≠ v → st1 x = st x ∨ (st x = 2 ∧ st1 x = 1)) := by
    intro st1 hS x hx e
    have h1 := hS x hx
    rw [pk_un e] at h1
    exact h1
  have hm : ∀ st1, ho_S T (upd st v 3) st1 → mn_M R T oo ln st1 (upd pc v 0) ur (upd ul v 0) := by
    intro st1 hS
    refine mn_st (mn_ab hM v) ?_
    intro x hx e
    have h1 := ho_0 hS hx e
    by_cases e2 : x = v
    · rw [ux_e e2] at h1
      exact absurd h1 (by decide)
    · rw [pk_un e2] at h1
      exact h1
  by_cases hs : st v = 2
  · have es : st (nI v).toNatClampNeg = 2 := by rw [nI_clamp (by omega)]; exact hs
    obtain ⟨r, hr, hw, _⟩ := aw_w2 hI.1 hv hs
    obtain ⟨n, q0, q, c1, c2, c3, c4, c5⟩ := cq_pos hI.2.2.1 hr hv hw
    have hI2 := hv_ab1 (qs := qs) hI hB hr c2 c3 c4
    rw [c5] at hI2
    obtain ⟨st1, wr1, wm1, he1, qu1, qs1, hI1, hS1, h1, h2, h3, h4⟩ := ha_l (po := po) (nt := nt) (cc := cc) (cu := cu) (lt := lt) (lw := lw) (ly := ly) (nx := nx) (va := un_f ur uv (v * 8) z va) (ok := ok) (oo := oo) (oa := oa) (ln := ln) (ts := ts) (pc := upd pc v 0) (ac := upd ac v 0) (ab := upd ab v (ab v + 1)) (rk := rk) (ur := ur) (uv := uv) (ul := upd ul v 0) (bl := bl) (ib := ib) hB hK R 0 _ _ _ _ _ _ (by omega) hI2
    refine ⟨un_f ur uv (v * 8) z va, st1, wr1, wm1, he1, qu1, qs1, hI1, hm st1 hS1, hst st1 hS1, ?_, ?_⟩
    · intro post h
      refine ⟨h8, br_t es (lq_X hB hv hr hw c1 c2 c3 c4 c5 (ab_15 hB (by omega) m5 (by omega) m9 ⟨R + 1, ?_⟩))⟩
      rw [hdz]
      exact h1 post (R + 1) (by omega) h
    · intro post h
      exact ya_Y (by omega) hB2 m5 (by omega) m9 ⟨R + 1, h3 post (R + 1) (by omega) h⟩
  · have es : ¬ st (nI v).toNatClampNeg = 2 := by rw [nI_clamp (by omega)]; exact hs
    have hw := aw_w1 hI.1 hv hs
    have hI2 := hv_ab0 hI hv hs (s := 3) (by decide)
    obtain ⟨st1, wr1, wm1, he1, qu1, qs1, hI1, hS1, h1, h2, h3, h4⟩ := ha_l (po := po) (nt := nt) (cc := cc) (cu := cu) (lt := lt) (lw := lw) (ly := ly) (nx := nx) (va := un_f ur uv (v * 8) z va) (ok := ok) (oo := oo) (oa := oa) (ln := ln) (ts := ts) (pc := upd pc v 0) (ac := upd ac v 0) (ab := upd ab v (ab v + 1)) (rk := rk) (ur := ur) (uv := uv) (ul := upd ul v 0) (bl := bl) (ib := ib) hB hK R 0 _ _ _ _ _ _ (by omega) hI2
    refine ⟨un_f ur uv (v * 8) z va, st1, wr1, wm1, he1, qu1, qs1, hI1, hm st1 hS1, hst st1 hS1, ?_, ?_⟩
    · intro post h
      refine ⟨h8, br_f es (ab_15 hB (by omega) m5 (by omega) m9 ⟨R + 1, ?_⟩)⟩
      rw [hdz]
      exact h1 post (R + 1) (by omega) h
    · intro post h
      refine ya_Y (by omega) hB2 m5 (by omega) m9 ⟨R + 1, ?_⟩
      rw [ux_id hw.1, ux_id hw.2]
      exact h3 post (R + 1) (by omega) h
theorem yd_l {v : Nat} (hv : v < 8) {post : SY → Prop} (h : ∃ F, wY_dropLocksAndHandoff_28 post F 0 po (nI R) (nI T) nx nt cc cu lt ly va ok oo oa ln st ts pc ac ab rk wr wm tc ur uv ul (dz_f he (v * 16) 16) ib) :
    ∀ d i F, i + d = 16 → d < F → wY_dropLocksAndHandoff_2 post (nI v) po (nI R) (nI T) nx nt cc cu lt ly F (nI i) va ok oo oa ln st ts pc ac ab rk wr wm tc ur uv ul (dz_f he (v * 16) i) ib := by
  intro d
  induction d with
  | zero =>
    intro i F hi hF
    obtain ⟨F, rfl⟩ : ∃ G, F = G + 1 := ⟨F - 1, by omega⟩
    have e : i = 16 := by omega
    subst e
    exact br_t (by decide) h
  | succ d ih =>
    intro i F hi hF
    obtain ⟨F, rfl⟩ : ∃ G, F = G + 1 := ⟨F - 1, by omega⟩
    have hT : ¬ (16 : Int32) ≤ nI i := nI_ge (b := 16) (by omega) (by omega)
    have e : upd (dz_f he (v * 16) i) (nI v * 16 + nI i).toNatClampNeg 0 = dz_f he (v * 16) (i + 1) := by
      rw [ci_16 hv (by omega), dz_s]
    exact br_f hT ⟨vi_16 hv (by omega), nm_r e (nm_r (nI_1 i) (ih (i + 1) F (by omega) (by omega)))⟩
theorem yd_Y {v : Nat} (hv : v < 8) {post : SY → Prop} (h : ∃ F, wY_dropLocksAndHandoff_28 post F 0 po (nI R) (nI T) nx nt cc cu lt ly va ok oo oa ln st ts pc ac ab rk wr wm tc ur uv ul (dz_f he (v * 16) 16) ib) : wpY_dropLocksAndHandoff post (po, nI R, nI T, nx, nt, cc, cu, lt, ly, va, ok, oo, oa, ln, st, ts, pc, ac, ab, rk, wr, wm, tc, ur, uv, ul, he, ib) (nI v) := by
  have h1 := yd_l (he := he) hv h 16 0 17 (by omega) (by omega)
  rw [dz_z] at h1
  exact ⟨17, h1⟩
theorem cm_L (hB : rt_B R T) (hK : tb_B T N tk tc) (hI : hv_I R T N tk st wr wm he qu qs) (hM : mn_M R T oo ln st pc ur ul) {v : Nat} (hv : v < T) (hs : st v ≠ 2) :
    ∃ st1 wr1 wm1 he1 qu1 qs1 : Nat → Int32, hv_I R T N tk st1 wr1 wm1 he1 qu1 qs1 ∧ mn_M R T oo ln st1 pc ur (upd ul v 0) ∧
      (∀ (post : SX → Prop), post (po, nI R, nI T, nt, cc + 1, cu, lt, lw, va, ok, oo, oa, ln, st1, ts, pc, ac, ab, upd rk v (cc + 1), wr1, wm1, ur, uv, upd ul v 0, he1, qu1, qs1, bl) → wpX_commit post (po, nI R, nI T, nt, cc, cu, lt, lw, va, ok, oo, oa, ln, st, ts, pc, ac, ab, rk, wr, wm, ur, uv, ul, he, qu, qs, bl) (nI v)) ∧
      (∀ (post : SY → Prop), post (po, nI R, nI T, nx, nt, cc + 1, cu, lt, ly, va, ok, oo, oa, ln, st1, ts, pc, ac, ab, upd rk v (cc + 1), wr1, wm1, tc, ur, uv, upd ul v 0, he1, ib) → wpY_dropLocksAndHandoff post (po, nI R, nI T, nx, nt, cc + 1, cu, lt, ly, va, ok, oo, oa, ln, upd st v 4, ts, pc, ac, ab, upd rk v (cc + 1), wr, wm, tc, ur, uv, upd ul v 0, he, ib) (nI v)) := by
  have hb := hB
  obtain ⟨hB1, hB2, hB3, hB4⟩ := hb
  have h8 : vp_in (nI v) 8 := vp_in_nI (by omega) (by omega)
  have hdz := dz_R hI.2.1 hB2 hv
  have hI2 := hv_ab0 hI hv hs (s := 4) (by decide)
  obtain ⟨st1, wr1, wm1, he1, qu1, qs1, hI1, hS1, h1, h2, h3, h4⟩ := ha_l (po := po) (nt := nt) (cc := cc + 1) (cu := cu) (lt := lt) (lw := lw) (ly := ly) (nx := nx) (va := va) (ok := ok) (oo := oo) (oa := oa) (ln := ln) (ts := ts) (pc := pc) (ac := ac) (ab := ab) (rk := upd rk v (cc + 1)) (ur := ur) (uv := uv) (ul := upd ul v 0) (bl := bl) (ib := ib) hB hK R 0 _ _ _ _ _ _ (by omega) hI2
  refine ⟨st1, wr1, wm1, he1, qu1, qs1, hI1, ?_, ?_, ?_⟩
  · refine mn_st (mn_cm hM v) ?_
    intro x hx e
    have h5 := ho_0 hS1 hx e
    by_cases e2 : x = v
    · rw [ux_e e2] at h5
      exact absurd h5 (by decide)
    · rw [pk_un e2] at h5
      exact h5
  · intro post h
    refine ⟨h8, nm_r (s8 (by omega)) (nm_e ⟨h8, nm_r (s8 (by omega)) ⟨h8, nm_r (s8 (by omega)) (dl_X hB (by omega) ⟨R + 1, ?_⟩)⟩⟩)⟩
    rw [hdz]
    exact h2 post (R + 1) (by omega) h
  · intro post h
    exact yd_Y (by omega) ⟨R + 1, h4 post (R + 1) (by omega) h⟩
theorem pf_L (hB : rt_B R T) (hM : mn_M R T oo ln st pc ur ul) {v l p : Nat} (hv : v < T) (hs : st v ≠ 0) (hl : ln v = nI l) (hl8 : l ≤ 8) (hp : pc v = nI p) (hpl : p < l) :
    ∃ va1 pc1 ac1 ur1 uv1 ul1 : Nat → Int32, mn_M R T oo ln st pc1 ur1 ul1 ∧
      (∀ (post : SX → Prop), post (po, nI R, nI T, nt, cc, cu, lt, lw, va1, ok, oo, oa, ln, st, ts, pc1, ac1, ab, rk, wr, wm, ur1, uv1, ul1, he, qu, qs, bl) → wpX_perform post (po, nI R, nI T, nt, cc, cu, lt, lw, va, ok, oo, oa, ln, st, ts, pc, ac, ab, rk, wr, wm, ur, uv, ul, he, qu, qs, bl) (nI v) (nI (v * 8 + p))) ∧
      (∀ (post : SY → Prop), post (po, nI R, nI T, nx, nt, cc, cu, lt, ly, va1, ok, oo, oa, ln, st, ts, pc1, ac1, ab, rk, wr, wm, tc, ur1, uv1, ul1, he, ib) → wpY_perform post (po, nI R, nI T, nx, nt, cc, cu, lt, ly, va, ok, oo, oa, ln, st, ts, pc, ac, ab, rk, wr, wm, tc, ur, uv, ul, he, ib) (nI v)) := by
  obtain ⟨hB1, hB2, hB3, hB4⟩ := hB
  obtain ⟨l', p', z, m1, m2, m3, m4, m5, m6, m7, m8, m9⟩ := hM v hv
  have e1 : l' = l := (nI_eq (by omega) (by omega)).mp (m1.symm.trans hl)
  have e2 : p' = p := (nI_eq (by omega) (by omega)).mp (m3.symm.trans hp)
  subst e1 e2
  obtain ⟨r, hr, er⟩ := m8 p' (by omega)
  have h8 : vp_in (nI v) 8 := vp_in_nI (by omega) (by omega)
  have hcv : (nI v).toNatClampNeg = v := nI_clamp (by omega)
  have h64 : vp_in (nI (v * 8 + p')) 64 := vp_in_nI (by omega) (by omega)
  have hco : (nI (v * 8 + p')).toNatClampNeg = v * 8 + p' := nI_clamp (by omega)
  have h16 : vp_in (nI r) 16 := vp_in_nI (by omega) (by omega)
  have hcr : (nI r).toNatClampNeg = r := nI_clamp (by omega)
  have eo : oo (nI (v * 8 + p')).toNatClampNeg = nI r := by rw [hco]; exact er
  have epc : upd pc (nI v).toNatClampNeg (pc (nI v).toNatClampNeg + 1) = upd pc v (nI (p' + 1)) := by rw [hcv, m3, nI_1]
  have eop : nI v * 8 + pc (nI v).toNatClampNeg = nI (v * 8 + p') := by rw [hcv, m3, ix_8]
  by_cases hk : ok (v * 8 + p') = 1
  · have ek : ok (nI (v * 8 + p')).toNatClampNeg = 1 := by rw [hco]; exact hk
    have ea : upd ac (nI v).toNatClampNeg (ac (nI v).toNatClampNeg + va (nI r).toNatClampNeg) = upd ac v (ac v + va r) := by rw [hcv, hcr]
    refine ⟨va, upd pc v (nI (p' + 1)), upd ac v (ac v + va r), ur, uv, ul, mn_pr hM hl hp hpl hl8 hs, ?_, ?_⟩
    · intro post h
      exact ⟨h64, nm_r eo ⟨h64, br_t ek ⟨h8, h16, h8, nm_r ea ⟨h8, h8, nm_r epc h⟩⟩⟩⟩
    · intro post h
      exact ⟨h8, nm_r eop ⟨h64, nm_r eo ⟨h64, br_t ek ⟨h8, h16, h8, nm_r ea ⟨h8, h8, nm_r epc h⟩⟩⟩⟩⟩
  · have ek : ¬ ok (nI (v * 8 + p')).toNatClampNeg = 1 := by rw [hco]; exact hk
    have eul : ul (nI v).toNatClampNeg = nI z := by rw [hcv]; exact m5
    have eux : nI v * 8 + ul (nI v).toNatClampNeg = nI (v * 8 + z) := by rw [eul, ix_8]
    have hz64 : vp_in (nI (v * 8 + z)) 64 := vp_in_nI (by omega) (by omega)
    have hcz : (nI (v * 8 + z)).toNatClampNeg = v * 8 + z := nI_clamp (by omega)
    have eu : upd ul (nI v).toNatClampNeg (ul (nI v).toNatClampNeg + 1) = upd ul v (nI (z + 1)) := by rw [hcv, m5, nI_1]
    have ev : upd va (nI r).toNatClampNeg (ac (nI v).toNatClampNeg + oa (nI (v * 8 + p')).toNatClampNeg) = upd va r (ac v + oa (v * 8 + p')) := by rw [hcr, hcv, hco]
    have xr : upd ur (nI (v * 8 + z)).toNatClampNeg (nI r) = upd ur (v * 8 + z) (nI r) := by rw [hcz]
    have xv : upd uv (nI (v * 8 + z)).toNatClampNeg (va (nI r).toNatClampNeg) = upd uv (v * 8 + z) (va r) := by rw [hcz, hcr]
    refine ⟨upd va r (ac v + oa (v * 8 + p')), upd pc v (nI (p' + 1)), ac, upd ur (v * 8 + z) (nI r), upd uv (v * 8 + z) (va r), upd ul v (nI (z + 1)), mn_pw hM hl hp m5 hpl hl8 m6 hr hs, ?_, ?_⟩
    · intro post h
      exact ⟨h64, nm_r eo ⟨h64, br_f ek ⟨h8, nm_r eux ⟨hz64, nm_r xr ⟨h16, hz64, nm_r xv ⟨h8, h8, nm_r eu ⟨h8, h64, h16, nm_r ev ⟨h8, h8, nm_r epc h⟩⟩⟩⟩⟩⟩⟩⟩
    · intro post h
      have hz8 : ¬ (8 : Int32) ≤ ul (nI v).toNatClampNeg := by rw [eul]; exact nI_ge (b := 8) (by omega) (by omega)
      have yz64 : vp_in (nI v * 8 + ul (nI v).toNatClampNeg) 64 := by rw [eux]; exact hz64
      have yr : upd ur (nI v * 8 + ul (nI v).toNatClampNeg).toNatClampNeg (nI r) = upd ur (v * 8 + z) (nI r) := by rw [eux, hcz]
      have yv : upd uv (nI v * 8 + ul (nI v).toNatClampNeg).toNatClampNeg (va (nI r).toNatClampNeg) = upd uv (v * 8 + z) (va r) := by rw [eux, hcz, hcr]
      exact ⟨h8, nm_r eop ⟨h64, nm_r eo ⟨h64, br_f ek ⟨h8, br_f hz8 ⟨h8, yz64, nm_r yr ⟨h8, h16, yz64, nm_r yv ⟨h8, h8, nm_r eu ⟨h8, h64, h16, nm_r ev ⟨h8, h8, nm_r epc h⟩⟩⟩⟩⟩⟩⟩⟩⟩
end
