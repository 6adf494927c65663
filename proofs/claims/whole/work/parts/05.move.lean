/-! locks dropped, writes undone, queues left and joined -/
section
variable {po nt cc cu lt lw ly : Int32} {R T N : Nat} {tk : Nat → Nat} {nx : Int64} {va ok oo oa ln st ts pc ac ab rk wr wm ur uv ul he qu qs bl ib : Nat → Int32} {tc : Nat → Int64}
theorem s8 {f : Nat → Int32} {t : Nat} {x : Int32} (h : t < 2 ^ 31) : upd f (nI t).toNatClampNeg x = upd f t x := by rw [nI_clamp h]
theorem dl_l (hB : rt_B R T) {v : Nat} (hv : v < 8) {post : SX → Prop} (h : post (po, nI R, nI T, nt, cc, cu, lt, lw, va, ok, oo, oa, ln, st, ts, pc, ac, ab, rk, wr, wm, ur, uv, ul, dz_f he (v * 16) R, qu, qs, bl)) :
    ∀ d i F, i + d = R → d < F → wX_dropLocks_2 post (nI v) po (nI R) (nI T) nt cc cu lt lw F (nI i) va ok oo oa ln st ts pc ac ab rk wr wm ur uv ul (dz_f he (v * 16) i) qu qs bl := by
  obtain ⟨hB1, hB2, hB3, hB4⟩ := hB
  intro d
  induction d with
  | zero =>
    intro i F hi hF
    obtain ⟨F, rfl⟩ : ∃ G, F = G + 1 := ⟨F - 1, by omega⟩
    have e : i = R := by omega
    subst e
    exact br_t (nI_le (by omega) (by omega)) h
  | succ d ih =>
    intro i F hi hF
    obtain ⟨F, rfl⟩ : ∃ G, F = G + 1 := ⟨F - 1, by omega⟩
    have hT : ¬ nI R ≤ nI i := nI_ge (by omega) (by omega)
    have e : upd (dz_f he (v * 16) i) (nI v * 16 + nI i).toNatClampNeg 0 = dz_f he (v * 16) (i + 1) := by
      rw [ci_16 hv (by omega), dz_s]
    exact br_f hT ⟨vi_16 hv (by omega), nm_r e (nm_r (nI_1 i) (ih (i + 1) F (by omega) (by omega)))⟩
theorem dl_X (hB : rt_B R T) {v : Nat} (hv : v < 8) {post : SX → Prop} (h : post (po, nI R, nI T, nt, cc, cu, lt, lw, va, ok, oo, oa, ln, st, ts, pc, ac, ab, rk, wr, wm, ur, uv, ul, dz_f he (v * 16) R, qu, qs, bl)) : wpX_dropLocks post (po, nI R, nI T, nt, cc, cu, lt, lw, va, ok, oo, oa, ln, st, ts, pc, ac, ab, rk, wr, wm, ur, uv, ul, he, qu, qs, bl) (nI v) := by
  refine ⟨R + 1, ?_⟩
  have h1 := dl_l hB hv h R 0 (R + 1) (by omega) (by omega)
  rw [dz_z] at h1
  exact h1
theorem uw_l {v : Nat} (hv : v < 8) (hR : R ≤ 16) {post : SX → Prop} :
    ∀ i F (va : Nat → Int32), i ≤ 8 → i < F → (∀ j, j < i → ∃ r, r < R ∧ ur (v * 8 + j) = nI r) → post (po, nI R, nI T, nt, cc, cu, lt, lw, un_f ur uv (v * 8) i va, ok, oo, oa, ln, st, ts, pc, ac, ab, rk, wr, wm, ur, uv, upd ul v 0, he, qu, qs, bl) → wX_undoWrites_9 post (nI v) po (nI R) (nI T) nt cc cu lt lw F (nI i - 1) va ok oo oa ln st ts pc ac ab rk wr wm ur uv ul he qu qs bl := by
  intro i
  induction i with
  | zero =>
    intro F va h8 hF _ h
    obtain ⟨F, rfl⟩ : ∃ G, F = G + 1 := ⟨F - 1, by omega⟩
    exact br_t (by decide) ⟨vp_in_nI (by omega) (by omega), nm_r (s8 (by omega)) h⟩
  | succ i ih =>
    intro F va h8 hF hu h
    obtain ⟨F, rfl⟩ : ∃ G, F = G + 1 := ⟨F - 1, by omega⟩
    rw [nI_pred]
    obtain ⟨r, hr, er⟩ := hu i (by omega)
    have hc : (nI (v * 8 + i)).toNatClampNeg = v * 8 + i := nI_clamp (by omega)
    have hin : vp_in (nI (v * 8 + i)) 64 := vp_in_nI (by omega) (by omega)
    have hin2 : vp_in (ur (nI (v * 8 + i)).toNatClampNeg) 16 := by
      rw [hc, er]
      exact vp_in_nI (by omega) (by omega)
    have e : upd va (ur (nI (v * 8 + i)).toNatClampNeg).toNatClampNeg (uv (nI (v * 8 + i)).toNatClampNeg) = upd va (ur (v * 8 + i)).toNatClampNeg (uv (v * 8 + i)) := by rw [hc]
    refine br_f (nI_pos (by omega)) (nm_r (ix_8 v i) ⟨hin, hin, hin2, nm_r e (nm_r (Int32.sub_eq_add_neg (nI i) 1).symm ?_)⟩)
    exact ih F _ (by omega) (by omega) (fun j hj => hu j (by omega)) h
theorem uw_X {v z : Nat} (hv : v < 8) (hR : R ≤ 16) (hz : ul v = nI z) (hz8 : z ≤ 8) (hu : ∀ j, j < z → ∃ r, r < R ∧ ur (v * 8 + j) = nI r) {post : SX → Prop} (h : post (po, nI R, nI T, nt, cc, cu, lt, lw, un_f ur uv (v * 8) z va, ok, oo, oa, ln, st, ts, pc, ac, ab, rk, wr, wm, ur, uv, upd ul v 0, he, qu, qs, bl)) : wpX_undoWrites post (po, nI R, nI T, nt, cc, cu, lt, lw, va, ok, oo, oa, ln, st, ts, pc, ac, ab, rk, wr, wm, ur, uv, ul, he, qu, qs, bl) (nI v) := by
  have e : ul (nI v).toNatClampNeg - 1 = nI z - 1 := by rw [nI_clamp (by omega), hz]
  exact ⟨vp_in_nI (by omega) (by omega), nm_r e ⟨z + 1, uw_l hv hR z (z + 1) va hz8 (by omega) hu h⟩⟩
theorem lq_l (hB : rt_B R T) {v r n p : Nat} {q : Nat → Nat} (hv : v < T) (hr : r < R) (hq : ∀ i, i < n → qu (r * 8 + i) = nI (q i)) (hQ : qq_R T r n wr tk q) (hp : p < n) (hpv : q p = v) {post : SX → Prop}
    (h : post (po, nI R, nI T, nt, cc, cu, lt, lw, va, ok, oo, oa, ln, st, ts, pc, ac, ab, rk, upd wr v (-1), upd wm v 0, ur, uv, ul, he, sh_f qu (r * 8) p (n - 1), upd qs r (nI (n - 1)), bl)) :
    ∀ d i F kp, i + d = n → d < F → kp = (if i ≤ p then i else i - 1) → wX_leaveQueue_26 post (nI v) (nI r) (nI (r * 8)) (nI n) po (nI R) (nI T) nt cc cu lt lw F (nI kp) (nI i) va ok oo oa ln st ts pc ac ab rk wr wm ur uv ul he (sh_f qu (r * 8) p (i - 1)) qs bl := by
  obtain ⟨hB1, hB2, hB3, hB4⟩ := hB
  have hn := qq_le hQ
  intro d
  induction d with
  | zero =>
    intro i F kp hi hF hk
    obtain ⟨F, rfl⟩ : ∃ G, F = G + 1 := ⟨F - 1, by omega⟩
    have e : i = n := by omega
    subst e
    have ek : kp = i - 1 := by rw [hk, if_neg (by omega)]
    rw [ek]
    exact br_t (nI_le (by omega) (by omega)) ⟨vp_in_nI (by omega) (by omega), nm_r (s8 (by omega)) ⟨vp_in_nI (by omega) (by omega), nm_r (s8 (by omega)) ⟨vp_in_nI (by omega) (by omega), nm_r (s8 (by omega)) h⟩⟩⟩
  | succ d ih =>
    intro i F kp hi hF hk
    obtain ⟨F, rfl⟩ : ∃ G, F = G + 1 := ⟨F - 1, by omega⟩
    have hT : ¬ nI n ≤ nI i := nI_ge (by omega) (by omega)
    have hin : vp_in (nI (r * 8) + nI i) 128 := by rw [nI_add]; exact vp_in_nI (by omega) (by omega)
    have ev : sh_f qu (r * 8) p (i - 1) (nI (r * 8) + nI i).toNatClampNeg = nI (q i) := by
      rw [nI_add, nI_clamp (by omega), sh_0 (by omega)]
      exact hq i (by omega)
    have hqi := (hQ.1 i (by omega)).1
    refine br_f hT ⟨hin, nm_r ev ?_⟩
    by_cases e : i = p
    · have ee : nI (q i) = nI v := by rw [e, hpv]
      refine br_t ee (nm_r (nI_1 i) ?_)
      have h1 := ih (i + 1) F kp (by omega) (by omega) (by rw [hk, if_pos (by omega), if_neg (by omega)]; omega)
      rw [sh_e (by omega)] at h1
      rw [sh_e (by omega)]
      exact h1
    · have hne : q i ≠ v := by
        rw [← hpv]
        by_cases h1 : i < p
        · exact qq_inj hQ i p h1 hp
        · exact fun z => qq_inj hQ p i (by omega) (by omega) z.symm
      have ee : ¬ nI (q i) = nI v := ux_ne hne (by omega) (by omega)
      by_cases h1 : i < p
      · have ek : kp = i := by rw [hk, if_pos (by omega)]
        subst ek
        have eu : upd (sh_f qu (r * 8) p (kp - 1)) (nI (r * 8) + nI kp).toNatClampNeg (nI (q kp)) = sh_f qu (r * 8) p (kp + 1 - 1) := by
          rw [sh_e (by omega), sh_e (by omega), nI_add, nI_clamp (by omega)]
          exact ux_id (hq kp (by omega))
        exact br_f ee ⟨hin, nm_r eu (nm_r (nI_1 kp) (nm_r (nI_1 kp) (ih (kp + 1) F (kp + 1) (by omega) (by omega) (by rw [if_pos (by omega)]))))⟩
      · have ek : kp = i - 1 := by rw [hk, if_neg (by omega)]
        have hin2 : vp_in (nI (r * 8) + nI kp) 128 := by rw [nI_add]; exact vp_in_nI (by omega) (by omega)
        have eu : upd (sh_f qu (r * 8) p (i - 1)) (nI (r * 8) + nI kp).toNatClampNeg (nI (q i)) = sh_f qu (r * 8) p (i + 1 - 1) := by
          rw [nI_add, nI_clamp (by omega), ek, ← hq i (by omega)]
          have e1 : r * 8 + i = r * 8 + (i - 1) + 1 := by omega
          have e2 : i + 1 - 1 = i - 1 + 1 := by omega
          rw [e1, e2]
          exact sh_s (by omega)
        exact br_f ee ⟨hin2, nm_r eu (nm_r (nI_1 kp) (nm_r (nI_1 i) (ih (i + 1) F (kp + 1) (by omega) (by omega) (by rw [if_neg (by omega)]; omega))))⟩
theorem lq_X (hB : rt_B R T) {v r n p : Nat} {q : Nat → Nat} (hv : v < T) (hr : r < R) (hw : wr v = nI r) (hs : qs r = nI n) (hq : ∀ i, i < n → qu (r * 8 + i) = nI (q i)) (hQ : qq_R T r n wr tk q) (hp : p < n) (hpv : q p = v) {post : SX → Prop}
    (h : post (po, nI R, nI T, nt, cc, cu, lt, lw, va, ok, oo, oa, ln, st, ts, pc, ac, ab, rk, upd wr v (-1), upd wm v 0, ur, uv, ul, he, sh_f qu (r * 8) p (n - 1), upd qs r (nI (n - 1)), bl)) : wpX_leaveQueue post (po, nI R, nI T, nt, cc, cu, lt, lw, va, ok, oo, oa, ln, st, ts, pc, ac, ab, rk, wr, wm, ur, uv, ul, he, qu, qs, bl) (nI v) := by
  have hb := hB
  obtain ⟨hB1, hB2, hB3, hB4⟩ := hb
  have ew : wr (nI v).toNatClampNeg = nI r := by rw [nI_clamp (by omega)]; exact hw
  have es : qs (nI r).toNatClampNeg = nI n := by rw [nI_clamp (by omega)]; exact hs
  have h1 := lq_l hB hv hr hq hQ hp hpv h n 0 (n + 1) 0 (by omega) (by omega) (by rw [if_pos (by omega)])
  rw [sh_e (by omega)] at h1
  exact ⟨vp_in_nI (by omega) (by omega), nm_r ew (nm_r (ix_8z r) ⟨vp_in_nI (by omega) (by omega), nm_r es ⟨n + 1, h1⟩⟩)⟩
theorem jq_X (hB : rt_B R T) {v r n : Nat} {m : Int32} (hv : v < T) (hr : r < R) (hs : qs r = nI n) (hn : n < 8) {post : SX → Prop}
    (h : post (po, nI R, nI T, nt, cc, cu, lt, lw, va, ok, oo, oa, ln, upd st v 2, ts, pc, ac, ab, rk, upd wr v (nI r), upd wm v m, ur, uv, ul, he, upd qu (r * 8 + n) (nI v), upd qs r (nI (n + 1)), bl)) : wpX_joinQueue post (po, nI R, nI T, nt, cc, cu, lt, lw, va, ok, oo, oa, ln, st, ts, pc, ac, ab, rk, wr, wm, ur, uv, ul, he, qu, qs, bl) (nI v) m (nI r) := by
  obtain ⟨hB1, hB2, hB3, hB4⟩ := hB
  have hcr : (nI r).toNatClampNeg = r := nI_clamp (by omega)
  have es : qs (nI r).toNatClampNeg = nI n := by rw [hcr]; exact hs
  have h16 : vp_in (nI r) 16 := vp_in_nI (by omega) (by omega)
  have h8 : vp_in (nI v) 8 := vp_in_nI (by omega) (by omega)
  have hin : vp_in (nI r * 8 + qs (nI r).toNatClampNeg) 128 := by rw [es]; exact vi_8 (by omega) hn
  have e1 : upd qu (nI r * 8 + qs (nI r).toNatClampNeg).toNatClampNeg (nI v) = upd qu (r * 8 + n) (nI v) := by
    rw [es, ci_8 (by omega) hn]
  have e2 : upd qs (nI r).toNatClampNeg (qs (nI r).toNatClampNeg + 1) = upd qs r (nI (n + 1)) := by
    rw [es, nI_1, hcr]
  exact ⟨h16, hin, nm_r e1 ⟨h16, h16, nm_r e2 ⟨h8, nm_r (s8 (by omega)) ⟨h8, nm_r (s8 (by omega)) ⟨h8, nm_r (s8 (by omega)) h⟩⟩⟩⟩⟩
theorem jq_Y {v : Nat} {r m : Int32} (hv : v < 8) (hx : nx = lN N) {post : SY → Prop}
    (h : post (po, nI R, nI T, lN (N + 1), nt, cc, cu, lt, ly, va, ok, oo, oa, ln, upd st v 2, ts, pc, ac, ab, rk, upd wr v r, upd wm v m, vp_updL tc v (lN N), ur, uv, ul, he, ib)) : wpY_joinQueue post (po, nI R, nI T, nx, nt, cc, cu, lt, ly, va, ok, oo, oa, ln, st, ts, pc, ac, ab, rk, wr, wm, tc, ur, uv, ul, he, ib) (nI v) r m := by
  have h8 : vp_in (nI v) 8 := vp_in_nI (by omega) (by omega)
  have e1 : vp_updL tc (nI v).toNatClampNeg nx = vp_updL tc v (lN N) := by rw [nI_clamp (by omega), hx]
  have e2 : nx + 1 = lN (N + 1) := by rw [hx, lN_1]
  exact ⟨h8, nm_r (s8 (by omega)) ⟨h8, nm_r (s8 (by omega)) ⟨h8, nm_r (s8 (by omega)) ⟨h8, nm_r e1 (nm_r e2 h)⟩⟩⟩⟩
end
