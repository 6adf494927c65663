/-! a step whole, and a run -/
section
variable {M : Nat}
set_option maxHeartbeats 1000000 in
theorem sp_L {u : SX} {v : SY} (h : rl_R M u v) (hM31 : M + 1 < 2 ^ 31) : ∃ (ev : Int32) (u' : SX) (v' : SY), rl_R (M + 1) u' v' ∧ (∀ P : Int32 → SX → Prop, P ev u' → wpX_step P u) ∧ (∀ P : Int32 → SY → Prop, P ev v' → wpY_step P v) := by
  obtain ⟨R, T, N, c, tk, po, nt, cc, lt, lw, va, ok, oo, oa, ln, st, ts, pc, ac, ab, rk, wr, wm, ur, uv, ul, he, qu, qs, bl, ib, tc, rfl, rfl, hB, hpo, hc, hN, hK, hI, hM⟩ := h
  have hb := hB
  obtain ⟨hB1, hB2, hB3, hB4⟩ := hb
  have e0 : (c + 0) % T = c := by rw [Nat.add_zero, Nat.mod_eq_of_lt hc]
  cases na_l (po := po) (nt := nt) (cc := cc) (lt := lt) (lw := lw) (ly := lw) (nx := lN N) (va := va) (ok := ok) (oo := oo) (oa := oa) (ln := ln) (st := st) (ts := ts) (pc := pc) (ac := ac) (ab := ab) (rk := rk) (wr := wr) (wm := wm) (ur := ur) (uv := uv) (ul := ul) (he := he) (qu := qu) (qs := qs) (bl := bl) (ib := ib) (tc := tc) hB hc T 0 (by omega) with
  | inr a =>
    obtain ⟨hX, hY⟩ := a
    refine ⟨0, (po, nI R, nI T, nt, cc, nI c, (-1), 0, va, ok, oo, oa, ln, st, ts, pc, ac, ab, rk, wr, wm, ur, uv, ul, he, qu, qs, bl), (po, nI R, nI T, lN N, nt, cc, nI c, (-1), 0, va, ok, oo, oa, ln, st, ts, pc, ac, ab, rk, wr, wm, tc, ur, uv, ul, he, ib), rl_mk hB hpo hc (by omega) hK hI hM, ?_, ?_⟩
    · intro P h
      have hX' : ∀ post : Int32 → Prop, post (-1) → wpX_nextToAct post (po, nI R, nI T, nt, cc, nI c, lt, lw, va, ok, oo, oa, ln, st, ts, pc, ac, ab, rk, wr, wm, ur, uv, ul, he, qu, qs, bl) := by
        intro post h
        have h1 := hX post (T + 1) (by omega) h
        rw [e0] at h1
        exact ⟨T + 1, h1⟩
      unfold wpX_step
      exact hX' _ (br_t rfl h)
    · intro P h
      exact ⟨T + 1, hY P (T + 1) (by omega) h⟩
  | inl a =>
    obtain ⟨t, ht, hst, hX, hY⟩ := a
    have hX' : ∀ post : Int32 → Prop, post (nI t) → wpX_nextToAct post (po, nI R, nI T, nt, cc, nI c, lt, lw, va, ok, oo, oa, ln, st, ts, pc, ac, ab, rk, wr, wm, ur, uv, ul, he, qu, qs, bl) := by
      intro post h
      have h1 := hX post (T + 1) (by omega) h
      rw [e0] at h1
      exact ⟨T + 1, h1⟩
    have h8 : vp_in (nI t) 8 := vp_in_nI (by omega) (by omega)
    have hct : (nI t).toNatClampNeg = t := nI_clamp (by omega)
    have hne : ¬ nI t = -1 := ux_ne1 (by omega)
    by_cases s3 : st t = 3
    · have e3 : st (nI t).toNatClampNeg = 3 := by rw [hct]; exact s3
      have hI2 := hv_st hI ht (by rw [s3]; decide) (s := 1) (by decide)
      have hM2 : mn_M R T oo ln (upd st t 1) pc ur ul := by
        refine mn_st hM ?_
        intro x hx e
        by_cases e4 : x = t
        · rw [ux_e e4] at e
          exact absurd e (by decide)
        · rw [pk_un e4] at e
          exact e
      refine ⟨1, (po, nI R, nI T, nt, cc, nI t, nI t, 0, va, ok, oo, oa, ln, upd st t 1, ts, pc, ac, ab, rk, wr, wm, ur, uv, ul, he, qu, qs, bl), (po, nI R, nI T, lN N, nt, cc, nI t, nI t, 0, va, ok, oo, oa, ln, upd st t 1, ts, pc, ac, ab, rk, wr, wm, tc, ur, uv, ul, he, ib), rl_mk hB hpo ht (by omega) hK hI2 hM2, ?_, ?_⟩
      · intro P h
        unfold wpX_step
        exact hX' _ (br_f hne ⟨h8, br_t e3 ⟨h8, nm_r (s8 (by omega)) h⟩⟩)
      · intro P h
        refine ⟨T + 1, hY P (T + 1) (by omega) ?_⟩
        exact ⟨h8, br_t e3 ⟨h8, nm_r (s8 (by omega)) h⟩⟩
    · have e3 : ¬ st (nI t).toNatClampNeg = 3 := by rw [hct]; exact s3
      have s1 : st t = 1 := by
        cases hst with
        | inl z => exact z
        | inr z => exact absurd z s3
      obtain ⟨l, p, z, m1, m2, m3, m4, m5, m6, m7, m8, m9⟩ := hM t ht
      by_cases hpl : p < l
      · have hlt : pc (nI t).toNatClampNeg < ln (nI t).toNatClampNeg := by
          rw [hct, m1, m3]
          exact nI_lt hpl (by omega)
        obtain ⟨r, hr, er⟩ := m8 p hpl
        have h64 : vp_in (nI (t * 8 + p)) 64 := vp_in_nI (by omega) (by omega)
        have hco : (nI (t * 8 + p)).toNatClampNeg = t * 8 + p := nI_clamp (by omega)
        have eo : oo (nI (t * 8 + p)).toNatClampNeg = nI r := by rw [hco]; exact er
        have eop : nI t * 8 + pc (nI t).toNatClampNeg = nI (t * 8 + p) := by rw [hct, m3, ix_8]
        have key : ∃ m : Int32, (m = 1 ∨ m = 2) ∧ (∀ K : Int32 → Prop, K m → ((ok (nI (t * 8 + p)).toNatClampNeg = 1 → K 1) ∧ (¬ ok (nI (t * 8 + p)).toNatClampNeg = 1 → K 2))) := by
          by_cases hk : ok (nI (t * 8 + p)).toNatClampNeg = 1
          · exact ⟨1, Or.inl rfl, fun K h => br_t hk h⟩
          · exact ⟨2, Or.inr rfl, fun K h => br_f hk h⟩
        obtain ⟨m, hm, hk⟩ := key
        obtain ⟨ev, u', v', hR, hX3, hY3⟩ := ot_34 (po := po) (nt := nt) (cc := cc) (lt := nI t) (va := va) (ok := ok) (oa := oa) (ts := ts) (ac := ac) (ab := ab) (rk := rk) (uv := uv) (bl := bl) (ib := ib) hB hpo hN hM31 hK hI hM ht s1 m1 m2 m3 hpl hr hm
        refine ⟨ev, u', v', hR, ?_, ?_⟩
        · intro P h
          unfold wpX_step
          refine hX' _ (br_f hne ⟨h8, br_f e3 ⟨h8, h8, br_t hlt ?_⟩⟩)
          exact ⟨h8, nm_r eop ⟨h64, nm_r eo ⟨h64, hk (fun z => wX_operationTurn_34 (fun r u => P r u) (nI t) (nI (t * 8 + p)) (nI r) z po (nI R) (nI T) nt cc (nI t) (nI t) 0 va ok oo oa ln st ts pc ac ab rk wr wm ur uv ul he qu qs bl) (hX3 (fun r u => P r u) h)⟩⟩⟩
        · intro P h
          refine ⟨T + 1, hY P (T + 1) (by omega) ?_⟩
          exact ⟨h8, br_f e3 ⟨h8, h8, br_t hlt ⟨h8, nm_r eop ⟨h64, nm_r eo ⟨h64, hk (fun z => wY_turn_109 (fun r u => P r u) (nI t) (nI r) z po (nI R) (nI T) (lN N) nt cc (nI t) (nI t) 0 va ok oo oa ln st ts pc ac ab rk wr wm tc ur uv ul he ib) (hY3 (fun r u => P r u) h)⟩⟩⟩⟩⟩
      · have hlt : ¬ pc (nI t).toNatClampNeg < ln (nI t).toNatClampNeg := by
          rw [hct, m1, m3]
          exact nI_nlt (by omega) (by omega)
        obtain ⟨st1, wr1, wm1, he1, qu1, qs1, hI1, hM1, hX3, hY3⟩ := cm_L (po := po) (nt := nt) (cc := cc) (cu := nI t) (lt := nI t) (lw := 0) (ly := 0) (nx := lN N) (va := va) (ok := ok) (oa := oa) (ts := ts) (ac := ac) (ab := ab) (rk := rk) (uv := uv) (bl := bl) (ib := ib) hB hK hI hM ht (by rw [s1]; decide)
        refine ⟨5, _, _, rl_mk (M := M + 1) (po := po) (nt := nt) (cc := cc + 1) (lt := nI t) (lw := 0) (va := va) (ok := ok) (oa := oa) (ts := ts) (ac := ac) (ab := ab) (rk := upd rk t (cc + 1)) (uv := uv) (bl := bl) (ib := ib) hB hpo ht (by omega) hK hI1 hM1, ?_, ?_⟩
        · intro P h
          unfold wpX_step
          exact hX' _ (br_f hne ⟨h8, br_f e3 ⟨h8, h8, br_f hlt (hX3 (fun u => P 5 u) h)⟩⟩)
        · intro P h
          refine ⟨T + 1, hY P (T + 1) (by omega) ?_⟩
          exact ⟨h8, br_f e3 ⟨h8, h8, br_f hlt ⟨h8, nm_r (s8 (by omega)) (nm_e ⟨h8, nm_r (s8 (by omega)) ⟨h8, nm_r (s8 (by omega)) (hY3 (fun u => P 5 u) h)⟩⟩)⟩⟩⟩
theorem rn_l {K : Nat} (hK : K ≤ 64) (hM : M + K < 2 ^ 31) : ∀ d i (cnt : Int32) (x1 x2 x3 x4 x5 x6 x7 x8 : Int32) (x9 x10 x11 x12 x13 x14 x15 x16 x17 x18 x19 x20 x21 x22 x23 x24 x25 x26 x27 x28 : Nat → Int32) (y1 y2 y3 : Int32) (y4 : Int64) (y5 y6 y7 y8 y9 : Int32) (y10 y11 y12 y13 y14 y15 y16 y17 y18 y19 y20 y21 y22 : Nat → Int32) (y23 : Nat → Int64) (y24 y25 y26 y27 y28 : Nat → Int32), i + d = K → rl_R (M + i) (x1, x2, x3, x4, x5, x6, x7, x8, x9, x10, x11, x12, x13, x14, x15, x16, x17, x18, x19, x20, x21, x22, x23, x24, x25, x26, x27, x28) (y1, y2, y3, y4, y5, y6, y7, y8, y9, y10, y11, y12, y13, y14, y15, y16, y17, y18, y19, y20, y21, y22, y23, y24, y25, y26, y27, y28) →
    ∃ (r : Int32) (u' : SX) (v' : SY), rl_R (M + K) u' v' ∧ (∀ (P : Int32 → SX → Prop) (F : Nat), d < F → P r u' → wX_run_13 P (nI K) F cnt (nI i) x1 x2 x3 x4 x5 x6 x7 x8 x9 x10 x11 x12 x13 x14 x15 x16 x17 x18 x19 x20 x21 x22 x23 x24 x25 x26 x27 x28) ∧ (∀ (P : Int32 → SY → Prop) (F : Nat), d < F → P r v' → wY_run_27 P (nI K) F cnt (nI i) y1 y2 y3 y4 y5 y6 y7 y8 y9 y10 y11 y12 y13 y14 y15 y16 y17 y18 y19 y20 y21 y22 y23 y24 y25 y26 y27 y28) := by
  intro d
  induction d with
  | zero =>
    intro i cnt x1 x2 x3 x4 x5 x6 x7 x8 x9 x10 x11 x12 x13 x14 x15 x16 x17 x18 x19 x20 x21 x22 x23 x24 x25 x26 x27 x28 y1 y2 y3 y4 y5 y6 y7 y8 y9 y10 y11 y12 y13 y14 y15 y16 y17 y18 y19 y20 y21 y22 y23 y24 y25 y26 y27 y28 hi h
    have e : i = K := by omega
    subst e
    refine ⟨cnt, _, _, h, ?_, ?_⟩
    · intro P F hF h
      obtain ⟨F, rfl⟩ : ∃ G, F = G + 1 := ⟨F - 1, by omega⟩
      exact br_t (nI_le (by omega) (by omega)) h
    · intro P F hF h
      obtain ⟨F, rfl⟩ : ∃ G, F = G + 1 := ⟨F - 1, by omega⟩
      exact br_t (nI_le (by omega) (by omega)) h
  | succ d ih =>
    intro i cnt x1 x2 x3 x4 x5 x6 x7 x8 x9 x10 x11 x12 x13 x14 x15 x16 x17 x18 x19 x20 x21 x22 x23 x24 x25 x26 x27 x28 y1 y2 y3 y4 y5 y6 y7 y8 y9 y10 y11 y12 y13 y14 y15 y16 y17 y18 y19 y20 y21 y22 y23 y24 y25 y26 y27 y28 hi h
    have hT : ¬ nI K ≤ nI i := nI_ge (by omega) (by omega)
    obtain ⟨ev, u', v', hR, hX, hY⟩ := sp_L h (by omega)
    obtain ⟨a1, a2, a3, a4, a5, a6, a7, a8, a9, a10, a11, a12, a13, a14, a15, a16, a17, a18, a19, a20, a21, a22, a23, a24, a25, a26, a27, a28⟩ := u'
    obtain ⟨b1, b2, b3, b4, b5, b6, b7, b8, b9, b10, b11, b12, b13, b14, b15, b16, b17, b18, b19, b20, b21, b22, b23, b24, b25, b26, b27, b28⟩ := v'
    by_cases e : ev = 0
    · refine ⟨cnt, _, _, rl_up hR (by omega), ?_, ?_⟩
      · intro P F hF h
        obtain ⟨F, rfl⟩ : ∃ G, F = G + 1 := ⟨F - 1, by omega⟩
        exact br_f hT (hX _ (br_t e h))
      · intro P F hF h
        obtain ⟨F, rfl⟩ : ∃ G, F = G + 1 := ⟨F - 1, by omega⟩
        exact br_f hT (hY _ (br_t e h))
    · obtain ⟨r, u2, v2, hR2, hX2, hY2⟩ := ih (i + 1) (cnt + 1) a1 a2 a3 a4 a5 a6 a7 a8 a9 a10 a11 a12 a13 a14 a15 a16 a17 a18 a19 a20 a21 a22 a23 a24 a25 a26 a27 a28 b1 b2 b3 b4 b5 b6 b7 b8 b9 b10 b11 b12 b13 b14 b15 b16 b17 b18 b19 b20 b21 b22 b23 b24 b25 b26 b27 b28 (by omega) hR
      refine ⟨r, u2, v2, hR2, ?_, ?_⟩
      · intro P F hF h
        obtain ⟨F, rfl⟩ : ∃ G, F = G + 1 := ⟨F - 1, by omega⟩
        exact br_f hT (hX _ (br_f e (nm_e (nm_r (nI_1 i) (hX2 P F (by omega) h)))))
      · intro P F hF h
        obtain ⟨F, rfl⟩ : ∃ G, F = G + 1 := ⟨F - 1, by omega⟩
        exact br_f hT (hY _ (br_f e (nm_e (nm_r (nI_1 i) (hY2 P F (by omega) h)))))
theorem cl_E (x : Int32) (lo hi : Nat) (h : lo ≤ hi) (hh : hi < 2 ^ 31) : ∃ K, lo ≤ K ∧ K ≤ hi ∧ ∀ A : Int32 → Prop, A (nI K) → ((nI lo ≤ x → ((x ≤ nI hi → A x) ∧ (¬ x ≤ nI hi → A (nI hi)))) ∧ (¬ nI lo ≤ x → A (nI lo))) := by
  by_cases h1 : nI lo ≤ x
  · by_cases h2 : x ≤ nI hi
    · have h3 : (0 : Int32) ≤ x := Int32.le_trans (nI_pos' (n := lo) (by omega)) h1
      obtain ⟨j, hj, e⟩ := nI_of (Int32.not_lt.mpr h3)
      subst e
      have h4 := (nI_leI (by omega) (by omega)).mp h1
      have h5 := (nI_leI (by omega) (by omega)).mp h2
      exact ⟨j, h4, h5, fun A a => br_t h1 (br_t h2 a)⟩
    · exact ⟨hi, h, Nat.le_refl hi, fun A a => br_t h1 (br_f h2 a)⟩
  · exact ⟨lo, Nat.le_refl lo, h, fun A a => br_f h1 a⟩
end
