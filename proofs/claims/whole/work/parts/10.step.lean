/-! a step, and a run of steps -/
section
variable {po nt cc cu lt lw ly : Int32} {R T N M c : Nat} {tk : Nat → Nat} {nx : Int64} {va ok oo oa ln st ts pc ac ab rk wr wm ur uv ul he qu qs bl ib : Nat → Int32} {tc : Nat → Int64}
theorem cf_g1 {h m : Int32} (hh : h = 0 ∨ h = 1 ∨ h = 2) (hm : m = 1 ∨ m = 2) (hl : ¬ h < m) : h = 2 ∨ (h ≠ 2 ∧ m = 1 ∧ h = 1) := by
  cases hh with
  | inl a =>
    subst a
    cases hm with
    | inl b => subst b; exact absurd (by decide) hl
    | inr b => subst b; exact absurd (by decide) hl
  | inr hh =>
    cases hh with
    | inl a =>
      subst a
      cases hm with
      | inl b => exact Or.inr ⟨by decide, b, rfl⟩
      | inr b => subst b; exact absurd (by decide) hl
    | inr a => exact Or.inl a
theorem cf_g0 {h m : Int32} (hm : m = 1 ∨ m = 2) (hl : h < m) : h ≠ 2 ∧ (m = 1 → h ≠ 1) := by
  constructor
  · intro a
    subst a
    cases hm with
    | inl b => subst b; exact absurd hl (by decide)
    | inr b => subst b; exact absurd hl (by decide)
  · intro b a
    subst b a
    exact absurd hl (by decide)
set_option maxHeartbeats 1000000 in
theorem ot_34 (hB : rt_B R T) (hpo : po = 0 ∨ po = 1) (hN : N ≤ M) (hM31 : M + 1 < 2 ^ 31) (hK : tb_B T N tk tc) (hI : hv_I R T N tk st wr wm he qu qs) (hM : mn_M R T oo ln st pc ur ul) {t l p r : Nat} {m : Int32} (ht : t < T) (hs : st t = 1) (hl : ln t = nI l) (hl8 : l ≤ 8) (hp : pc t = nI p) (hpl : p < l) (hr : r < R) (hm : m = 1 ∨ m = 2) :
    ∃ (ev : Int32) (u' : SX) (v' : SY), rl_R (M + 1) u' v' ∧ (∀ P : Int32 → SX → Prop, P ev u' → wX_operationTurn_34 P (nI t) (nI (t * 8 + p)) (nI r) m po (nI R) (nI T) nt cc (nI t) lt 0 va ok oo oa ln st ts pc ac ab rk wr wm ur uv ul he qu qs bl) ∧ (∀ P : Int32 → SY → Prop, P ev v' → wY_turn_109 P (nI t) (nI r) m po (nI R) (nI T) (lN N) nt cc (nI t) lt 0 va ok oo oa ln st ts pc ac ab rk wr wm tc ur uv ul he ib) := by
  have hb := hB
  obtain ⟨hB1, hB2, hB3, hB4⟩ := hb
  have hs2 : st t ≠ 2 := by rw [hs]; decide
  have hin := vi_16 (u := t) (r := r) (by omega) (by omega)
  have hci := ci_16 (u := t) (r := r) (by omega) (by omega)
  have eh : upd he (nI t * 16 + nI r).toNatClampNeg m = upd he (t * 16 + r) m := by rw [hci]
  by_cases hlt : he (t * 16 + r) < m
  · have hlt' : he (nI t * 16 + nI r).toNatClampNeg < m := by rw [hci]; exact hlt
    have hg0 := cf_g0 hm hlt
    obtain ⟨n, q, e1, e2, e3⟩ := hI.2.2.1 r hr
    have hw : wr t ≠ nI r := by
      rw [(aw_w1 hI.1 ht hs2).1]
      exact (ux_ne1 (by omega)).symm
    have hy149 : ∀ P : Int32 → SY → Prop, wY_turn_149 P (nI t) (nI r) m po (nI R) (nI T) (lN N) nt cc (nI t) lt 0 va ok oo oa ln st ts pc ac ab rk wr wm tc ur uv ul he ib → wY_turn_109 P (nI t) (nI r) m po (nI R) (nI T) (lN N) nt cc (nI t) lt 0 va ok oo oa ln st ts pc ac ab rk wr wm tc ur uv ul he ib := by
      intro P G
      exact ⟨hin, nm_r (congrArg he hci) (br_f hg0.1 (br_c (fun em => br_f (hg0.2 em) G) (fun _ => G)))⟩
    obtain ⟨bl1, hsp, hg⟩ := fb_X (po := po) (nt := nt) (cc := cc) (cu := nI t) (lt := lt) (lw := 0) (va := va) (ok := ok) (oo := oo) (oa := oa) (ln := ln) (st := st) (ts := ts) (pc := pc) (ac := ac) (ab := ab) (rk := rk) (wr := wr) (wm := wm) (ur := ur) (uv := uv) (ul := ul) (qu := qu) (qs := qs) (bl := bl) hB hI.2.1 hr hm ht
    by_cases hE : bl_E T t r m he wr
    · obtain ⟨ib1, hspy, hgy⟩ := yb_l (po := po) (nt := nt) (cc := cc) (cu := nI t) (lt := lt) (ly := 0) (nx := lN N) (va := va) (ok := ok) (oo := oo) (oa := oa) (ln := ln) (ts := ts) (pc := pc) (ac := ac) (ab := ab) (rk := rk) (ur := ur) (uv := uv) (ul := ul) (he := he) (tc := tc) hB hI.1 hr hm ht T 0 ib (by omega) (fun u hu => absurd hu (by omega))
      cases hpo with
      | inl hp0 =>
        subst hp0
        have hBt : ¬ bl_B t r m he wr t := fun z => z.1 rfl
        obtain ⟨cnt1, va1, st1, pc1, ac1, ab1, wr1, wm1, ul1, he1, qu1, qs1, hI1, hM1, hst1, hpc1, hwX, hwY⟩ := wl_l (po := 0) (nt := nt) (cc := cc) (cu := nI t) (lt := lt) (ly := 0) (nx := lN N) (ok := ok) (oa := oa) (ts := ts) (rk := rk) (uv := uv) (x2 := nI (t * 8 + p)) (x3 := nI r) (m := m) hB hK ht hsp hspy hBt T 0 0 va st pc ac ab wr wm ul he qu qs (by omega) hI hM hs hp
        obtain ⟨ev, u', v', hR, hX, hY⟩ := fd_L (nt := nt) (cc := cc) (lt := lt) (lw := cnt1) (ly := 0) (va := va1) (ok := ok) (oa := oa) (ts := ts) (ac := ac1) (ab := ab1) (rk := rk) (uv := uv) (bl := bl1) (ib := ib1) hB (Or.inl rfl) ht hN hM31 hK hI1 hM1 ht hst1 hl hl8 hpc1 hpl hr hm
        refine ⟨ev, u', v', hR, ?_, ?_⟩
        · intro P h
          exact ⟨hin, br_t hlt' (hg _ (fun _ => br_f one0 (br_f (by decide) (br_f one0 (br_t rfl ⟨T + 1, hwX P (T + 1) (by omega) (hX P h)⟩)))) (fun z => absurd hE z))⟩
        · intro P h
          exact hy149 P (gr_Y hB hI.1 hr hm ht e3 hw (fun _ => br_t rfl ⟨T + 1, hgy P (T + 1) (by omega) (br_t rfl ⟨T + 1, hwY P (T + 1) (by omega) (hY P h)⟩)⟩) (fun z => absurd hE z))
      | inr hp1 =>
        subst hp1
        by_cases hO : od_E T t (bl_B t r m he wr) ts
        · obtain ⟨va2, st2, wr2, wm2, he2, qu2, qs2, hI2, hM2, hS2, hX2, hY2⟩ := ab_L (po := 1) (nt := nt) (cc := cc) (cu := nI t) (lt := lt) (lw := 0) (ly := 0) (nx := lN N) (va := va) (ok := ok) (oa := oa) (ts := ts) (ac := ac) (ab := ab) (rk := rk) (uv := uv) (bl := bl1) (ib := ib1) hB hK hI hM ht
          refine ⟨4, _, _, rl_mk (M := M + 1) (ib := ib1) (bl := bl1) (nt := nt) (cc := cc) (lt := lt) (lw := 0) (va := va2) (ok := ok) (oa := oa) (ts := ts) (ac := upd ac t 0) (ab := upd ab t (ab t + 1)) (rk := rk) (uv := uv) hB (Or.inr rfl) ht (by omega) hK hI2 hM2, ?_, ?_⟩
          · intro P h
            exact ⟨hin, br_t hlt' (hg _ (fun _ => br_f one0 (br_t rfl (io_X hB ht hsp (fun _ => br_t rfl (hX2 (fun u => P 4 u) h)) (fun z => absurd hO z)))) (fun z => absurd hE z))⟩
          · intro P h
            exact hy149 P (gr_Y hB hI.1 hr hm ht e3 hw (fun _ => br_t rfl ⟨T + 1, hgy P (T + 1) (by omega) (br_f (by decide) ⟨T + 1, y_390 hB ht hspy (fun _ => hY2 (fun u => P 4 u) h) (fun z => absurd hO z) T 0 (T + 1) (by omega) (by omega) (fun u hu => absurd hu (by omega))⟩)⟩) (fun z => absurd hE z))
        · obtain ⟨u', v', hR, hX, hY⟩ := jn_L (nt := nt) (cc := cc) (lt := lt) (lw := 0) (va := va) (ok := ok) (oa := oa) (ts := ts) (ac := ac) (ab := ab) (rk := rk) (uv := uv) (bl := bl1) (ib := ib1) hB (Or.inr rfl) ht hN hM31 hK hI hM ht hs hr hm
          refine ⟨3, u', v', hR, ?_, ?_⟩
          · intro P h
            exact ⟨hin, br_t hlt' (hg _ (fun _ => br_f one0 (br_t rfl (io_X hB ht hsp (fun z => absurd z hO) (fun _ => br_f one0 (br_f one0 (br_f (by decide) (br_f one0 (hX (fun u => P 3 u) h)))))))) (fun z => absurd hE z))⟩
          · intro P h
            exact hy149 P (gr_Y hB hI.1 hr hm ht e3 hw (fun _ => br_t rfl ⟨T + 1, hgy P (T + 1) (by omega) (br_f (by decide) ⟨T + 1, y_390 hB ht hspy (fun z => absurd z hO) (fun _ => hY (fun u => P 3 u) h) T 0 (T + 1) (by omega) (by omega) (fun u hu => absurd hu (by omega))⟩)⟩) (fun z => absurd hE z))
    · obtain ⟨u', v', hR, hX, hY⟩ := pg_L (nt := nt) (cc := cc) (lt := lt) (lw := 0) (va := va) (ok := ok) (oa := oa) (ts := ts) (ac := ac) (ab := ab) (rk := rk) (uv := uv) (bl := bl1) (ib := ib) hB hpo ht hN hK (hv_he (v := t) hI hB hr hm) hM ht hs hl hl8 hp hpl
      refine ⟨2, u', v', rl_up hR (by omega), ?_, ?_⟩
      · intro P h
        exact ⟨hin, br_t hlt' (hg _ (fun z => absurd z hE) (fun _ => br_t rfl (br_t rfl (br_t rfl ⟨hin, nm_r eh (hX (fun u => P 2 u) h)⟩))))⟩
      · intro P h
        exact hy149 P (gr_Y hB hI.1 hr hm ht e3 hw (fun z => absurd z hE) (fun _ => br_f one0 ⟨hin, nm_r eh (hY (fun u => P 2 u) h)⟩))
  · have hlt' : ¬ he (nI t * 16 + nI r).toNatClampNeg < m := by rw [hci]; exact hlt
    obtain ⟨u', v', hR, hX, hY⟩ := pg_L (nt := nt) (cc := cc) (lt := lt) (lw := 0) (va := va) (ok := ok) (oa := oa) (ts := ts) (ac := ac) (ab := ab) (rk := rk) (uv := uv) (bl := bl) (ib := ib) hB hpo ht hN hK hI hM ht hs hl hl8 hp hpl
    refine ⟨2, u', v', rl_up hR (by omega), ?_, ?_⟩
    · intro P h
      exact ⟨hin, br_f hlt' (hX (fun u => P 2 u) h)⟩
    · intro P h
      refine ⟨hin, nm_r (congrArg he hci) ?_⟩
      cases cf_g1 (hb_3 hI.2.1 ht (by omega)) hm hlt with
      | inl a => exact br_t a (hY (fun u => P 2 u) h)
      | inr a => exact br_f a.1 (br_t a.2.1 (br_t a.2.2 (hY (fun u => P 2 u) h)))
theorem na_l (hB : rt_B R T) (hc : c < T) : ∀ d i, i + d = T →
    (∃ t, t < T ∧ (st t = 1 ∨ st t = 3) ∧ (∀ (post : Int32 → Prop) (F : Nat), d < F → post (nI t) → wX_nextToAct_7 post po (nI R) (nI T) nt cc (nI c) lt lw va ok oo oa ln st ts pc ac ab rk wr wm ur uv ul he qu qs bl F (nI ((c + i) % T)) (nI i)) ∧ (∀ (post : Int32 → SY → Prop) (F : Nat), d < F → wY_step_42 post (nI t) po (nI R) (nI T) nx nt cc (nI c) lt ly va ok oo oa ln st ts pc ac ab rk wr wm tc ur uv ul he ib → wY_step_2 post po (nI R) (nI T) nx nt cc (nI c) lt ly va ok oo oa ln st ts pc ac ab rk wr wm tc ur uv ul he ib F (nI (i + 1)))) ∨
    ((∀ (post : Int32 → Prop) (F : Nat), d < F → post (-1) → wX_nextToAct_7 post po (nI R) (nI T) nt cc (nI c) lt lw va ok oo oa ln st ts pc ac ab rk wr wm ur uv ul he qu qs bl F (nI ((c + i) % T)) (nI i)) ∧ (∀ (post : Int32 → SY → Prop) (F : Nat), d < F → post 0 (po, nI R, nI T, nx, nt, cc, nI c, (-1), 0, va, ok, oo, oa, ln, st, ts, pc, ac, ab, rk, wr, wm, tc, ur, uv, ul, he, ib) → wY_step_2 post po (nI R) (nI T) nx nt cc (nI c) lt ly va ok oo oa ln st ts pc ac ab rk wr wm tc ur uv ul he ib F (nI (i + 1)))) := by
  obtain ⟨hB1, hB2, hB3, hB4⟩ := hB
  intro d
  induction d with
  | zero =>
    intro i hi
    refine Or.inr ⟨?_, ?_⟩
    · intro post F hF h
      obtain ⟨F, rfl⟩ : ∃ G, F = G + 1 := ⟨F - 1, by omega⟩
      exact br_t (nI_le (by omega) (by omega)) h
    · intro post F hF h
      obtain ⟨F, rfl⟩ : ∃ G, F = G + 1 := ⟨F - 1, by omega⟩
      exact br_t (nI_lt (by omega) (by omega)) h
  | succ d ih =>
    intro i hi
    have hT : ¬ nI T ≤ nI i := nI_ge (by omega) (by omega)
    have hTY : ¬ nI T < nI (i + 1) := nI_nlt (by omega) (by omega)
    have hT0 : ¬ nI T = 0 := nI_ne0 (by omega) (by omega)
    have hmod : (c + i) % T < T := Nat.mod_lt _ (by omega)
    obtain ⟨t, ht⟩ : ∃ t, t = (c + (i + 1)) % T := ⟨_, rfl⟩
    have htT : t < T := by rw [ht]; exact Nat.mod_lt _ (by omega)
    have ey : nI c + nI (i + 1) - (nI c + nI (i + 1)) / nI T * nI T = nI t := by
      rw [nI_add, pk_rem (by omega) (by omega) (by omega), ht]
    have ex1 : nI T ≤ nI ((c + i) % T) + 1 → (0 : Int32) = nI t := by
      intro z
      rw [nI_1, nI_leI (by omega) (by omega)] at z
      rw [ht, md_0 hc (by omega) z]
      rfl
    have ex0 : ¬ nI T ≤ nI ((c + i) % T) + 1 → nI ((c + i) % T) + 1 = nI t := by
      intro z
      rw [nI_1, nI_leI (by omega) (by omega)] at z
      rw [nI_1, ht, md_1 hc (by omega) (by omega)]
    have h8 : vp_in (nI t) 8 := vp_in_nI (by omega) (by omega)
    have hc8 : (nI t).toNatClampNeg = t := nI_clamp (by omega)
    have hX32 : ∀ (post : Int32 → Prop) (F : Nat), wX_nextToAct_32 post (wX_nextToAct_7 post po (nI R) (nI T) nt cc (nI c) lt lw va ok oo oa ln st ts pc ac ab rk wr wm ur uv ul he qu qs bl F) (nI i) (nI t) po (nI R) (nI T) nt cc (nI c) lt lw va ok oo oa ln st ts pc ac ab rk wr wm ur uv ul he qu qs bl → wX_nextToAct_7 post po (nI R) (nI T) nt cc (nI c) lt lw va ok oo oa ln st ts pc ac ab rk wr wm ur uv ul he qu qs bl (F + 1) (nI ((c + i) % T)) (nI i) := by
      intro post F G
      refine br_f hT (br_c (fun z => ?_) (fun z => ?_))
      · rw [ex1 z]
        exact G
      · rw [ex0 z]
        exact G
    by_cases s1 : st t = 1
    · have e1 : st (nI t).toNatClampNeg = 1 := by rw [hc8]; exact s1
      refine Or.inl ⟨t, htT, Or.inl s1, ?_, ?_⟩
      · intro post F hF h
        obtain ⟨F, rfl⟩ : ∃ G, F = G + 1 := ⟨F - 1, by omega⟩
        exact hX32 post F ⟨h8, br_t e1 h⟩
      · intro post F hF h
        obtain ⟨F, rfl⟩ : ∃ G, F = G + 1 := ⟨F - 1, by omega⟩
        exact br_f hTY ⟨hT0, nm_r ey ⟨h8, br_t e1 h⟩⟩
    · have e1 : ¬ st (nI t).toNatClampNeg = 1 := by rw [hc8]; exact s1
      by_cases s3 : st t = 3
      · have e3 : st (nI t).toNatClampNeg = 3 := by rw [hc8]; exact s3
        refine Or.inl ⟨t, htT, Or.inr s3, ?_, ?_⟩
        · intro post F hF h
          obtain ⟨F, rfl⟩ : ∃ G, F = G + 1 := ⟨F - 1, by omega⟩
          exact hX32 post F ⟨h8, br_f e1 ⟨h8, br_t e3 h⟩⟩
        · intro post F hF h
          obtain ⟨F, rfl⟩ : ∃ G, F = G + 1 := ⟨F - 1, by omega⟩
          exact br_f hTY ⟨hT0, nm_r ey ⟨h8, br_f e1 ⟨h8, br_t e3 h⟩⟩⟩
      · have e3 : ¬ st (nI t).toNatClampNeg = 3 := by rw [hc8]; exact s3
        have hxk : ∀ (post : Int32 → Prop) (F : Nat), wX_nextToAct_7 post po (nI R) (nI T) nt cc (nI c) lt lw va ok oo oa ln st ts pc ac ab rk wr wm ur uv ul he qu qs bl F (nI ((c + (i + 1)) % T)) (nI (i + 1)) → wX_nextToAct_7 post po (nI R) (nI T) nt cc (nI c) lt lw va ok oo oa ln st ts pc ac ab rk wr wm ur uv ul he qu qs bl (F + 1) (nI ((c + i) % T)) (nI i) := by
          intro post F G
          rw [← ht] at G
          exact hX32 post F ⟨h8, br_f e1 ⟨h8, br_f e3 (nm_r (nI_1 i) G)⟩⟩
        cases ih (i + 1) (by omega) with
        | inl a =>
          obtain ⟨t', a1, a2, hX, hY⟩ := a
          refine Or.inl ⟨t', a1, a2, ?_, ?_⟩
          · intro post F hF h
            obtain ⟨F, rfl⟩ : ∃ G, F = G + 1 := ⟨F - 1, by omega⟩
            exact hxk post F (hX post F (by omega) h)
          · intro post F hF h
            obtain ⟨F, rfl⟩ : ∃ G, F = G + 1 := ⟨F - 1, by omega⟩
            exact br_f hTY ⟨hT0, nm_r ey ⟨h8, br_f e1 ⟨h8, br_f e3 (nm_r (nI_1 (i + 1)) (hY post F (by omega) h))⟩⟩⟩
        | inr a =>
          obtain ⟨hX, hY⟩ := a
          refine Or.inr ⟨?_, ?_⟩
          · intro post F hF h
            obtain ⟨F, rfl⟩ : ∃ G, F = G + 1 := ⟨F - 1, by omega⟩
            exact hxk post F (hX post F (by omega) h)
          · intro post F hF h
            obtain ⟨F, rfl⟩ : ∃ G, F = G + 1 := ⟨F - 1, by omega⟩
            exact br_f hTY ⟨hT0, nm_r ey ⟨h8, br_f e1 ⟨h8, br_f e3 (nm_r (nI_1 (i + 1)) (hY post F (by omega) h))⟩⟩⟩
end
