/-! an operation's turn -/
section
variable {po nt cc cu lt lw ly : Int32} {R T N M c : Nat} {tk : Nat → Nat} {nx : Int64} {va ok oo oa ln st ts pc ac ab rk wr wm ur uv ul he qu qs bl ib : Nat → Int32} {tc : Nat → Int64}
/-- the relation: near equality, tickets for queues; N the next ticket, at most M -/
def rl_R (M : Nat) (u : SX) (v : SY) : Prop :=
  ∃ (R T N c : Nat) (tk : Nat → Nat) (po nt cc lt lw : Int32) (va ok oo oa ln st ts pc ac ab rk wr wm ur uv ul he qu qs bl ib : Nat → Int32) (tc : Nat → Int64),
    u = (po, nI R, nI T, nt, cc, nI c, lt, lw, va, ok, oo, oa, ln, st, ts, pc, ac, ab, rk, wr, wm, ur, uv, ul, he, qu, qs, bl) ∧ v = (po, nI R, nI T, lN N, nt, cc, nI c, lt, lw, va, ok, oo, oa, ln, st, ts, pc, ac, ab, rk, wr, wm, tc, ur, uv, ul, he, ib) ∧ rt_B R T ∧ (po = 0 ∨ po = 1) ∧ c < T ∧ N ≤ M ∧ tb_B T N tk tc ∧ hv_I R T N tk st wr wm he qu qs ∧ mn_M R T oo ln st pc ur ul
theorem rl_mk (hB : rt_B R T) (hpo : po = 0 ∨ po = 1) (hc : c < T) (hN : N ≤ M) (hK : tb_B T N tk tc) (hI : hv_I R T N tk st wr wm he qu qs) (hM : mn_M R T oo ln st pc ur ul) : rl_R M (po, nI R, nI T, nt, cc, nI c, lt, lw, va, ok, oo, oa, ln, st, ts, pc, ac, ab, rk, wr, wm, ur, uv, ul, he, qu, qs, bl) (po, nI R, nI T, lN N, nt, cc, nI c, lt, lw, va, ok, oo, oa, ln, st, ts, pc, ac, ab, rk, wr, wm, tc, ur, uv, ul, he, ib) :=
  ⟨R, T, N, c, tk, po, nt, cc, lt, lw, va, ok, oo, oa, ln, st, ts, pc, ac, ab, rk, wr, wm, ur, uv, ul, he, qu, qs, bl, ib, tc, rfl, rfl, hB, hpo, hc, hN, hK, hI, hM⟩
theorem rl_up {u : SX} {v : SY} {M' : Nat} (h : rl_R M u v) (hM : M ≤ M') : rl_R M' u v := by
  obtain ⟨R, T, N, c, tk, po, nt, cc, lt, lw, va, ok, oo, oa, ln, st, ts, pc, ac, ab, rk, wr, wm, ur, uv, ul, he, qu, qs, bl, ib, tc, e1, e2, h1, h2, h3, h4, h5⟩ := h
  exact ⟨R, T, N, c, tk, po, nt, cc, lt, lw, va, ok, oo, oa, ln, st, ts, pc, ac, ab, rk, wr, wm, ur, uv, ul, he, qu, qs, bl, ib, tc, e1, e2, h1, h2, h3, by omega, h5⟩
theorem tb_add (h : tb_B T N tk tc) (v : Nat) (hN : N + 1 < 2 ^ 31) : tb_B T (N + 1) (qq_t tk v N) (vp_updL tc v (lN N)) := by
  refine ⟨hN, ?_⟩
  intro u hu
  by_cases e : u = v
  · rw [qq_t1 e, e, pk_uLs]
    exact ⟨rfl, by omega⟩
  · rw [qq_t0 e, pk_uLn e]
    have h1 := h.2 u hu
    exact ⟨h1.1, by omega⟩
theorem pg_L (hB : rt_B R T) (hpo : po = 0 ∨ po = 1) (hc : c < T) (hN : N ≤ M) (hK : tb_B T N tk tc) (hI : hv_I R T N tk st wr wm he qu qs) (hM : mn_M R T oo ln st pc ur ul) {t l p : Nat} (ht : t < T) (hs : st t = 1) (hl : ln t = nI l) (hl8 : l ≤ 8) (hp : pc t = nI p) (hpl : p < l) :
    ∃ (u' : SX) (v' : SY), rl_R M u' v' ∧ (∀ P : SX → Prop, P u' → wpX_perform P (po, nI R, nI T, nt, cc, nI c, lt, lw, va, ok, oo, oa, ln, st, ts, pc, ac, ab, rk, wr, wm, ur, uv, ul, he, qu, qs, bl) (nI t) (nI (t * 8 + p))) ∧ (∀ P : SY → Prop, P v' → wpY_perform P (po, nI R, nI T, lN N, nt, cc, nI c, lt, lw, va, ok, oo, oa, ln, st, ts, pc, ac, ab, rk, wr, wm, tc, ur, uv, ul, he, ib) (nI t)) := by
  obtain ⟨va1, pc1, ac1, ur1, uv1, ul1, hM1, hX, hY⟩ := pf_L (po := po) (nt := nt) (cc := cc) (cu := nI c) (lt := lt) (lw := lw) (ly := lw) (nx := lN N) (va := va) (ok := ok) (oa := oa) (ts := ts) (ac := ac) (ab := ab) (rk := rk) (wr := wr) (wm := wm) (uv := uv) (he := he) (qu := qu) (qs := qs) (bl := bl) (ib := ib) (tc := tc) hB hM ht (by rw [hs]; decide) hl hl8 hp hpl
  exact ⟨_, _, rl_mk hB hpo hc hN hK hI hM1, hX, hY⟩
theorem jn_L (hB : rt_B R T) (hpo : po = 0 ∨ po = 1) (hc : c < T) (hN : N ≤ M) (hM31 : M + 1 < 2 ^ 31) (hK : tb_B T N tk tc) (hI : hv_I R T N tk st wr wm he qu qs) (hM : mn_M R T oo ln st pc ur ul) {t r : Nat} {m : Int32} (ht : t < T) (hs : st t = 1) (hr : r < R) (hm : m = 1 ∨ m = 2) :
    ∃ (u' : SX) (v' : SY), rl_R (M + 1) u' v' ∧ (∀ P : SX → Prop, P u' → wpX_joinQueue P (po, nI R, nI T, nt, cc, nI c, lt, lw, va, ok, oo, oa, ln, st, ts, pc, ac, ab, rk, wr, wm, ur, uv, ul, he, qu, qs, bl) (nI t) m (nI r)) ∧ (∀ P : SY → Prop, P v' → wpY_joinQueue P (po, nI R, nI T, lN N, nt, cc, nI c, lt, lw, va, ok, oo, oa, ln, st, ts, pc, ac, ab, rk, wr, wm, tc, ur, uv, ul, he, ib) (nI t) (nI r) m) := by
  have hb := hB
  obtain ⟨hB1, hB2, hB3, hB4⟩ := hb
  have hs2 : st t ≠ 2 := by rw [hs]; decide
  obtain ⟨n, q, e1, e2, e3⟩ := hI.2.2.1 r hr
  have hw := (aw_w1 hI.1 ht hs2).1
  have hn := qq_lt e3 ht (by rw [hw]; exact (ux_ne1 (by omega)).symm)
  have hI2 := hv_join (m := m) (qs := qs) hI hB hr hm e2 e3 ht hs2
  have hM2 : mn_M R T oo ln (upd st t 2) pc ur ul := by
    refine mn_st hM ?_
    intro x hx e
    by_cases e4 : x = t
    · rw [ux_e e4] at e
      exact absurd e (by decide)
    · rw [pk_un e4] at e
      exact e
  exact ⟨_, _, rl_mk hB hpo hc (by omega) (tb_add hK t (by omega)) hI2 hM2, fun P h => jq_X hB ht hr e1 (by omega) h, fun P h => jq_Y (by omega) rfl h⟩
theorem fd_L (hB : rt_B R T) (hpo : po = 0 ∨ po = 1) (hc : c < T) (hN : N ≤ M) (hM31 : M + 1 < 2 ^ 31) (hK : tb_B T N tk tc) (hI : hv_I R T N tk st wr wm he qu qs) (hM : mn_M R T oo ln st pc ur ul) {t l p r : Nat} {m : Int32} (ht : t < T) (hs : st t = 1) (hl : ln t = nI l) (hl8 : l ≤ 8) (hp : pc t = nI p) (hpl : p < l) (hr : r < R) (hm : m = 1 ∨ m = 2) :
    ∃ (ev : Int32) (u' : SX) (v' : SY), rl_R (M + 1) u' v' ∧ (∀ P : Int32 → SX → Prop, P ev u' → wX_operationTurn_113 P (nI t) (nI (t * 8 + p)) (nI r) m 1 (nI T) po (nI R) (nI T) nt cc (nI c) lt lw va ok oo oa ln st ts pc ac ab rk wr wm ur uv ul he qu qs bl) ∧ (∀ P : Int32 → SY → Prop, P ev v' → wY_turn_290 P (nI t) (nI r) m 1 lw (nI T) po (nI R) (nI T) (lN N) nt cc (nI c) lt ly va ok oo oa ln st ts pc ac ab rk wr wm tc ur uv ul he ib) := by
  have hb := hB
  obtain ⟨hB1, hB2, hB3, hB4⟩ := hb
  have hs2 : st t ≠ 2 := by rw [hs]; decide
  have hle : nI T ≤ nI T := nI_le (by omega) (by omega)
  obtain ⟨n, q, e1, e2, e3⟩ := hI.2.2.1 r hr
  have hw : wr t ≠ nI r := by
    rw [(aw_w1 hI.1 ht hs2).1]
    exact (ux_ne1 (by omega)).symm
  obtain ⟨bl1, hsp, hg⟩ := fb_X (po := po) (nt := nt) (cc := cc) (cu := nI c) (lt := lt) (lw := lw) (va := va) (ok := ok) (oo := oo) (oa := oa) (ln := ln) (st := st) (ts := ts) (pc := pc) (ac := ac) (ab := ab) (rk := rk) (wr := wr) (wm := wm) (ur := ur) (uv := uv) (ul := ul) (qu := qu) (qs := qs) (bl := bl) hB hI.2.1 hr hm ht
  by_cases hE : bl_E T t r m he wr
  · obtain ⟨u', v', hR, hX, hY⟩ := jn_L (nt := nt) (cc := cc) (lt := lt) (lw := lw) (va := va) (ok := ok) (oa := oa) (ts := ts) (ac := ac) (ab := ab) (rk := rk) (uv := uv) (bl := bl1) (ib := ib) hB hpo hc hN hM31 hK hI hM ht hs hr hm
    refine ⟨3, u', v', hR, ?_, ?_⟩
    · intro P h
      exact br_t hle (hg _ (fun _ => br_f one0 (hX (fun u => P 3 u) h)) (fun z => absurd hE z))
    · intro P h
      exact br_t hle (gr_Y hB hI.1 hr hm ht e3 hw (fun _ => br_t rfl (hY (fun u => P 3 u) h)) (fun z => absurd hE z))
  · have eh : upd he (nI t * 16 + nI r).toNatClampNeg m = upd he (t * 16 + r) m := by rw [ci_16 (by omega) (by omega)]
    obtain ⟨u', v', hR, hX, hY⟩ := pg_L (nt := nt) (cc := cc) (lt := lt) (lw := lw) (va := va) (ok := ok) (oa := oa) (ts := ts) (ac := ac) (ab := ab) (rk := rk) (uv := uv) (bl := bl1) (ib := ib) hB hpo hc hN hK (hv_he (v := t) hI hB hr hm) hM ht hs hl hl8 hp hpl
    refine ⟨2, u', v', rl_up hR (by omega), ?_, ?_⟩
    · intro P h
      exact br_t hle (hg _ (fun z => absurd z hE) (fun _ => br_t rfl ⟨vi_16 (by omega) (by omega), nm_r eh (hX (fun u => P 2 u) h)⟩))
    · intro P h
      exact br_t hle (gr_Y hB hI.1 hr hm ht e3 hw (fun z => absurd z hE) (fun _ => br_f one0 ⟨vi_16 (by omega) (by omega), nm_r eh (hY (fun u => P 2 u) h)⟩))
set_option maxHeartbeats 1000000 in
theorem wl_l (hB : rt_B R T) (hK : tb_B T N tk tc) {t p : Nat} {x2 x3 m : Int32} (ht : t < T) {B : Nat → Prop} (hsx : sp_S T B bl) (hsy : sp_S T B ib) (hBt : ¬ B t) :
    ∀ d i (cnt : Int32) (va st pc ac ab wr wm ul he qu qs : Nat → Int32), i + d = T → hv_I R T N tk st wr wm he qu qs → mn_M R T oo ln st pc ur ul → st t = 1 → pc t = nI p →
    ∃ (cnt1 : Int32) (va1 st1 pc1 ac1 ab1 wr1 wm1 ul1 he1 qu1 qs1 : Nat → Int32), hv_I R T N tk st1 wr1 wm1 he1 qu1 qs1 ∧ mn_M R T oo ln st1 pc1 ur ul1 ∧ st1 t = 1 ∧ pc1 t = nI p ∧
      (∀ (post : Int32 → SX → Prop) (F : Nat), d < F → wX_operationTurn_113 post (nI t) x2 x3 m 1 (nI T) po (nI R) (nI T) nt cc cu lt cnt1 va1 ok oo oa ln st1 ts pc1 ac1 ab1 rk wr1 wm1 ur uv ul1 he1 qu1 qs1 bl → wX_operationTurn_113 post (nI t) x2 x3 m F (nI i) po (nI R) (nI T) nt cc cu lt cnt va ok oo oa ln st ts pc ac ab rk wr wm ur uv ul he qu qs bl) ∧
      (∀ (post : Int32 → SY → Prop) (F : Nat), d < F → wY_turn_290 post (nI t) x3 m 1 cnt1 (nI T) po (nI R) (nI T) nx nt cc cu lt ly va1 ok oo oa ln st1 ts pc1 ac1 ab1 rk wr1 wm1 tc ur uv ul1 he1 ib → wY_turn_290 post (nI t) x3 m F cnt (nI i) po (nI R) (nI T) nx nt cc cu lt ly va ok oo oa ln st ts pc ac ab rk wr wm tc ur uv ul he ib) := by
  have hb := hB
  obtain ⟨hB1, hB2, hB3, hB4⟩ := hb
  have hle : nI T ≤ nI T := nI_le (by omega) (by omega)
  intro d
  induction d with
  | zero =>
    intro i cnt va st pc ac ab wr wm ul he qu qs hi hI hM hst hpc
    have e : i = T := by omega
    subst e
    refine ⟨cnt, va, st, pc, ac, ab, wr, wm, ul, he, qu, qs, hI, hM, hst, hpc, ?_, ?_⟩
    · intro post F hF h
      obtain ⟨F, rfl⟩ : ∃ G, F = G + 1 := ⟨F - 1, by omega⟩
      exact br_t hle (h.1 hle)
    · intro post F hF h
      obtain ⟨F, rfl⟩ : ∃ G, F = G + 1 := ⟨F - 1, by omega⟩
      exact br_t hle (h.1 hle)
  | succ d ih =>
    intro i cnt va st pc ac ab wr wm ul he qu qs hi hI hM hst hpc
    have hT : ¬ nI T ≤ nI i := nI_ge (by omega) (by omega)
    have h8 : vp_in (nI i) 8 := vp_in_nI (by omega) (by omega)
    have t8 : vp_in (nI t) 8 := vp_in_nI (by omega) (by omega)
    have hc8 : (nI i).toNatClampNeg = i := nI_clamp (by omega)
    have hx := hsx i (by omega)
    have hy := hsy i (by omega)
    by_cases hb : B i
    · have ex : ¬ bl (nI i).toNatClampNeg = 0 := by
        rw [hc8, hx.1 hb]
        exact one0
      have ey : ¬ ib (nI i).toNatClampNeg = 0 := by
        rw [hc8, hy.1 hb]
        exact one0
      by_cases hts : ts (nI i).toNatClampNeg ≤ ts (nI t).toNatClampNeg
      · obtain ⟨cnt1, va1, st1, pc1, ac1, ab1, wr1, wm1, ul1, he1, qu1, qs1, hI1, hM1, hst1, hpc1, hX, hY⟩ := ih (i + 1) cnt va st pc ac ab wr wm ul he qu qs (by omega) hI hM hst hpc
        refine ⟨cnt1, va1, st1, pc1, ac1, ab1, wr1, wm1, ul1, he1, qu1, qs1, hI1, hM1, hst1, hpc1, ?_, ?_⟩
        · intro post F hF h
          obtain ⟨F, rfl⟩ : ∃ G, F = G + 1 := ⟨F - 1, by omega⟩
          exact br_f hT ⟨h8, br_f ex ⟨h8, t8, br_t hts (nm_r (nI_1 i) (hX post F (by omega) h))⟩⟩
        · intro post F hF h
          obtain ⟨F, rfl⟩ : ∃ G, F = G + 1 := ⟨F - 1, by omega⟩
          exact br_f hT ⟨h8, br_f ey ⟨h8, t8, br_t hts (nm_r (nI_1 i) (hY post F (by omega) h))⟩⟩
      · have hit : t ≠ i := fun z => hBt (by rw [z]; exact hb)
        obtain ⟨va2, st2, wr2, wm2, he2, qu2, qs2, hI2, hM2, hS2, hX2, hY2⟩ := ab_L (po := po) (nt := nt) (cc := cc) (cu := cu) (lt := lt) (lw := cnt) (ly := ly) (nx := nx) (va := va) (ok := ok) (oa := oa) (ts := ts) (ac := ac) (ab := ab) (rk := rk) (uv := uv) (bl := bl) (ib := ib) hB hK hI hM (show i < T by omega)
        have hst2 : st2 t = 1 := by
          cases hS2 t ht hit with
          | inl z => rw [z]; exact hst
          | inr z => exact z.2
        have hpc2 : upd pc i 0 t = nI p := by
          rw [pk_un hit]
          exact hpc
        obtain ⟨cnt1, va1, st1, pc1, ac1, ab1, wr1, wm1, ul1, he1, qu1, qs1, hI1, hM1, hst1, hpc1, hX, hY⟩ := ih (i + 1) (cnt + 1) va2 st2 (upd pc i 0) (upd ac i 0) (upd ab i (ab i + 1)) wr2 wm2 (upd ul i 0) he2 qu2 qs2 (by omega) hI2 hM2 hst2 hpc2
        refine ⟨cnt1, va1, st1, pc1, ac1, ab1, wr1, wm1, ul1, he1, qu1, qs1, hI1, hM1, hst1, hpc1, ?_, ?_⟩
        · intro post F hF h
          obtain ⟨F, rfl⟩ : ∃ G, F = G + 1 := ⟨F - 1, by omega⟩
          exact br_f hT ⟨h8, br_f ex ⟨h8, t8, br_f hts (hX2 _ (nm_e (nm_r (nI_1 i) (hX post F (by omega) h))))⟩⟩
        · intro post F hF h
          obtain ⟨F, rfl⟩ : ∃ G, F = G + 1 := ⟨F - 1, by omega⟩
          exact br_f hT ⟨h8, br_f ey ⟨h8, t8, br_f hts (hY2 _ (nm_e (nm_r (nI_1 i) (hY post F (by omega) h))))⟩⟩
    · have ex : bl (nI i).toNatClampNeg = 0 := by
        rw [hc8]
        exact hx.2 hb
      have ey : ib (nI i).toNatClampNeg = 0 := by
        rw [hc8]
        exact hy.2 hb
      obtain ⟨cnt1, va1, st1, pc1, ac1, ab1, wr1, wm1, ul1, he1, qu1, qs1, hI1, hM1, hst1, hpc1, hX, hY⟩ := ih (i + 1) cnt va st pc ac ab wr wm ul he qu qs (by omega) hI hM hst hpc
      refine ⟨cnt1, va1, st1, pc1, ac1, ab1, wr1, wm1, ul1, he1, qu1, qs1, hI1, hM1, hst1, hpc1, ?_, ?_⟩
      · intro post F hF h
        obtain ⟨F, rfl⟩ : ∃ G, F = G + 1 := ⟨F - 1, by omega⟩
        exact br_f hT ⟨h8, br_t ex (nm_r (nI_1 i) (hX post F (by omega) h))⟩
      · intro post F hF h
        obtain ⟨F, rfl⟩ : ∃ G, F = G + 1 := ⟨F - 1, by omega⟩
        exact br_f hT ⟨h8, br_t ey (nm_r (nI_1 i) (hY post F (by omega) h))⟩
end
