/-! the queues handed on, in lockstep -/
section
variable {po nt cc cu lt lw ly : Int32} {R T N : Nat} {tk : Nat → Nat} {nx : Int64} {va ok oo oa ln st ts pc ac ab rk wr wm ur uv ul he qu qs bl ib : Nat → Int32} {tc : Nat → Int64}
def ho_S (T : Nat) (st st1 : Nat → Int32) : Prop := ∀ x, x < T → st1 x = st x ∨ (st x = 2 ∧ st1 x = 1)
theorem ho_t {T : Nat} {a b c : Nat → Int32} (h1 : ho_S T a b) (h2 : ho_S T b c) : ho_S T a c := by
  intro x hx
  cases h1 x hx with
  | inl e =>
    cases h2 x hx with
    | inl f => exact Or.inl (f.trans e)
    | inr f => exact Or.inr ⟨e ▸ f.1, f.2⟩
  | inr e =>
    cases h2 x hx with
    | inl f => exact Or.inr ⟨e.1, f.trans e.2⟩
    | inr f =>
      have h3 := f.1
      rw [e.2] at h3
      exact absurd h3 (by decide)
theorem ho_0 {T : Nat} {a b : Nat → Int32} (h : ho_S T a b) {x : Nat} (hx : x < T) (e : b x = 0) : a x = 0 := by
  cases h x hx with
  | inl f => rw [← f]; exact e
  | inr f =>
    rw [f.2] at e
    exact absurd e (by decide)
theorem ho_n {T : Nat} {a b : Nat → Int32} (h : ho_S T a b) {x : Nat} (hx : x < T) (e : a x ≠ 2) : b x = a x := by
  cases h x hx with
  | inl f => exact f
  | inr f => exact absurd f.1 e
set_option maxHeartbeats 1000000 in
theorem ho_l (hB : rt_B R T) (hK : tb_B T N tk tc) {r : Nat} (hr : r < R) : ∀ n i (st wr wm he qu qs : Nat → Int32), hv_I R T N tk st wr wm he qu qs → qs r = nI n → i + n ≤ T →
    ∃ st1 wr1 wm1 he1 qu1 qs1 : Nat → Int32, hv_I R T N tk st1 wr1 wm1 he1 qu1 qs1 ∧ ho_S T st st1 ∧
      (∀ (post : SX → Prop) (F : Nat), n < F → post (po, nI R, nI T, nt, cc, cu, lt, lw, va, ok, oo, oa, ln, st1, ts, pc, ac, ab, rk, wr1, wm1, ur, uv, ul, he1, qu1, qs1, bl) → wX_handOff_2 post (nI r) F (nI i) po (nI R) (nI T) nt cc cu lt lw va ok oo oa ln st ts pc ac ab rk wr wm ur uv ul he qu qs bl) ∧
      (∀ (post : SY → Prop) (F : Nat), n < F → post (po, nI R, nI T, nx, nt, cc, cu, lt, ly, va, ok, oo, oa, ln, st1, ts, pc, ac, ab, rk, wr1, wm1, tc, ur, uv, ul, he1, ib) → wY_handoff_2 post (nI r) po (nI R) (nI T) nx nt cc cu lt ly F (nI i) va ok oo oa ln st ts pc ac ab rk wr wm tc ur uv ul he ib) := by
  have hb := hB
  obtain ⟨hB1, hB2, hB3, hB4⟩ := hb
  intro n
  induction n with
  | zero =>
    intro i st wr wm he qu qs hI hs hi
    refine ⟨st, wr, wm, he, qu, qs, hI, fun x _ => Or.inl rfl, ?_, ?_⟩
    · intro post F hF h
      obtain ⟨F, rfl⟩ : ∃ G, F = G + 1 := ⟨F - 1, by omega⟩
      have es : qs (nI r).toNatClampNeg ≤ 0 := by
        rw [nI_clamp (by omega), hs]
        decide
      exact br_c (fun _ => h) (fun _ => ⟨vp_in_nI (by omega) (by omega), br_t es h⟩)
    · intro post F hF h
      obtain ⟨F, rfl⟩ : ∃ G, F = G + 1 := ⟨F - 1, by omega⟩
      obtain ⟨n', q, e1, e2, e3⟩ := hI.2.2.1 r hr
      have hn := qq_le e3
      have en : n' = 0 := (nI_eq (by omega) (by omega)).mp (e1.symm.trans hs)
      exact br_f (nI_nlt (by omega) (by omega)) (qa_0 hB hI.1 hK hr e3 (fun p hp => absurd hp (by omega)) (br_f (by decide) h))
  | succ n ih =>
    intro i st wr wm he qu qs hI hs hi
    obtain ⟨n', q, e1, e2, e3⟩ := hI.2.2.1 r hr
    have hn := qq_le e3
    have en : n' = n + 1 := (nI_eq (by omega) (by omega)).mp (e1.symm.trans hs)
    subst en
    have h0 := e3.1 0 (by omega)
    have hw := aw_q hI.1 h0.1 (by omega) h0.2
    have hTX : ¬ nI T ≤ nI i := nI_ge (by omega) (by omega)
    have hTY : ¬ nI T < nI i := nI_nlt (by omega) (by omega)
    have hr16 : vp_in (nI r) 16 := vp_in_nI (by omega) (by omega)
    have es : ¬ qs (nI r).toNatClampNeg ≤ 0 := by
      rw [nI_clamp (by omega), hs]
      exact nI_nle (by omega) (by omega)
    have hq128 : vp_in (nI r * 8) 128 := by rw [ix_8z]; exact vp_in_nI (by omega) (by omega)
    have eq0 : qu (nI r * 8).toNatClampNeg = nI (q 0) := by
      rw [ix_8z, nI_clamp (by omega)]
      exact e2 0 (by omega)
    have hq8 : vp_in (nI (q 0)) 8 := vp_in_nI (by omega) (by omega)
    have em : wm (nI (q 0)).toNatClampNeg = wm (q 0) := by rw [nI_clamp (by omega)]
    have hpos : (0 : Int32) ≤ nI (q 0) := nI_pos' (by omega)
    by_cases hc : cf_C T (q 0) r (wm (q 0)) he
    · refine ⟨st, wr, wm, he, qu, qs, hI, fun x _ => Or.inl rfl, ?_, ?_⟩
      · intro post F hF h
        obtain ⟨F, rfl⟩ : ∃ G, F = G + 1 := ⟨F - 1, by omega⟩
        exact br_f hTX ⟨hr16, br_f es ⟨hq128, nm_r eq0 ⟨hq8, nm_r em (wk_X (oh_X hB hI.2.1 (by omega) hw.2 h0.1 (fun _ => br_f one0 h) (fun z => absurd hc z)))⟩⟩⟩
      · intro post F hF h
        obtain ⟨F, rfl⟩ : ∃ G, F = G + 1 := ⟨F - 1, by omega⟩
        exact br_f hTY (qa_1 hB hI.1 hK hr e3 (p := 0) (by omega) (br_t hpos ⟨hq8, nm_r em (oc_Y hB (by omega) hw.2 h0.1 (fun _ => br_f one0 h) (fun z => absurd hc z))⟩))
    · have hI2 := hv_grant (qs := qs) hI hB hr e2 e3
      obtain ⟨st1, wr1, wm1, he1, qu1, qs1, hI1, hS1, hX, hY⟩ := ih (i + 1) _ _ _ _ _ _ hI2 pk_us (by omega)
      have eh : upd he (nI (q 0) * 16 + nI r).toNatClampNeg (wm (q 0)) = upd he (q 0 * 16 + r) (wm (q 0)) := by rw [ci_16 (by omega) (by omega)]
      refine ⟨st1, wr1, wm1, he1, qu1, qs1, hI1, ?_, ?_, ?_⟩
      · refine ho_t ?_ hS1
        intro x hx
        by_cases e : x = q 0
        · exact Or.inr ⟨by rw [e]; exact hw.1, ux_e e⟩
        · exact Or.inl (pk_un e)
      · intro post F hF h
        obtain ⟨F, rfl⟩ : ∃ G, F = G + 1 := ⟨F - 1, by omega⟩
        refine br_f hTX ⟨hr16, br_f es ⟨hq128, nm_r eq0 ⟨hq8, nm_r em (wk_X (oh_X hB hI.2.1 (by omega) hw.2 h0.1 (fun z => absurd z hc) (fun _ => br_t rfl (lq_X hB h0.1 hr h0.2 e1 e2 e3 (p := 0) (by omega) rfl ?_))))⟩⟩⟩
        exact ⟨vi_16 (by omega) (by omega), nm_r eh ⟨hq8, nm_r (s8 (by omega)) (nm_r (nI_1 i) (hX post F (by omega) h))⟩⟩
      · intro post F hF h
        obtain ⟨F, rfl⟩ : ∃ G, F = G + 1 := ⟨F - 1, by omega⟩
        refine br_f hTY (qa_1 hB hI.1 hK hr e3 (p := 0) (by omega) (br_t hpos ⟨hq8, nm_r em (oc_Y hB (by omega) hw.2 h0.1 (fun z => absurd z hc) (fun _ => br_t rfl ?_))⟩))
        exact ⟨vi_16 (by omega) (by omega), nm_r eh ⟨hq8, nm_r (s8 (by omega)) ⟨hq8, nm_r (s8 (by omega)) ⟨hq8, nm_r (s8 (by omega)) (nm_r (nI_1 i) (hY post F (by omega) h))⟩⟩⟩⟩
theorem ho_T (hB : rt_B R T) (hK : tb_B T N tk tc) {r : Nat} (hr : r < R) (hI : hv_I R T N tk st wr wm he qu qs) :
    ∃ st1 wr1 wm1 he1 qu1 qs1 : Nat → Int32, hv_I R T N tk st1 wr1 wm1 he1 qu1 qs1 ∧ ho_S T st st1 ∧
      (∀ (post : SX → Prop), post (po, nI R, nI T, nt, cc, cu, lt, lw, va, ok, oo, oa, ln, st1, ts, pc, ac, ab, rk, wr1, wm1, ur, uv, ul, he1, qu1, qs1, bl) → wpX_handOff post (po, nI R, nI T, nt, cc, cu, lt, lw, va, ok, oo, oa, ln, st, ts, pc, ac, ab, rk, wr, wm, ur, uv, ul, he, qu, qs, bl) (nI r)) ∧
      (∀ (post : SY → Prop), post (po, nI R, nI T, nx, nt, cc, cu, lt, ly, va, ok, oo, oa, ln, st1, ts, pc, ac, ab, rk, wr1, wm1, tc, ur, uv, ul, he1, ib) → wpY_handoff post (po, nI R, nI T, nx, nt, cc, cu, lt, ly, va, ok, oo, oa, ln, st, ts, pc, ac, ab, rk, wr, wm, tc, ur, uv, ul, he, ib) (nI r)) := by
  obtain ⟨n, q, e1, e2, e3⟩ := hI.2.2.1 r hr
  have hn := qq_le e3
  obtain ⟨st1, wr1, wm1, he1, qu1, qs1, hI1, hS1, hX, hY⟩ := ho_l hB hK hr n 0 st wr wm he qu qs hI e1 (by omega)
  exact ⟨st1, wr1, wm1, he1, qu1, qs1, hI1, hS1, fun post h => ⟨n + 1, hX post (n + 1) (by omega) h⟩, fun post h => ⟨n + 1, hY post (n + 1) (by omega) h⟩⟩
theorem ha_l (hB : rt_B R T) (hK : tb_B T N tk tc) : ∀ d i (st wr wm he qu qs : Nat → Int32), i + d = R → hv_I R T N tk st wr wm he qu qs →
    ∃ st1 wr1 wm1 he1 qu1 qs1 : Nat → Int32, hv_I R T N tk st1 wr1 wm1 he1 qu1 qs1 ∧ ho_S T st st1 ∧
      (∀ (post : SX → Prop) (F : Nat), d < F → post (po, nI R, nI T, nt, cc, cu, lt, lw, va, ok, oo, oa, ln, st1, ts, pc, ac, ab, rk, wr1, wm1, ur, uv, ul, he1, qu1, qs1, bl) → wX_abort_58 post F (nI i) po (nI R) (nI T) nt cc cu lt lw va ok oo oa ln st ts pc ac ab rk wr wm ur uv ul he qu qs bl) ∧
      (∀ (post : SX → Prop) (F : Nat), d < F → post (po, nI R, nI T, nt, cc, cu, lt, lw, va, ok, oo, oa, ln, st1, ts, pc, ac, ab, rk, wr1, wm1, ur, uv, ul, he1, qu1, qs1, bl) → wX_commit_41 post F (nI i) po (nI R) (nI T) nt cc cu lt lw va ok oo oa ln st ts pc ac ab rk wr wm ur uv ul he qu qs bl) ∧
      (∀ (post : SY → Prop) (F : Nat), d < F → post (po, nI R, nI T, nx, nt, cc, cu, lt, ly, va, ok, oo, oa, ln, st1, ts, pc, ac, ab, rk, wr1, wm1, tc, ur, uv, ul, he1, ib) → wY_abort_137 post F (nI i) po (nI R) (nI T) nx nt cc cu lt ly va ok oo oa ln st ts pc ac ab rk wr wm tc ur uv ul he ib) ∧
      (∀ (post : SY → Prop) (F : Nat), d < F → post (po, nI R, nI T, nx, nt, cc, cu, lt, ly, va, ok, oo, oa, ln, st1, ts, pc, ac, ab, rk, wr1, wm1, tc, ur, uv, ul, he1, ib) → wY_dropLocksAndHandoff_28 post F (nI i) po (nI R) (nI T) nx nt cc cu lt ly va ok oo oa ln st ts pc ac ab rk wr wm tc ur uv ul he ib) := by
  have hb := hB
  obtain ⟨hB1, hB2, hB3, hB4⟩ := hb
  intro d
  induction d with
  | zero =>
    intro i st wr wm he qu qs hi hI
    have hT : nI R ≤ nI i := nI_le (by omega) (by omega)
    refine ⟨st, wr, wm, he, qu, qs, hI, fun x _ => Or.inl rfl, ?_, ?_, ?_, ?_⟩
    all_goals
      intro post F hF h
      obtain ⟨F, rfl⟩ : ∃ G, F = G + 1 := ⟨F - 1, by omega⟩
      exact br_t hT h
  | succ d ih =>
    intro i st wr wm he qu qs hi hI
    have hT : ¬ nI R ≤ nI i := nI_ge (by omega) (by omega)
    obtain ⟨st2, wr2, wm2, he2, qu2, qs2, hI2, hS2, hX2, hY2⟩ := ho_T (po := po) (nt := nt) (cc := cc) (cu := cu) (lt := lt) (lw := lw) (ly := ly) (nx := nx) (va := va) (ok := ok) (oo := oo) (oa := oa) (ln := ln) (ts := ts) (pc := pc) (ac := ac) (ab := ab) (rk := rk) (ur := ur) (uv := uv) (ul := ul) (bl := bl) (ib := ib) hB hK (show i < R by omega) hI
    obtain ⟨st1, wr1, wm1, he1, qu1, qs1, hI1, hS1, h1, h2, h3, h4⟩ := ih (i + 1) st2 wr2 wm2 he2 qu2 qs2 (by omega) hI2
    refine ⟨st1, wr1, wm1, he1, qu1, qs1, hI1, ho_t hS2 hS1, ?_, ?_, ?_, ?_⟩
    · intro post F hF h
      obtain ⟨F, rfl⟩ : ∃ G, F = G + 1 := ⟨F - 1, by omega⟩
      exact br_f hT (hX2 _ (nm_r (nI_1 i) (h1 post F (by omega) h)))
    · intro post F hF h
      obtain ⟨F, rfl⟩ : ∃ G, F = G + 1 := ⟨F - 1, by omega⟩
      exact br_f hT (hX2 _ (nm_r (nI_1 i) (h2 post F (by omega) h)))
    · intro post F hF h
      obtain ⟨F, rfl⟩ : ∃ G, F = G + 1 := ⟨F - 1, by omega⟩
      exact br_f hT (hY2 _ (nm_r (nI_1 i) (h3 post F (by omega) h)))
    · intro post F hF h
      obtain ⟨F, rfl⟩ : ∃ G, F = G + 1 := ⟨F - 1, by omega⟩
      exact br_f hT (hY2 _ (nm_r (nI_1 i) (h4 post F (by omega) h)))
end
