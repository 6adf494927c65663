/-! the methods that only read -/
section
variable {po nt cc cu lt lw ly : Int32} {R T N : Nat} {tk : Nat → Nat} {nx : Int64} {va ok oo oa ln st ts pc ac ab rk wr wm ur uv ul he qu qs bl ib : Nat → Int32} {tc : Nat → Int64}
theorem ci_16 {u r : Nat} (hu : u < 8) (hr : r < 16) : (nI u * 16 + nI r).toNatClampNeg = u * 16 + r := by
  rw [ix_16]; exact nI_clamp (by omega)
theorem vi_16 {u r : Nat} (hu : u < 8) (hr : r < 16) : vp_in (nI u * 16 + nI r) 128 := by
  rw [ix_16]; exact vp_in_nI (by omega) (by omega)
theorem ci_8 {u r : Nat} (hu : u < 16) (hr : r < 8) : (nI u * 8 + nI r).toNatClampNeg = u * 8 + r := by
  rw [ix_8]; exact nI_clamp (by omega)
theorem vi_8 {u r : Nat} (hu : u < 16) (hr : r < 8) : vp_in (nI u * 8 + nI r) 128 := by
  rw [ix_8]; exact vp_in_nI (by omega) (by omega)
theorem vi_8s {u r : Nat} (hu : u < 8) (hr : r < 8) : vp_in (nI u * 8 + nI r) 64 := by
  rw [ix_8]; exact vp_in_nI (by omega) (by omega)
theorem one0 : ¬ (1 : Int32) = 0 := by decide
theorem wk_X {post : Int32 → Prop} {m : Int32} (h : post (cf_w m)) : wpX_weakestConflict post m := by
  by_cases e : m = 1
  · have e1 : cf_w m = 2 := if_pos e
    rw [e1] at h
    exact br_t e h
  · have e1 : cf_w m = 1 := if_neg e
    rw [e1] at h
    exact br_f e h
theorem oh_l (hB : rt_B R T) (hh : hb_B R T he) {t r : Nat} {m : Int32} (hr : r < 16) (hm : m = 1 ∨ m = 2) (ht : t < T) {post : Int32 → Prop} (h1 : cf_C T t r m he → post 1) (h0 : ¬ cf_C T t r m he → post 0) :
    ∀ d i F, i + d = T → d < F → (∀ u, u < i → u ≠ t → ¬ cf_b m (he (u * 16 + r))) → wX_othersHold_3 post (nI t) (cf_w m) (nI r) po (nI R) (nI T) nt cc cu lt lw va ok oo oa ln st ts pc ac ab rk wr wm ur uv ul he qu qs bl F (nI i) := by
  obtain ⟨hB1, hB2, hB3, hB4⟩ := hB
  intro d
  induction d with
  | zero =>
    intro i F hi hF hu
    obtain ⟨F, rfl⟩ : ∃ G, F = G + 1 := ⟨F - 1, by omega⟩
    refine br_t (nI_le (by omega) (by omega)) (h0 ?_)
    intro ⟨u, hu1, hu2, hu3⟩
    exact hu u (by omega) hu2 hu3
  | succ d ih =>
    intro i F hi hF hu
    obtain ⟨F, rfl⟩ : ∃ G, F = G + 1 := ⟨F - 1, by omega⟩
    have hT : ¬ nI T ≤ nI i := nI_ge (by omega) (by omega)
    by_cases e : i = t
    · refine br_f hT (br_t (by rw [e]) (nm_r (nI_1 i) (ih (i + 1) F (by omega) (by omega) ?_)))
      intro u hu1 hu2
      exact hu u (by omega) hu2
    · have hne : ¬ nI i = nI t := ux_ne e (by omega) (by omega)
      have hin := vi_16 (u := i) (r := r) (by omega) hr
      have hci := ci_16 (u := i) (r := r) (by omega) hr
      have hc := cf_bar hm (hb_3 hh (t := i) (by omega) hr)
      rw [← hci] at hc
      by_cases e2 : cf_b m (he (nI i * 16 + nI r).toNatClampNeg)
      · refine br_f hT (br_f hne ⟨hin, br_f (fun z => hc.mp z e2) (h1 ⟨i, by omega, e, ?_⟩)⟩)
        rw [hci] at e2
        exact e2
      · refine br_f hT (br_f hne ⟨hin, br_t (hc.mpr e2) (nm_r (nI_1 i) (ih (i + 1) F (by omega) (by omega) ?_))⟩)
        rw [hci] at e2
        intro u hu1 hu2
        by_cases e4 : u = i
        · rw [e4]; exact e2
        · exact hu u (by omega) hu2
theorem oh_X (hB : rt_B R T) (hh : hb_B R T he) {t r : Nat} {m : Int32} (hr : r < 16) (hm : m = 1 ∨ m = 2) (ht : t < T) {post : Int32 → Prop} (h1 : cf_C T t r m he → post 1) (h0 : ¬ cf_C T t r m he → post 0) :
    wpX_othersHold post (po, nI R, nI T, nt, cc, cu, lt, lw, va, ok, oo, oa, ln, st, ts, pc, ac, ab, rk, wr, wm, ur, uv, ul, he, qu, qs, bl) (nI t) (cf_w m) (nI r) :=
  ⟨T + 1, oh_l hB hh hr hm ht h1 h0 T 0 (T + 1) (by omega) (by omega) (fun u hu => absurd hu (by omega))⟩
theorem oc_l (hB : rt_B R T) {t r : Nat} {m : Int32} (hr : r < 16) (hm : m = 1 ∨ m = 2) (ht : t < T) {post : Int32 → Prop} (h1 : cf_C T t r m he → post 1) (h0 : ¬ cf_C T t r m he → post 0) :
    ∀ d i F, i + d = T → d < F → (∀ u, u < i → u ≠ t → ¬ cf_b m (he (u * 16 + r))) → wY_othersConflict_3 post (nI t) (nI r) m po (nI R) (nI T) nx nt cc cu lt ly va ok oo oa ln st ts pc ac ab rk wr wm tc ur uv ul he ib F (nI i) := by
  obtain ⟨hB1, hB2, hB3, hB4⟩ := hB
  intro d
  induction d with
  | zero =>
    intro i F hi hF hu
    obtain ⟨F, rfl⟩ : ∃ G, F = G + 1 := ⟨F - 1, by omega⟩
    refine br_t (nI_le (by omega) (by omega)) (h0 ?_)
    intro ⟨u, hu1, hu2, hu3⟩
    exact hu u (by omega) hu2 hu3
  | succ d ih =>
    intro i F hi hF hu
    obtain ⟨F, rfl⟩ : ∃ G, F = G + 1 := ⟨F - 1, by omega⟩
    have hT : ¬ nI T ≤ nI i := nI_ge (by omega) (by omega)
    by_cases e : i = t
    · refine br_f hT (br_t (by rw [e]) (nm_r (nI_1 i) (ih (i + 1) F (by omega) (by omega) ?_)))
      intro u hu1 hu2
      exact hu u (by omega) hu2
    · have hne : ¬ nI i = nI t := ux_ne e (by omega) (by omega)
      have hin := vi_16 (u := i) (r := r) (by omega) hr
      have hci := ci_16 (u := i) (r := r) (by omega) hr
      have hgo : ¬ cf_b m (he (i * 16 + r)) → wY_othersConflict_3 post (nI t) (nI r) m po (nI R) (nI T) nx nt cc cu lt ly va ok oo oa ln st ts pc ac ab rk wr wm tc ur uv ul he ib F (nI (i + 1)) := by
        intro e2
        refine ih (i + 1) F (by omega) (by omega) ?_
        intro u hu1 hu2
        by_cases e4 : u = i
        · rw [e4]; exact e2
        · exact hu u (by omega) hu2
      have hst : cf_b m (he (i * 16 + r)) → post 1 := fun e2 => h1 ⟨i, by omega, e, e2⟩
      refine br_f hT (br_f hne ⟨hin, nm_r (congrArg he hci) ?_⟩)
      cases hm with
      | inl em =>
        subst em
        refine br_t rfl (br_c (fun z => hst (cf_1.mpr z)) (fun z => nm_r (nI_1 i) (hgo (fun y => z (cf_1.mp y)))))
      | inr em =>
        subst em
        refine br_f (by decide) (br_c (fun z => nm_r (nI_1 i) (hgo (fun y => cf_2.mp y z))) (fun z => hst (cf_2.mpr z)))
theorem oc_Y (hB : rt_B R T) {t r : Nat} {m : Int32} (hr : r < 16) (hm : m = 1 ∨ m = 2) (ht : t < T) {post : Int32 → Prop} (h1 : cf_C T t r m he → post 1) (h0 : ¬ cf_C T t r m he → post 0) :
    wpY_othersConflict post (po, nI R, nI T, nx, nt, cc, cu, lt, ly, va, ok, oo, oa, ln, st, ts, pc, ac, ab, rk, wr, wm, tc, ur, uv, ul, he, ib) (nI t) (nI r) m :=
  ⟨T + 1, oc_l hB hr hm ht h1 h0 T 0 (T + 1) (by omega) (by omega) (fun u hu => absurd hu (by omega))⟩
theorem iq_Y (hB : rt_B R T) (hA : aw_A R T st wr wm) {u r : Nat} (hu : u < T) (hr : r < R) {post : Int32 → Prop} (h1 : wr u = nI r → post 1) (h0 : wr u ≠ nI r → post 0) : wpY_inQueue post (po, nI R, nI T, nx, nt, cc, cu, lt, ly, va, ok, oo, oa, ln, st, ts, pc, ac, ab, rk, wr, wm, tc, ur, uv, ul, he, ib) (nI u) (nI r) := by
  obtain ⟨hB1, hB2, hB3, hB4⟩ := hB
  have hv : vp_in (nI u) 8 := vp_in_nI (by omega) (by omega)
  have hc : (nI u).toNatClampNeg = u := nI_clamp (by omega)
  refine ⟨hv, br_c (fun e => ⟨hv, br_c (fun e2 => h1 ?_) (fun e2 => h0 ?_)⟩) (fun e => h0 ?_)⟩
  · rw [hc] at e2; exact e2
  · rw [hc] at e2; exact e2
  · rw [hc] at e
    intro z
    exact e (aw_q hA hu (by omega) z).1
theorem wc_1 {P : Nat → Bool} {i : Nat} (h : P i = true) : wc_n P (i + 1) = wc_n P i + 1 := by
  show wc_n P i + (if P i = true then 1 else 0) = wc_n P i + 1
  rw [if_pos h]
theorem wc_0 {P : Nat → Bool} {i : Nat} (h : P i = false) : wc_n P (i + 1) = wc_n P i := by
  show wc_n P i + (if P i = true then 1 else 0) = wc_n P i
  rw [h]
  simp
theorem ql_l (hB : rt_B R T) (hA : aw_A R T st wr wm) {r : Nat} (hr : r < R) {post : Int32 → Prop} (h : post (nI (wc_n (fun u => decide (wr u = nI r)) T))) :
    ∀ d i F, i + d = T → d < F → wY_queueLength_18 post (nI r) po (nI R) (nI T) nx nt cc cu lt ly va ok oo oa ln st ts pc ac ab rk wr wm tc ur uv ul he ib F (nI (wc_n (fun u => decide (wr u = nI r)) i)) (nI i) := by
  have hb := hB
  obtain ⟨hB1, hB2, hB3, hB4⟩ := hb
  intro d
  induction d with
  | zero =>
    intro i F hi hF
    obtain ⟨F, rfl⟩ : ∃ G, F = G + 1 := ⟨F - 1, by omega⟩
    have e : i = T := by omega
    subst e
    exact br_t (nI_le (by omega) (by omega)) h
  | succ d ih =>
    intro i F hi hF
    obtain ⟨F, rfl⟩ : ∃ G, F = G + 1 := ⟨F - 1, by omega⟩
    have hT : ¬ nI T ≤ nI i := nI_ge (by omega) (by omega)
    have hg := ih (i + 1) F (by omega) (by omega)
    refine br_f hT (iq_Y hB hA (by omega) hr (fun e => br_f one0 (nm_r (nI_1 _) (nm_r (nI_1 i) ?_))) (fun e => br_t rfl (nm_r (nI_1 i) ?_)))
    · rw [wc_1 (decide_eq_true e)] at hg
      exact hg
    · rw [wc_0 (decide_eq_false e)] at hg
      exact hg
theorem ql_Y (hB : rt_B R T) (hA : aw_A R T st wr wm) {r n : Nat} {q : Nat → Nat} (hr : r < R) (hQ : qq_R T r n wr tk q) {post : Int32 → Prop} (h : post (nI n)) : wpY_queueLength post (po, nI R, nI T, nx, nt, cc, cu, lt, ly, va, ok, oo, oa, ln, st, ts, pc, ac, ab, rk, wr, wm, tc, ur, uv, ul, he, ib) (nI r) := by
  have hb := hB
  obtain ⟨hB1, hB2, hB3, hB4⟩ := hb
  rw [← qq_len hQ] at h
  exact br_f (nI_pos (by omega)) (br_t (nI_lt hr (by omega)) ⟨T + 1, ql_l hB hA hr h T 0 (T + 1) (by omega) (by omega)⟩)
/-- the tickets -/
def tb_B (T N : Nat) (tk : Nat → Nat) (tc : Nat → Int64) : Prop := N < 2 ^ 31 ∧ ∀ u, u < T → tc u = lN (tk u) ∧ tk u ≤ N
/-- u's rank in the queue of r -/
def rn_K (T r : Nat) (wr : Nat → Int32) (tk : Nat → Nat) (u : Nat) : Nat → Nat := wc_n (fun v => decide (wr v = nI r) && decide (tk v < tk u))
theorem qi_l (hB : rt_B R T) (hA : aw_A R T st wr wm) (hK : tb_B T N tk tc) {r u : Nat} (hr : r < R) (hu : u < T) {pos : Int32} {post J : Int32 → Prop} (h1 : nI (rn_K T r wr tk u T) = pos → post (nI u)) (h0 : nI (rn_K T r wr tk u T) ≠ pos → J (nI (u + 1))) :
    ∀ d i F, i + d = T → d < F → wY_queueAt_39 post J (nI r) pos (nI u) po (nI R) (nI T) nx nt cc cu lt ly va ok oo oa ln st ts pc ac ab rk wr wm tc ur uv ul he ib F (nI (rn_K T r wr tk u i)) (nI i) := by
  have hb := hB
  obtain ⟨hB1, hB2, hB3, hB4⟩ := hb
  intro d
  induction d with
  | zero =>
    intro i F hi hF
    obtain ⟨F, rfl⟩ : ∃ G, F = G + 1 := ⟨F - 1, by omega⟩
    have e : i = T := by omega
    subst e
    exact br_t (nI_le (by omega) (by omega)) (br_c h1 (fun z => nm_r (nI_1 u) (h0 z)))
  | succ d ih =>
    intro i F hi hF
    obtain ⟨F, rfl⟩ : ∃ G, F = G + 1 := ⟨F - 1, by omega⟩
    have hT : ¬ nI T ≤ nI i := nI_ge (by omega) (by omega)
    have hg := ih (i + 1) F (by omega) (by omega)
    have hvi : vp_in (nI i) 8 := vp_in_nI (by omega) (by omega)
    have hvu : vp_in (nI u) 8 := vp_in_nI (by omega) (by omega)
    have hci : tc (nI i).toNatClampNeg = lN (tk i) := by rw [nI_clamp (by omega)]; exact (hK.2 i (by omega)).1
    have hcu : tc (nI u).toNatClampNeg = lN (tk u) := by rw [nI_clamp (by omega)]; exact (hK.2 u hu).1
    have hbi := (hK.2 i (by omega)).2
    have hbu := (hK.2 u hu).2
    have hN := hK.1
    refine br_f hT (iq_Y hB hA (by omega) hr (fun e => br_f one0 ⟨hvi, hvu, br_c (fun z => nm_r (nI_1 i) ?_) (fun z => nm_r (nI_1 _) (nm_r (nI_1 i) ?_))⟩) (fun e => br_t rfl (nm_r (nI_1 i) ?_)))
    · rw [hci, hcu, pk_lLE (by omega) (by omega)] at z
      have e0 : rn_K T r wr tk u (i + 1) = rn_K T r wr tk u i := wc_0 (by
        show (decide (wr i = nI r) && decide (tk i < tk u)) = false
        rw [decide_eq_false (show ¬ tk i < tk u by omega), Bool.and_false])
      rw [e0] at hg
      exact hg
    · rw [hci, hcu, pk_lLE (by omega) (by omega)] at z
      have e0 : rn_K T r wr tk u (i + 1) = rn_K T r wr tk u i + 1 := wc_1 (by
        show (decide (wr i = nI r) && decide (tk i < tk u)) = true
        rw [decide_eq_true e, decide_eq_true (show tk i < tk u by omega)]
        rfl)
      rw [e0] at hg
      exact hg
    · have e0 : rn_K T r wr tk u (i + 1) = rn_K T r wr tk u i := wc_0 (by
        show (decide (wr i = nI r) && decide (tk i < tk u)) = false
        rw [decide_eq_false e, Bool.false_and])
      rw [e0] at hg
      exact hg
theorem qo_l (hB : rt_B R T) (hA : aw_A R T st wr wm) (hK : tb_B T N tk tc) {r : Nat} (hr : r < R) {pos : Int32} {post : Int32 → Prop} (h1 : ∀ u, u < T → wr u = nI r → nI (rn_K T r wr tk u T) = pos → post (nI u)) (h0 : (∀ u, u < T → wr u = nI r → nI (rn_K T r wr tk u T) ≠ pos) → post (-1)) :
    ∀ d i F, i + d = T → d < F → (∀ u, u < i → wr u = nI r → nI (rn_K T r wr tk u T) ≠ pos) → wY_queueAt_16 post (nI r) pos po (nI R) (nI T) nx nt cc cu lt ly va ok oo oa ln st ts pc ac ab rk wr wm tc ur uv ul he ib F (nI i) := by
  have hb := hB
  obtain ⟨hB1, hB2, hB3, hB4⟩ := hb
  intro d
  induction d with
  | zero =>
    intro i F hi hF hu
    obtain ⟨F, rfl⟩ : ∃ G, F = G + 1 := ⟨F - 1, by omega⟩
    have e : i = T := by omega
    subst e
    exact br_t (nI_le (by omega) (by omega)) (h0 hu)
  | succ d ih =>
    intro i F hi hF hu
    obtain ⟨F, rfl⟩ : ∃ G, F = G + 1 := ⟨F - 1, by omega⟩
    have hT : ¬ nI T ≤ nI i := nI_ge (by omega) (by omega)
    refine br_f hT (iq_Y hB hA (by omega) hr (fun e => br_f one0 ⟨T + 1, qi_l hB hA hK hr (by omega) (fun z => h1 i (by omega) e z) (fun z => ih (i + 1) F (by omega) (by omega) ?_) T 0 (T + 1) (by omega) (by omega)⟩) (fun e => br_t rfl (nm_r (nI_1 i) (ih (i + 1) F (by omega) (by omega) ?_))))
    · intro u hu1 hu2
      by_cases e4 : u = i
      · rw [e4]; exact z
      · exact hu u (by omega) hu2
    · intro u hu1 hu2
      by_cases e4 : u = i
      · rw [e4] at hu2; exact absurd hu2 e
      · exact hu u (by omega) hu2
theorem qa_1 (hB : rt_B R T) (hA : aw_A R T st wr wm) (hK : tb_B T N tk tc) {r n p : Nat} {q : Nat → Nat} (hr : r < R) (hQ : qq_R T r n wr tk q) (hp : p < n) {post : Int32 → Prop} (h : post (nI (q p))) : wpY_queueAt post (po, nI R, nI T, nx, nt, cc, cu, lt, ly, va, ok, oo, oa, ln, st, ts, pc, ac, ab, rk, wr, wm, tc, ur, uv, ul, he, ib) (nI r) (nI p) := by
  have hb := hB
  obtain ⟨hB1, hB2, hB3, hB4⟩ := hb
  have hn := qq_le hQ
  refine br_f (nI_pos (by omega)) (br_t (nI_lt hr (by omega)) ⟨T + 1, qo_l hB hA hK hr ?_ ?_ T 0 (T + 1) (by omega) (by omega) (fun u hu => absurd hu (by omega))⟩)
  · intro u hu hw hz
    obtain ⟨i, hi, e⟩ := hQ.2.1 u hu hw
    have hk : rn_K T r wr tk u T = i := by rw [← e]; exact qq_rank hQ hi
    rw [hk, nI_eq (by omega) (by omega)] at hz
    rw [← e, hz]
    exact h
  · intro hz
    have hk : rn_K T r wr tk (q p) T = p := qq_rank hQ hp
    exact absurd (congrArg nI hk) (hz (q p) (hQ.1 p hp).1 (hQ.1 p hp).2)
theorem qa_0 (hB : rt_B R T) (hA : aw_A R T st wr wm) (hK : tb_B T N tk tc) {r n : Nat} {q : Nat → Nat} (hr : r < R) (hQ : qq_R T r n wr tk q) {pos : Int32} (hp : ∀ p, p < n → nI p ≠ pos) {post : Int32 → Prop} (h : post (-1)) : wpY_queueAt post (po, nI R, nI T, nx, nt, cc, cu, lt, ly, va, ok, oo, oa, ln, st, ts, pc, ac, ab, rk, wr, wm, tc, ur, uv, ul, he, ib) (nI r) pos := by
  have hb := hB
  obtain ⟨hB1, hB2, hB3, hB4⟩ := hb
  refine br_f (nI_pos (by omega)) (br_t (nI_lt hr (by omega)) ⟨T + 1, qo_l hB hA hK hr ?_ (fun _ => h) T 0 (T + 1) (by omega) (by omega) (fun u hu => absurd hu (by omega))⟩)
  intro u hu hw hz
  obtain ⟨i, hi, e⟩ := hQ.2.1 u hu hw
  have hk : rn_K T r wr tk u T = i := by rw [← e]; exact qq_rank hQ hi
  rw [hk] at hz
  exact absurd hz (hp i hi)
theorem gr_Y (hB : rt_B R T) (hA : aw_A R T st wr wm) {t r n : Nat} {q : Nat → Nat} {m : Int32} (hr : r < R) (hm : m = 1 ∨ m = 2) (ht : t < T) (hQ : qq_R T r n wr tk q) (hw : wr t ≠ nI r) {post : Int32 → Prop} (h0 : bl_E T t r m he wr → post 0) (h1 : ¬ bl_E T t r m he wr → post 1) : wpY_grantable post (po, nI R, nI T, nx, nt, cc, cu, lt, ly, va, ok, oo, oa, ln, st, ts, pc, ac, ab, rk, wr, wm, tc, ur, uv, ul, he, ib) (nI t) m (nI r) := by
  have hb := hB
  obtain ⟨hB1, hB2, hB3, hB4⟩ := hb
  have hn := qq_le hQ
  have hi := bl_iff (m := m) (he := he) hQ hw
  refine oc_Y hB (by omega) hm ht (fun z => br_f one0 (h0 (hi.mpr (Or.inl z)))) (fun z => br_t rfl (ql_Y hB hA hr hQ ?_))
  refine br_c (fun e => h1 ?_) (fun e => h0 ?_)
  · rw [zz_eq0 (by omega)] at e
    intro y
    cases hi.mp y with
    | inl y => exact z y
    | inr y => exact y e
  · rw [zz_eq0 (by omega)] at e
    exact hi.mpr (Or.inr e)
end
