/-! the blockers found, the age compared, the wounds, in lockstep -/
section
variable {po nt cc cu lt lw ly : Int32} {R T N : Nat} {tk : Nat → Nat} {nx : Int64} {va ok oo oa ln st ts pc ac ab rk wr wm ur uv ul he qu qs bl ib : Nat → Int32} {tc : Nat → Int64}
/-- bl says of each u below T whether B -/
def sp_S (n : Nat) (B : Nat → Prop) (bl : Nat → Int32) : Prop := ∀ u, u < n → (B u → bl u = 1) ∧ (¬ B u → bl u = 0)
theorem sp_1 {B : Nat → Prop} {bl : Nat → Int32} {i : Nat} (h : sp_S i B bl) (hb : B i) : sp_S (i + 1) B (upd bl i 1) := by
  intro u hu
  by_cases e : u = i
  · rw [ux_e e, e]
    exact ⟨fun _ => rfl, fun z => absurd hb z⟩
  · rw [pk_un e]
    exact h u (by omega)
theorem sp_0 {B : Nat → Prop} {bl : Nat → Int32} {i : Nat} (h : sp_S i B bl) (hb : ¬ B i) : sp_S (i + 1) B (upd bl i 0) := by
  intro u hu
  by_cases e : u = i
  · rw [ux_e e, e]
    exact ⟨fun z => absurd z hb, fun _ => rfl⟩
  · rw [pk_un e]
    exact h u (by omega)
theorem sb_1 {f : Nat → Int32} {i : Nat} (h : i < 8) : upd f (nI i).toNatClampNeg (vp_nar .boolean 1) = upd f i 1 := by rw [nI_clamp (by omega), zz_vb1]
theorem sb_0 {f : Nat → Int32} {i : Nat} (h : i < 8) : upd f (nI i).toNatClampNeg (vp_nar .boolean 0) = upd f i 0 := by rw [nI_clamp (by omega), zz_vb0]
theorem fb_w1 {i : Nat} (hi : i < 8) {post : Int32 → SX → Prop} {J : Int32 → Int32 → (Nat → Int32) → (Nat → Int32) → (Nat → Int32) → (Nat → Int32) → (Nat → Int32) → (Nat → Int32) → (Nat → Int32) → (Nat → Int32) → (Nat → Int32) → (Nat → Int32) → (Nat → Int32) → (Nat → Int32) → (Nat → Int32) → (Nat → Int32) → (Nat → Int32) → (Nat → Int32) → (Nat → Int32) → (Nat → Int32) → (Nat → Int32) → (Nat → Int32) → Prop} {x1 x3 x4 any : Int32}
    (h : J 1 (nI (i + 1)) va ok oo oa ln st ts pc ac ab rk wr wm ur uv ul he qu qs (upd bl i 1)) : wX_findBlockers_90 post J x1 x3 x4 any (nI i) 1 (nI i) po (nI R) (nI T) nt cc cu lt lw va ok oo oa ln st ts pc ac ab rk wr wm ur uv ul he qu qs bl := by
  have h8 : vp_in (nI i) 8 := vp_in_nI (by omega) (by omega)
  have e : ¬ upd bl i 1 (nI i).toNatClampNeg = 0 := by
    rw [nI_clamp (by omega), pk_us]
    exact one0
  exact ⟨h8, nm_r (sb_1 hi) (br_c (fun _ => ⟨h8, br_f e (nm_r (nI_1 i) h)⟩) (fun _ => nm_r (nI_1 i) h))⟩
theorem fb_w0 {i : Nat} (hi : i < 8) {post : Int32 → SX → Prop} {J : Int32 → Int32 → (Nat → Int32) → (Nat → Int32) → (Nat → Int32) → (Nat → Int32) → (Nat → Int32) → (Nat → Int32) → (Nat → Int32) → (Nat → Int32) → (Nat → Int32) → (Nat → Int32) → (Nat → Int32) → (Nat → Int32) → (Nat → Int32) → (Nat → Int32) → (Nat → Int32) → (Nat → Int32) → (Nat → Int32) → (Nat → Int32) → (Nat → Int32) → (Nat → Int32) → Prop} {x1 x3 x4 any : Int32} (ha : any = 1 ∨ any = 0)
    (h : J any (nI (i + 1)) va ok oo oa ln st ts pc ac ab rk wr wm ur uv ul he qu qs (upd bl i 0)) : wX_findBlockers_90 post J x1 x3 x4 any (nI i) 0 (nI i) po (nI R) (nI T) nt cc cu lt lw va ok oo oa ln st ts pc ac ab rk wr wm ur uv ul he qu qs bl := by
  have h8 : vp_in (nI i) 8 := vp_in_nI (by omega) (by omega)
  have e : upd bl i 0 (nI i).toNatClampNeg = 0 := by rw [nI_clamp (by omega), pk_us]
  cases ha with
  | inl a =>
    subst a
    exact ⟨h8, nm_r (sb_0 hi) (br_f one0 (nm_r (nI_1 i) h))⟩
  | inr a =>
    subst a
    exact ⟨h8, nm_r (sb_0 hi) (br_t rfl ⟨h8, br_t e (nm_r (nI_1 i) h)⟩)⟩
theorem fb_l (hB : rt_B R T) (hh : hb_B R T he) {t r : Nat} {m : Int32} (hr : r < R) (hm : m = 1 ∨ m = 2) (ht : t < T) : ∀ d i (bl : Nat → Int32), i + d = T → sp_S i (bl_B t r m he wr) bl →
    ∃ bl1, sp_S T (bl_B t r m he wr) bl1 ∧ ∀ (post : Int32 → SX → Prop) (F : Nat) (any : Int32), d < F → ((any = 1 ∧ ∃ u, u < i ∧ bl_B t r m he wr u) ∨ (any = 0 ∧ ∀ u, u < i → ¬ bl_B t r m he wr u)) →
      (bl_E T t r m he wr → post 1 (po, nI R, nI T, nt, cc, cu, lt, lw, va, ok, oo, oa, ln, st, ts, pc, ac, ab, rk, wr, wm, ur, uv, ul, he, qu, qs, bl1)) → (¬ bl_E T t r m he wr → post 0 (po, nI R, nI T, nt, cc, cu, lt, lw, va, ok, oo, oa, ln, st, ts, pc, ac, ab, rk, wr, wm, ur, uv, ul, he, qu, qs, bl1)) → wX_findBlockers_12 post (nI t) (nI r) (cf_w m) po (nI R) (nI T) nt cc cu lt lw F any (nI i) va ok oo oa ln st ts pc ac ab rk wr wm ur uv ul he qu qs bl := by
  obtain ⟨hB1, hB2, hB3, hB4⟩ := hB
  intro d
  induction d with
  | zero =>
    intro i bl hi hs
    have e : i = T := by omega
    subst e
    refine ⟨bl, hs, ?_⟩
    intro post F any hF ha h1 h0
    obtain ⟨F, rfl⟩ : ∃ G, F = G + 1 := ⟨F - 1, by omega⟩
    refine br_t (nI_le (by omega) (by omega)) ?_
    cases ha with
    | inl a =>
      obtain ⟨a, u, b, c⟩ := a
      subst a
      exact ⟨rfl, h1 ⟨u, b, c⟩⟩
    | inr a =>
      obtain ⟨a, b⟩ := a
      subst a
      exact ⟨rfl, h0 (fun ⟨u, y, z⟩ => b u y z)⟩
  | succ d ih =>
    intro i bl hi hs
    have hT : ¬ nI T ≤ nI i := nI_ge (by omega) (by omega)
    have h8 : vp_in (nI i) 8 := vp_in_nI (by omega) (by omega)
    have hc8 : (nI i).toNatClampNeg = i := nI_clamp (by omega)
    have hin := vi_16 (u := i) (r := r) (by omega) (by omega)
    have hci := ci_16 (u := i) (r := r) (by omega) (by omega)
    have hc := cf_bar hm (hb_3 hh (t := i) (r := r) (by omega) (by omega))
    rw [← hci] at hc
    by_cases hbi : bl_B t r m he wr i
    · obtain ⟨bl1, hs1, hg⟩ := ih (i + 1) (upd bl i 1) (by omega) (sp_1 hs hbi)
      refine ⟨bl1, hs1, ?_⟩
      intro post F any hF ha h1 h0
      obtain ⟨F, rfl⟩ : ∃ G, F = G + 1 := ⟨F - 1, by omega⟩
      have hJ := hg post F 1 (by omega) (Or.inl ⟨rfl, i, by omega, hbi⟩) h1 h0
      have hne : ¬ nI i = nI t := ux_ne hbi.1 (by omega) (by omega)
      refine br_f hT ⟨hin, br_c (fun c => ⟨h8, br_c (fun w => br_f hne (br_t rfl (br_f one0 (fb_w1 (by omega) hJ)))) (fun w => ?_)⟩) (fun c => ⟨h8, br_c (fun w => br_f hne (br_f one0 (fb_w1 (by omega) hJ))) (fun w => br_f hne (br_f one0 (fb_w1 (by omega) hJ)))⟩)⟩
      rw [hc8] at w
      have c2 := hc.mp c
      rw [hci] at c2
      cases hbi.2 with
      | inl y => exact absurd y c2
      | inr y => exact absurd y w
    · obtain ⟨bl1, hs1, hg⟩ := ih (i + 1) (upd bl i 0) (by omega) (sp_0 hs hbi)
      refine ⟨bl1, hs1, ?_⟩
      intro post F any hF ha h1 h0
      obtain ⟨F, rfl⟩ : ∃ G, F = G + 1 := ⟨F - 1, by omega⟩
      have ha2 : any = 1 ∨ any = 0 := by
        cases ha with
        | inl a => exact Or.inl a.1
        | inr a => exact Or.inr a.1
      have ha3 : (any = 1 ∧ ∃ u, u < i + 1 ∧ bl_B t r m he wr u) ∨ (any = 0 ∧ ∀ u, u < i + 1 → ¬ bl_B t r m he wr u) := by
        cases ha with
        | inl a =>
          obtain ⟨a, u, b, c⟩ := a
          exact Or.inl ⟨a, u, by omega, c⟩
        | inr a =>
          refine Or.inr ⟨a.1, ?_⟩
          intro u hu
          by_cases e : u = i
          · rw [e]; exact hbi
          · exact a.2 u (by omega)
      have hJ := hg post F any (by omega) ha3 h1 h0
      by_cases et : i = t
      · have hee : nI i = nI t := by rw [et]
        exact br_f hT ⟨hin, br_c (fun c => ⟨h8, br_c (fun w => br_t hee (fb_w0 (by omega) ha2 hJ)) (fun w => br_t hee (fb_w0 (by omega) ha2 hJ))⟩) (fun c => ⟨h8, br_c (fun w => br_t hee (fb_w0 (by omega) ha2 hJ)) (fun w => br_t hee (fb_w0 (by omega) ha2 hJ))⟩)⟩
      · have hne : ¬ nI i = nI t := ux_ne et (by omega) (by omega)
        have hnc : ¬ cf_b m (he (nI i * 16 + nI r).toNatClampNeg) := by
          rw [hci]
          exact fun z => hbi ⟨et, Or.inl z⟩
        have hnw : ¬ wr (nI i).toNatClampNeg = nI r := by
          rw [hc8]
          exact fun z => hbi ⟨et, Or.inr z⟩
        exact br_f hT ⟨hin, br_t (hc.mpr hnc) ⟨h8, br_f hnw (br_f hne (br_t rfl (br_t rfl (fb_w0 (by omega) ha2 hJ))))⟩⟩
theorem fb_X (hB : rt_B R T) (hh : hb_B R T he) {t r : Nat} {m : Int32} (hr : r < R) (hm : m = 1 ∨ m = 2) (ht : t < T) :
    ∃ bl1, sp_S T (bl_B t r m he wr) bl1 ∧ ∀ (post : Int32 → SX → Prop), (bl_E T t r m he wr → post 1 (po, nI R, nI T, nt, cc, cu, lt, lw, va, ok, oo, oa, ln, st, ts, pc, ac, ab, rk, wr, wm, ur, uv, ul, he, qu, qs, bl1)) → (¬ bl_E T t r m he wr → post 0 (po, nI R, nI T, nt, cc, cu, lt, lw, va, ok, oo, oa, ln, st, ts, pc, ac, ab, rk, wr, wm, ur, uv, ul, he, qu, qs, bl1)) → wpX_findBlockers post (po, nI R, nI T, nt, cc, cu, lt, lw, va, ok, oo, oa, ln, st, ts, pc, ac, ab, rk, wr, wm, ur, uv, ul, he, qu, qs, bl) (nI t) m (nI r) := by
  obtain ⟨bl1, hs, hg⟩ := fb_l (po := po) (nt := nt) (cc := cc) (cu := cu) (lt := lt) (lw := lw) (va := va) (ok := ok) (oo := oo) (oa := oa) (ln := ln) (st := st) (ts := ts) (pc := pc) (ac := ac) (ab := ab) (rk := rk) (wr := wr) (wm := wm) (ur := ur) (uv := uv) (ul := ul) (qu := qu) (qs := qs) hB hh hr hm ht T 0 bl (by omega) (fun u hu => absurd hu (by omega))
  refine ⟨bl1, hs, ?_⟩
  intro post h1 h0
  unfold wpX_findBlockers
  exact wk_X ⟨T + 1, hg post (T + 1) 0 (by omega) (Or.inr ⟨rfl, fun u hu => absurd hu (by omega)⟩) h1 h0⟩
/-- one of B isn't younger than t -/
def od_E (T t : Nat) (B : Nat → Prop) (ts : Nat → Int32) : Prop := ∃ u, u < T ∧ B u ∧ ¬ ts t < ts u
theorem io_l (hB : rt_B R T) {t : Nat} (ht : t < T) {B : Nat → Prop} (hs : sp_S T B bl) {post : Int32 → Prop} (h0 : od_E T t B ts → post 0) (h1 : ¬ od_E T t B ts → post 1) :
    ∀ d i F, i + d = T → d < F → (∀ u, u < i → B u → ts t < ts u) → wX_isOlderThanBlockers_2 post (nI t) po (nI R) (nI T) nt cc cu lt lw va ok oo oa ln st ts pc ac ab rk wr wm ur uv ul he qu qs bl F (nI i) := by
  obtain ⟨hB1, hB2, hB3, hB4⟩ := hB
  intro d
  induction d with
  | zero =>
    intro i F hi hF hu
    obtain ⟨F, rfl⟩ : ∃ G, F = G + 1 := ⟨F - 1, by omega⟩
    refine br_t (nI_le (by omega) (by omega)) (h1 ?_)
    intro ⟨u, a, b, c⟩
    exact c (hu u (by omega) b)
  | succ d ih =>
    intro i F hi hF hu
    obtain ⟨F, rfl⟩ : ∃ G, F = G + 1 := ⟨F - 1, by omega⟩
    have hT : ¬ nI T ≤ nI i := nI_ge (by omega) (by omega)
    have h8 : vp_in (nI i) 8 := vp_in_nI (by omega) (by omega)
    have t8 : vp_in (nI t) 8 := vp_in_nI (by omega) (by omega)
    have hc8 : (nI i).toNatClampNeg = i := nI_clamp (by omega)
    have hct : (nI t).toNatClampNeg = t := nI_clamp (by omega)
    have hsi := hs i (by omega)
    by_cases hb : B i
    · have e : ¬ bl (nI i).toNatClampNeg = 0 := by
        rw [hc8, hsi.1 hb]
        exact one0
      refine br_f hT ⟨h8, br_f e ⟨h8, t8, br_c (fun z => nm_r (nI_1 i) (ih (i + 1) F (by omega) (by omega) ?_)) (fun z => h0 ⟨i, by omega, hb, ?_⟩)⟩⟩
      · intro u hu1 hu2
        by_cases e4 : u = i
        · rw [hc8, hct] at z
          rw [e4]
          exact z
        · exact hu u (by omega) hu2
      · rw [hc8, hct] at z
        exact z
    · have e : bl (nI i).toNatClampNeg = 0 := by
        rw [hc8]
        exact hsi.2 hb
      refine br_f hT ⟨h8, br_t e (nm_r (nI_1 i) (ih (i + 1) F (by omega) (by omega) ?_))⟩
      intro u hu1 hu2
      by_cases e4 : u = i
      · rw [e4] at hu2
        exact absurd hu2 hb
      · exact hu u (by omega) hu2
theorem io_X (hB : rt_B R T) {t : Nat} (ht : t < T) {B : Nat → Prop} (hs : sp_S T B bl) {post : Int32 → Prop} (h0 : od_E T t B ts → post 0) (h1 : ¬ od_E T t B ts → post 1) : wpX_isOlderThanBlockers post (po, nI R, nI T, nt, cc, cu, lt, lw, va, ok, oo, oa, ln, st, ts, pc, ac, ab, rk, wr, wm, ur, uv, ul, he, qu, qs, bl) (nI t) :=
  ⟨T + 1, io_l hB ht hs h0 h1 T 0 (T + 1) (by omega) (by omega) (fun u hu => absurd hu (by omega))⟩
theorem y_236 (hB : rt_B R T) (hA : aw_A R T st wr wm) {t r i : Nat} {m : Int32} (hr : r < R) (ht : t < T) (hi : i < T) {post : Int32 → SY → Prop} {J : Int32 → (Nat → Int32) → (Nat → Int32) → (Nat → Int32) → (Nat → Int32) → (Nat → Int32) → (Nat → Int32) → (Nat → Int32) → (Nat → Int32) → (Nat → Int32) → (Nat → Int32) → (Nat → Int32) → (Nat → Int32) → (Nat → Int32) → (Nat → Int64) → (Nat → Int32) → (Nat → Int32) → (Nat → Int32) → (Nat → Int32) → (Nat → Int32) → Prop} {z0 : Int32} (hz : (z0 = 1 ∧ cf_b m (he (i * 16 + r))) ∨ (z0 = 0 ∧ ¬ cf_b m (he (i * 16 + r))))
    (h1 : bl_B t r m he wr i → J (nI (i + 1)) va ok oo oa ln st ts pc ac ab rk wr wm tc ur uv ul he (upd ib i 1)) (h0 : ¬ bl_B t r m he wr i → J (nI (i + 1)) va ok oo oa ln st ts pc ac ab rk wr wm tc ur uv ul he (upd ib i 0)) : wY_turn_236 post J (nI t) (nI r) m (nI i) z0 po (nI R) (nI T) nx nt cc cu lt ly va ok oo oa ln st ts pc ac ab rk wr wm tc ur uv ul he ib := by
  have hb := hB
  obtain ⟨hB1, hB2, hB3, hB4⟩ := hb
  have h8 : vp_in (nI i) 8 := vp_in_nI (by omega) (by omega)
  by_cases et : i = t
  · have hee : nI i = nI t := by rw [et]
    exact br_t hee ⟨h8, nm_r (sb_0 (by omega)) (nm_r (nI_1 i) (h0 (fun z => z.1 et)))⟩
  · have hne : ¬ nI i = nI t := ux_ne et (by omega) (by omega)
    cases hz with
    | inl a =>
      obtain ⟨a, b⟩ := a
      subst a
      exact br_f hne (br_f one0 ⟨h8, nm_r (sb_1 (by omega)) (nm_r (nI_1 i) (h1 ⟨et, Or.inl b⟩))⟩)
    | inr a =>
      obtain ⟨a, b⟩ := a
      subst a
      refine br_f hne (br_t rfl (iq_Y hB hA hi hr (fun w => br_f one0 ⟨h8, nm_r (sb_1 (by omega)) (nm_r (nI_1 i) (h1 ⟨et, Or.inr w⟩))⟩) (fun w => br_t rfl ⟨h8, nm_r (sb_0 (by omega)) (nm_r (nI_1 i) (h0 ?_))⟩)))
      intro z
      cases z.2 with
      | inl y => exact b y
      | inr y => exact w y
theorem yb_l (hB : rt_B R T) (hA : aw_A R T st wr wm) {t r : Nat} {m : Int32} (hr : r < R) (hm : m = 1 ∨ m = 2) (ht : t < T) : ∀ d i (ib : Nat → Int32), i + d = T → sp_S i (bl_B t r m he wr) ib →
    ∃ ib1, sp_S T (bl_B t r m he wr) ib1 ∧ ∀ (post : Int32 → SY → Prop) (F : Nat), d < F →
      ((po = 0 → ∃ n, wY_turn_290 post (nI t) (nI r) m n 0 0 po (nI R) (nI T) nx nt cc cu lt ly va ok oo oa ln st ts pc ac ab rk wr wm tc ur uv ul he ib1) ∧ (¬ po = 0 → ∃ n, wY_turn_390 post (nI t) (nI r) m po (nI R) (nI T) nx nt cc cu lt ly va ok oo oa ln st ts pc ac ab rk wr wm tc ur uv ul he ib1 n 0)) → wY_turn_183 post (nI t) (nI r) m po (nI R) (nI T) nx nt cc cu lt ly F (nI i) va ok oo oa ln st ts pc ac ab rk wr wm tc ur uv ul he ib := by
  have hb := hB
  obtain ⟨hB1, hB2, hB3, hB4⟩ := hb
  intro d
  induction d with
  | zero =>
    intro i ib hi hs
    have e : i = T := by omega
    subst e
    refine ⟨ib, hs, ?_⟩
    intro post F hF h
    obtain ⟨F, rfl⟩ : ∃ G, F = G + 1 := ⟨F - 1, by omega⟩
    exact br_t (nI_le (by omega) (by omega)) h
  | succ d ih =>
    intro i ib hi hs
    have hT : ¬ nI T ≤ nI i := nI_ge (by omega) (by omega)
    have hin := vi_16 (u := i) (r := r) (by omega) (by omega)
    have hci := ci_16 (u := i) (r := r) (by omega) (by omega)
    have key : ∃ ib1, sp_S T (bl_B t r m he wr) ib1 ∧ ∀ (post : Int32 → SY → Prop) (F : Nat), d < F →
      ((po = 0 → ∃ n, wY_turn_290 post (nI t) (nI r) m n 0 0 po (nI R) (nI T) nx nt cc cu lt ly va ok oo oa ln st ts pc ac ab rk wr wm tc ur uv ul he ib1) ∧ (¬ po = 0 → ∃ n, wY_turn_390 post (nI t) (nI r) m po (nI R) (nI T) nx nt cc cu lt ly va ok oo oa ln st ts pc ac ab rk wr wm tc ur uv ul he ib1 n 0)) →
        (bl_B t r m he wr i → wY_turn_183 post (nI t) (nI r) m po (nI R) (nI T) nx nt cc cu lt ly F (nI (i + 1)) va ok oo oa ln st ts pc ac ab rk wr wm tc ur uv ul he (upd ib i 1)) ∧ (¬ bl_B t r m he wr i → wY_turn_183 post (nI t) (nI r) m po (nI R) (nI T) nx nt cc cu lt ly F (nI (i + 1)) va ok oo oa ln st ts pc ac ab rk wr wm tc ur uv ul he (upd ib i 0)) := by
      by_cases hbi : bl_B t r m he wr i
      · obtain ⟨ib1, hs1, hg⟩ := ih (i + 1) (upd ib i 1) (by omega) (sp_1 hs hbi)
        exact ⟨ib1, hs1, fun post F hF h => ⟨fun _ => hg post F hF h, fun z => absurd hbi z⟩⟩
      · obtain ⟨ib1, hs1, hg⟩ := ih (i + 1) (upd ib i 0) (by omega) (sp_0 hs hbi)
        exact ⟨ib1, hs1, fun post F hF h => ⟨fun z => absurd z hbi, fun _ => hg post F hF h⟩⟩
    obtain ⟨ib1, hs1, hg⟩ := key
    refine ⟨ib1, hs1, ?_⟩
    intro post F hF h
    obtain ⟨F, rfl⟩ : ∃ G, F = G + 1 := ⟨F - 1, by omega⟩
    obtain ⟨g1, g0⟩ := hg post F (by omega) h
    refine br_f hT ⟨hin, nm_r (congrArg he hci) ?_⟩
    cases hm with
    | inl em =>
      subst em
      exact br_t rfl (br_c (fun z => y_236 hB hA hr ht (by omega) (Or.inl ⟨rfl, cf_1.mpr z⟩) g1 g0) (fun z => y_236 hB hA hr ht (by omega) (Or.inr ⟨rfl, fun y => z (cf_1.mp y)⟩) g1 g0))
    | inr em =>
      subst em
      exact br_f (by decide) (br_c (fun z => y_236 hB hA hr ht (by omega) (Or.inr ⟨rfl, fun y => cf_2.mp y z⟩) g1 g0) (fun z => y_236 hB hA hr ht (by omega) (Or.inl ⟨rfl, cf_2.mpr z⟩) g1 g0))
theorem y_390 (hB : rt_B R T) {t : Nat} {r m : Int32} (ht : t < T) {B : Nat → Prop} (hs : sp_S T B ib) {post : Int32 → SY → Prop}
    (h0 : od_E T t B ts → wpY_abort (fun u => post 4 u) (po, nI R, nI T, nx, nt, cc, cu, lt, ly, va, ok, oo, oa, ln, st, ts, pc, ac, ab, rk, wr, wm, tc, ur, uv, ul, he, ib) (nI t)) (h1 : ¬ od_E T t B ts → wpY_joinQueue (fun u => post 3 u) (po, nI R, nI T, nx, nt, cc, cu, lt, ly, va, ok, oo, oa, ln, st, ts, pc, ac, ab, rk, wr, wm, tc, ur, uv, ul, he, ib) (nI t) r m) :
    ∀ d i F, i + d = T → d < F → (∀ u, u < i → B u → ts t < ts u) → wY_turn_390 post (nI t) r m po (nI R) (nI T) nx nt cc cu lt ly va ok oo oa ln st ts pc ac ab rk wr wm tc ur uv ul he ib F (nI i) := by
  obtain ⟨hB1, hB2, hB3, hB4⟩ := hB
  intro d
  induction d with
  | zero =>
    intro i F hi hF hu
    obtain ⟨F, rfl⟩ : ∃ G, F = G + 1 := ⟨F - 1, by omega⟩
    refine br_t (nI_le (by omega) (by omega)) (h1 ?_)
    intro ⟨u, a, b, c⟩
    exact c (hu u (by omega) b)
  | succ d ih =>
    intro i F hi hF hu
    obtain ⟨F, rfl⟩ : ∃ G, F = G + 1 := ⟨F - 1, by omega⟩
    have hT : ¬ nI T ≤ nI i := nI_ge (by omega) (by omega)
    have h8 : vp_in (nI i) 8 := vp_in_nI (by omega) (by omega)
    have t8 : vp_in (nI t) 8 := vp_in_nI (by omega) (by omega)
    have hc8 : (nI i).toNatClampNeg = i := nI_clamp (by omega)
    have hct : (nI t).toNatClampNeg = t := nI_clamp (by omega)
    have hsi := hs i (by omega)
    by_cases hb : B i
    · have e : ¬ ib (nI i).toNatClampNeg = 0 := by
        rw [hc8, hsi.1 hb]
        exact one0
      refine br_f hT ⟨h8, br_f e ⟨h8, t8, br_c (fun z => nm_r (nI_1 i) (ih (i + 1) F (by omega) (by omega) ?_)) (fun z => h0 ⟨i, by omega, hb, ?_⟩)⟩⟩
      · intro u hu1 hu2
        by_cases e4 : u = i
        · rw [hc8, hct] at z
          rw [e4]
          exact z
        · exact hu u (by omega) hu2
      · rw [hc8, hct] at z
        exact z
    · have e : ib (nI i).toNatClampNeg = 0 := by
        rw [hc8]
        exact hsi.2 hb
      refine br_f hT ⟨h8, br_t e (nm_r (nI_1 i) (ih (i + 1) F (by omega) (by omega) ?_))⟩
      intro u hu1 hu2
      by_cases e4 : u = i
      · rw [e4] at hu2
        exact absurd hu2 hb
      · exact hu u (by omega) hu2
end
