/-! the invariant of waiting, locks and queues; what keeps it -/
def aw_A (R T : Nat) (st wr wm : Nat → Int32) : Prop :=
  ∀ t, t < T → (st t = 2 ∧ ∃ r, r < R ∧ wr t = nI r ∧ (wm t = 1 ∨ wm t = 2)) ∨ (st t ≠ 2 ∧ wr t = -1 ∧ wm t = 0)
def hb_B (R T : Nat) (he : Nat → Int32) : Prop :=
  ∀ t, t < T → ∀ r, r < 16 → he (t * 16 + r) = 0 ∨ (r < R ∧ (he (t * 16 + r) = 1 ∨ he (t * 16 + r) = 2))
def cq_C (R T : Nat) (tk : Nat → Nat) (wr qu qs : Nat → Int32) : Prop :=
  ∀ r, r < R → ∃ (n : Nat) (q : Nat → Nat), qs r = nI n ∧ (∀ i, i < n → qu (r * 8 + i) = nI (q i)) ∧ qq_R T r n wr tk q
/-- the waiting ones' tickets are below the next -/
def td_D (T N : Nat) (tk : Nat → Nat) (wr : Nat → Int32) : Prop := ∀ u, u < T → wr u ≠ -1 → tk u < N
def hv_I (R T N : Nat) (tk : Nat → Nat) (st wr wm he qu qs : Nat → Int32) : Prop :=
  aw_A R T st wr wm ∧ hb_B R T he ∧ cq_C R T tk wr qu qs ∧ td_D T N tk wr
theorem td_rem {T N : Nat} {tk : Nat → Nat} {wr : Nat → Int32} (h : td_D T N tk wr) (v : Nat) : td_D T N tk (upd wr v (-1)) := by
  intro u hu hw
  by_cases e : u = v
  · rw [ux_e e] at hw
    exact absurd rfl hw
  · rw [pk_un e] at hw
    exact h u hu hw
theorem td_add {T N : Nat} {tk : Nat → Nat} {wr : Nat → Int32} (h : td_D T N tk wr) (v : Nat) (x : Int32) : td_D T (N + 1) (qq_t tk v N) (upd wr v x) := by
  intro u hu hw
  by_cases e : u = v
  · rw [qq_t1 e]
    omega
  · rw [pk_un e] at hw
    rw [qq_t0 e]
    have h1 := h u hu hw
    omega
/-- bounds of a table -/
def rt_B (R T : Nat) : Prop := 1 ≤ R ∧ R ≤ 16 ∧ 2 ≤ T ∧ T ≤ 8
/-- the queue cells with the p-th of k + 1 taken out, b the row's first cell -/
def sh_f (qu : Nat → Int32) (b p k : Nat) : Nat → Int32 := fun j => if b + p ≤ j ∧ j < b + k then qu (j + 1) else qu j
theorem sh_1 {qu : Nat → Int32} {b p k j : Nat} (h1 : b + p ≤ j) (h2 : j < b + k) : sh_f qu b p k j = qu (j + 1) := if_pos ⟨h1, h2⟩
theorem sh_0 {qu : Nat → Int32} {b p k j : Nat} (h : ¬ (b + p ≤ j ∧ j < b + k)) : sh_f qu b p k j = qu j := if_neg h
theorem sh_e {qu : Nat → Int32} {b p k : Nat} (h : k ≤ p) : sh_f qu b p k = qu := by
  funext j
  exact sh_0 (by omega)
theorem sh_s {qu : Nat → Int32} {b p k : Nat} (h : p ≤ k) : upd (sh_f qu b p k) (b + k) (qu (b + k + 1)) = sh_f qu b p (k + 1) := by
  funext j
  by_cases e : j = b + k
  · rw [ux_e e, sh_1 (by omega) (by omega), e]
  · rw [pk_un e]
    by_cases h1 : b + p ≤ j ∧ j < b + k
    · rw [sh_1 h1.1 h1.2, sh_1 (by omega) (by omega)]
    · rw [sh_0 h1, sh_0 (by omega)]
theorem aw_set {R T : Nat} {st wr wm : Nat → Int32} (h : aw_A R T st wr wm) (v : Nat) {s : Int32} (hs : s ≠ 2) : aw_A R T (upd st v s) (upd wr v (-1)) (upd wm v 0) := by
  intro t ht
  by_cases e : t = v
  · rw [ux_e e, ux_e e, ux_e e]
    exact Or.inr ⟨hs, rfl, rfl⟩
  · rw [pk_un e, pk_un e, pk_un e]
    exact h t ht
theorem aw_nw {R T : Nat} {st wr wm : Nat → Int32} (h : aw_A R T st wr wm) {v : Nat} (hv : v < T) (hw : st v ≠ 2) {s : Int32} (hs : s ≠ 2) : aw_A R T (upd st v s) wr wm := by
  intro t ht
  by_cases e : t = v
  · rw [ux_e e]
    cases h t ht with
    | inl h1 =>
      rw [e] at h1
      exact absurd h1.1 hw
    | inr h1 => exact Or.inr ⟨hs, h1.2⟩
  · rw [pk_un e]
    exact h t ht
theorem aw_w1 {R T : Nat} {st wr wm : Nat → Int32} (h : aw_A R T st wr wm) {v : Nat} (hv : v < T) (hw : st v ≠ 2) : wr v = -1 ∧ wm v = 0 := by
  cases h v hv with
  | inl h1 => exact absurd h1.1 hw
  | inr h1 => exact h1.2
theorem aw_w2 {R T : Nat} {st wr wm : Nat → Int32} (h : aw_A R T st wr wm) {v : Nat} (hv : v < T) (hw : st v = 2) : ∃ r, r < R ∧ wr v = nI r ∧ (wm v = 1 ∨ wm v = 2) := by
  cases h v hv with
  | inl h1 => exact h1.2
  | inr h1 => exact absurd hw h1.1
theorem aw_q {R T : Nat} {st wr wm : Nat → Int32} (h : aw_A R T st wr wm) {v r : Nat} (hv : v < T) (hr : r < 2 ^ 31) (hw : wr v = nI r) : st v = 2 ∧ (wm v = 1 ∨ wm v = 2) := by
  cases h v hv with
  | inl h1 =>
    obtain ⟨r', _, _, h2⟩ := h1.2
    exact ⟨h1.1, h2⟩
  | inr h1 =>
    rw [hw] at h1
    exact absurd h1.2.1 (ux_ne1 hr)
theorem hb_set {R T : Nat} {he : Nat → Int32} (h : hb_B R T he) {v r : Nat} (hr : r < R) (hR : R ≤ 16) {m : Int32} (hm : m = 1 ∨ m = 2) : hb_B R T (upd he (v * 16 + r) m) := by
  intro t ht r' hr'
  by_cases e : t * 16 + r' = v * 16 + r
  · rw [ux_e e]
    exact Or.inr ⟨by omega, hm⟩
  · rw [pk_un e]
    exact h t ht r' hr'
/-- the cells b .. b + k - 1 emptied -/
def dz_f (he : Nat → Int32) (b k : Nat) : Nat → Int32 := fun j => if b ≤ j ∧ j < b + k then 0 else he j
theorem dz_1 {he : Nat → Int32} {b k j : Nat} (h1 : b ≤ j) (h2 : j < b + k) : dz_f he b k j = 0 := if_pos ⟨h1, h2⟩
theorem dz_0 {he : Nat → Int32} {b k j : Nat} (h : ¬ (b ≤ j ∧ j < b + k)) : dz_f he b k j = he j := if_neg h
theorem dz_z (he : Nat → Int32) (b : Nat) : dz_f he b 0 = he := by
  funext j
  exact dz_0 (by omega)
theorem dz_s (he : Nat → Int32) (b k : Nat) : upd (dz_f he b k) (b + k) 0 = dz_f he b (k + 1) := by
  funext j
  by_cases e : j = b + k
  · rw [ux_e e, dz_1 (by omega) (by omega)]
  · rw [pk_un e]
    by_cases h : b ≤ j ∧ j < b + k
    · rw [dz_1 h.1 h.2, dz_1 (by omega) (by omega)]
    · rw [dz_0 h, dz_0 (by omega)]
theorem dz_R {R T : Nat} {he : Nat → Int32} (h : hb_B R T he) (hR : R ≤ 16) {v : Nat} (hv : v < T) : dz_f he (v * 16) R = dz_f he (v * 16) 16 := by
  funext j
  by_cases h1 : v * 16 ≤ j ∧ j < v * 16 + R
  · rw [dz_1 h1.1 h1.2, dz_1 (by omega) (by omega)]
  · rw [dz_0 h1]
    by_cases h2 : v * 16 ≤ j ∧ j < v * 16 + 16
    · rw [dz_1 h2.1 h2.2]
      obtain ⟨r, hr⟩ : ∃ r, j = v * 16 + r := ⟨j - v * 16, by omega⟩
      subst hr
      cases h v hv r (by omega) with
      | inl h3 => exact h3
      | inr h3 => omega
    · rw [dz_0 h2]
theorem hb_drop {R T : Nat} {he : Nat → Int32} (h : hb_B R T he) (b : Nat) : hb_B R T (dz_f he b 16) := by
  intro t ht r hr
  by_cases h1 : b ≤ t * 16 + r ∧ t * 16 + r < b + 16
  · exact Or.inl (dz_1 h1.1 h1.2)
  · rw [dz_0 h1]
    exact h t ht r hr
theorem cq_rem {R T : Nat} {tk : Nat → Nat} {wr qu qs : Nat → Int32} (h : cq_C R T tk wr qu qs) (hB : rt_B R T) {r n p : Nat} {q : Nat → Nat} (hr : r < R) (hq : ∀ i, i < n → qu (r * 8 + i) = nI (q i)) (hQ : qq_R T r n wr tk q) (hp : p < n) : cq_C R T tk (upd wr (q p) (-1)) (sh_f qu (r * 8) p (n - 1)) (upd qs r (nI (n - 1))) := by
  obtain ⟨hB1, hB2, hB3, hB4⟩ := hB
  have hn := qq_le hQ
  intro r' hr'
  by_cases e : r' = r
  · subst e
    refine ⟨n - 1, fun i => if i < p then q i else q (i + 1), pk_us, ?_, qq_rem hQ (by omega) hp⟩
    intro i hi
    by_cases h1 : i < p
    · simp only [if_pos h1]
      rw [sh_0 (by omega)]
      exact hq i (by omega)
    · simp only [if_neg h1]
      rw [sh_1 (by omega) (by omega)]
      exact hq (i + 1) (by omega)
  · obtain ⟨n', q', h1, h2, h3⟩ := h r' hr'
    have hn' := qq_le h3
    refine ⟨n', q', ?_, ?_, ?_⟩
    · rw [pk_un e]
      exact h1
    · intro i hi
      rw [sh_0 (by omega)]
      exact h2 i hi
    · refine qq_oth h3 ?_ (ux_ne1 (by omega)).symm
      rw [(hQ.1 p hp).2]
      exact ux_ne (fun z => e z.symm) (by omega) (by omega)
theorem cq_add {R T : Nat} {tk : Nat → Nat} {wr qu qs : Nat → Int32} (h : cq_C R T tk wr qu qs) (hB : rt_B R T) {r n v nt : Nat} {q : Nat → Nat} (hr : r < R) (hq : ∀ i, i < n → qu (r * 8 + i) = nI (q i)) (hQ : qq_R T r n wr tk q) (hv : v < T) (hw : wr v = -1) (ht : td_D T nt tk wr) : cq_C R T (qq_t tk v nt) (upd wr v (nI r)) (upd qu (r * 8 + n) (nI v)) (upd qs r (nI (n + 1))) := by
  obtain ⟨hB1, hB2, hB3, hB4⟩ := hB
  have hne : ∀ r, r < R → wr v ≠ nI r := fun r hr => by rw [hw]; exact (ux_ne1 (by omega)).symm
  have hn := qq_lt hQ hv (hne r hr)
  intro r' hr'
  by_cases e : r' = r
  · subst e
    refine ⟨n + 1, fun i => if i < n then q i else v, pk_us, ?_, qq_add hQ hv (hne r' hr) (fun i hi => ht (q i) (hQ.1 i hi).1 (by rw [(hQ.1 i hi).2]; exact ux_ne1 (by omega)))⟩
    intro i hi
    by_cases h1 : i < n
    · simp only [if_pos h1]
      rw [pk_un (by omega)]
      exact hq i h1
    · simp only [if_neg h1]
      exact ux_e (by omega)
  · obtain ⟨n', q', h1, h2, h3⟩ := h r' hr'
    have hn' := qq_le h3
    refine ⟨n', q', ?_, ?_, ?_⟩
    · rw [pk_un e]
      exact h1
    · intro i hi
      rw [pk_un (by omega)]
      exact h2 i hi
    · refine qq_oth (qq_tk h3 (hne r' hr')) (hne r' hr') ?_
      exact ux_ne (fun z => e z.symm) (by omega) (by omega)
theorem aw_add {R T : Nat} {st wr wm : Nat → Int32} (h : aw_A R T st wr wm) {v r : Nat} {m : Int32} (hr : r < R) (hm : m = 1 ∨ m = 2) : aw_A R T (upd st v 2) (upd wr v (nI r)) (upd wm v m) := by
  intro t ht
  by_cases e : t = v
  · rw [ux_e e, ux_e e, ux_e e]
    exact Or.inl ⟨rfl, r, hr, rfl, hm⟩
  · rw [pk_un e, pk_un e, pk_un e]
    exact h t ht
/-- the position of a waiting one -/
theorem cq_pos {R T : Nat} {tk : Nat → Nat} {wr qu qs : Nat → Int32} (h : cq_C R T tk wr qu qs) {r v : Nat} (hr : r < R) (hv : v < T) (hw : wr v = nI r) : ∃ (n p : Nat) (q : Nat → Nat), qs r = nI n ∧ (∀ i, i < n → qu (r * 8 + i) = nI (q i)) ∧ qq_R T r n wr tk q ∧ p < n ∧ q p = v := by
  obtain ⟨n, q, h1, h2, h3⟩ := h r hr
  obtain ⟨p, h4, h5⟩ := h3.2.1 v hv hw
  exact ⟨n, p, q, h1, h2, h3, h4, h5⟩
/-! conflicts -/
def cf_b (m h : Int32) : Prop := (m = 1 ∧ h = 2) ∨ (m = 2 ∧ h ≠ 0)
def cf_C (T t r : Nat) (m : Int32) (he : Nat → Int32) : Prop := ∃ u, u < T ∧ u ≠ t ∧ cf_b m (he (u * 16 + r))
/-- u stands in t's way for mode m on row r -/
def bl_B (t r : Nat) (m : Int32) (he wr : Nat → Int32) (u : Nat) : Prop := u ≠ t ∧ (cf_b m (he (u * 16 + r)) ∨ wr u = nI r)
def bl_E (T t r : Nat) (m : Int32) (he wr : Nat → Int32) : Prop := ∃ u, u < T ∧ bl_B t r m he wr u
theorem bl_iff {T t r n : Nat} {m : Int32} {he wr : Nat → Int32} {tk q : Nat → Nat} (hQ : qq_R T r n wr tk q) (ht : wr t ≠ nI r) : bl_E T t r m he wr ↔ (cf_C T t r m he ∨ n ≠ 0) := by
  constructor
  · intro ⟨u, h1, h2, h3⟩
    cases h3 with
    | inl h4 => exact Or.inl ⟨u, h1, h2, h4⟩
    | inr h4 =>
      obtain ⟨i, hi, _⟩ := hQ.2.1 u h1 h4
      exact Or.inr (by omega)
  · intro h
    cases h with
    | inl h1 =>
      obtain ⟨u, h2, h3, h4⟩ := h1
      exact ⟨u, h2, h3, Or.inl h4⟩
    | inr h1 =>
      have h2 := hQ.1 0 (by omega)
      refine ⟨q 0, h2.1, ?_, Or.inr h2.2⟩
      intro e
      rw [e] at h2
      exact ht h2.2

/-! whole steps of the invariant -/
theorem hv_grant {R T N : Nat} {tk : Nat → Nat} {st wr wm he qu qs : Nat → Int32} (h : hv_I R T N tk st wr wm he qu qs) (hB : rt_B R T) {r n : Nat} {q : Nat → Nat} (hr : r < R) (hq : ∀ i, i < n + 1 → qu (r * 8 + i) = nI (q i)) (hQ : qq_R T r (n + 1) wr tk q) : hv_I R T N tk (upd st (q 0) 1) (upd wr (q 0) (-1)) (upd wm (q 0) 0) (upd he (q 0 * 16 + r) (wm (q 0))) (sh_f qu (r * 8) 0 n) (upd qs r (nI n)) := by
  have h0 := hQ.1 0 (by omega)
  have hb := hB
  obtain ⟨hB1, hB2, hB3, hB4⟩ := hb
  have h1 := aw_q h.1 h0.1 (by omega) h0.2
  exact ⟨aw_set h.1 _ (by decide), hb_set h.2.1 hr hB2 h1.2, cq_rem h.2.2.1 hB hr hq hQ (by omega), td_rem h.2.2.2 _⟩
theorem hv_ab1 {R T N : Nat} {tk : Nat → Nat} {st wr wm he qu qs : Nat → Int32} (h : hv_I R T N tk st wr wm he qu qs) (hB : rt_B R T) {r n p : Nat} {q : Nat → Nat} (hr : r < R) (hq : ∀ i, i < n → qu (r * 8 + i) = nI (q i)) (hQ : qq_R T r n wr tk q) (hp : p < n) : hv_I R T N tk (upd st (q p) 3) (upd wr (q p) (-1)) (upd wm (q p) 0) (dz_f he (q p * 16) 16) (sh_f qu (r * 8) p (n - 1)) (upd qs r (nI (n - 1))) :=
  ⟨aw_set h.1 _ (by decide), hb_drop h.2.1 _, cq_rem h.2.2.1 hB hr hq hQ hp, td_rem h.2.2.2 _⟩
theorem hv_ab0 {R T N : Nat} {tk : Nat → Nat} {st wr wm he qu qs : Nat → Int32} (h : hv_I R T N tk st wr wm he qu qs) {v : Nat} (hv : v < T) (hs : st v ≠ 2) {s : Int32} (hs' : s ≠ 2) : hv_I R T N tk (upd st v s) wr wm (dz_f he (v * 16) 16) qu qs :=
  ⟨aw_nw h.1 hv hs hs', hb_drop h.2.1 _, h.2.2⟩
theorem hv_st {R T N : Nat} {tk : Nat → Nat} {st wr wm he qu qs : Nat → Int32} (h : hv_I R T N tk st wr wm he qu qs) {v : Nat} (hv : v < T) (hs : st v ≠ 2) {s : Int32} (hs' : s ≠ 2) : hv_I R T N tk (upd st v s) wr wm he qu qs :=
  ⟨aw_nw h.1 hv hs hs', h.2⟩
theorem hv_he {R T N : Nat} {tk : Nat → Nat} {st wr wm he qu qs : Nat → Int32} (h : hv_I R T N tk st wr wm he qu qs) (hB : rt_B R T) {v r : Nat} (hr : r < R) {m : Int32} (hm : m = 1 ∨ m = 2) : hv_I R T N tk st wr wm (upd he (v * 16 + r) m) qu qs :=
  ⟨h.1, hb_set h.2.1 hr hB.2.1 hm, h.2.2⟩
theorem hv_join {R T N : Nat} {tk : Nat → Nat} {st wr wm he qu qs : Nat → Int32} (h : hv_I R T N tk st wr wm he qu qs) (hB : rt_B R T) {r n v : Nat} {q : Nat → Nat} {m : Int32} (hr : r < R) (hm : m = 1 ∨ m = 2) (hq : ∀ i, i < n → qu (r * 8 + i) = nI (q i)) (hQ : qq_R T r n wr tk q) (hv : v < T) (hs : st v ≠ 2) : hv_I R T (N + 1) (qq_t tk v N) (upd st v 2) (upd wr v (nI r)) (upd wm v m) he (upd qu (r * 8 + n) (nI v)) (upd qs r (nI (n + 1))) :=
  ⟨aw_add h.1 hr hm, h.2.1, cq_add h.2.2.1 hB hr hq hQ hv (aw_w1 h.1 hv hs).1 h.2.2.2, td_add h.2.2.2 v _⟩
/-! modes -/
def cf_w (m : Int32) : Int32 := if m = 1 then 2 else 1
theorem cf_bar {m h : Int32} (hm : m = 1 ∨ m = 2) (hh : h = 0 ∨ h = 1 ∨ h = 2) : h < cf_w m ↔ ¬ cf_b m h := by
  cases hm with
  | inl e =>
    subst e
    have e1 : cf_w 1 = 2 := if_pos rfl
    rw [e1]
    cases hh with
    | inl e => subst e; exact ⟨fun _ z => by cases z with | inl z => exact absurd z.2 (by decide) | inr z => exact absurd z.1 (by decide), fun _ => by decide⟩
    | inr hh => cases hh with
      | inl e => subst e; exact ⟨fun _ z => by cases z with | inl z => exact absurd z.2 (by decide) | inr z => exact absurd z.1 (by decide), fun _ => by decide⟩
      | inr e => subst e; exact ⟨fun z => absurd z (by decide), fun z => absurd (Or.inl ⟨rfl, rfl⟩) z⟩
  | inr e =>
    subst e
    have e1 : cf_w 2 = 1 := if_neg (by decide)
    rw [e1]
    cases hh with
    | inl e => subst e; exact ⟨fun _ z => by cases z with | inl z => exact absurd z.1 (by decide) | inr z => exact z.2 rfl, fun _ => by decide⟩
    | inr hh => cases hh with
      | inl e => subst e; exact ⟨fun z => absurd z (by decide), fun z => absurd (Or.inr ⟨rfl, by decide⟩) z⟩
      | inr e => subst e; exact ⟨fun z => absurd z (by decide), fun z => absurd (Or.inr ⟨rfl, by decide⟩) z⟩
theorem cf_1 {h : Int32} : cf_b 1 h ↔ h = 2 :=
  ⟨fun z => by cases z with | inl z => exact z.2 | inr z => exact absurd z.1 (by decide), fun z => Or.inl ⟨rfl, z⟩⟩
theorem cf_2 {h : Int32} : cf_b 2 h ↔ h ≠ 0 :=
  ⟨fun z => by cases z with | inl z => exact absurd z.1 (by decide) | inr z => exact z.2, fun z => Or.inr ⟨rfl, z⟩⟩
theorem hb_3 {R T : Nat} {he : Nat → Int32} (h : hb_B R T he) {t r : Nat} (ht : t < T) (hr : r < 16) : he (t * 16 + r) = 0 ∨ he (t * 16 + r) = 1 ∨ he (t * 16 + r) = 2 := by
  cases h t ht r hr with
  | inl z => exact Or.inl z
  | inr z => exact Or.inr z.2
/-! numbers beside 0 and 1 -/
theorem zz_le0 {a : Nat} (h : a < 2 ^ 31) : nI a ≤ 0 ↔ a = 0 := by
  rw [← nI_0, nI_leI h (by omega)]; omega
theorem zz_eq0 {a : Nat} (h : a < 2 ^ 31) : nI a = 0 ↔ a = 0 := by
  rw [← nI_0, nI_eq h (by omega)]
theorem zz_lt0 {a : Nat} (h : a < 2 ^ 31) : nI a < 0 ↔ False := by
  simp only [nI_pos h]
theorem zz_0lt {a : Nat} (h : a < 2 ^ 31) : 0 < nI a ↔ 0 < a := by
  rw [← nI_0, nI_ltI (by omega) h]
theorem zz_0le {a : Nat} (h : a < 2 ^ 31) : 0 ≤ nI a ↔ True := by
  simp only [nI_pos' h]
theorem zz_m1lt : ((-1 : Int32) < 0) ↔ True := by simp only [show (-1 : Int32) < 0 from by decide]
theorem zz_m1le : ((0 : Int32) ≤ -1) ↔ False := by simp only [show ¬ (0 : Int32) ≤ -1 from by decide]
theorem zz_em1 {a : Nat} (h : a < 2 ^ 31) : (nI a = -1) ↔ False := by
  simp only [ux_ne1 h]
theorem zz_vb0 : vp_nar .boolean 0 = 0 := by decide
theorem zz_vb1 : vp_nar .boolean 1 = 1 := by decide
theorem zz_nb0 : (narrow .boolean (.int 0) = .int 0) ↔ True := by
  exact ⟨fun _ => trivial, fun _ => rfl⟩
theorem zz_nb1 : (narrow .boolean (.int 1) = .int 1) ↔ True := by
  exact ⟨fun _ => trivial, fun _ => rfl⟩
