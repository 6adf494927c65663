section
/-! rows pasted from the pure rows -/
theorem pk_us {f : Nat → Int32} {k : Nat} {x : Int32} : upd f k x k = x := if_pos rfl
theorem pk_un {f : Nat → Int32} {k j : Nat} {x : Int32} (h : j ≠ k) : upd f k x j = f j := if_neg h
theorem pk_uLs {f : Nat → Int64} {k : Nat} {x : Int64} : vp_updL f k x k = x := if_pos rfl
theorem pk_uLn {f : Nat → Int64} {k j : Nat} {x : Int64} (h : j ≠ k) : vp_updL f k x j = f j := if_neg h
theorem pk_sub {a b : Nat} (h : b ≤ a) : nI a - nI b = nI (a - b) := by
  obtain ⟨c, rfl⟩ : ∃ c, a = c + b := ⟨a - b, by omega⟩
  rw [← nI_add, Int32.add_sub_cancel, Nat.add_sub_cancel]
theorem pk_m1 (n : Nat) : nI (n + 1) + (-1) = nI n := by
  rw [← nI_1, Int32.add_assoc, show (1 : Int32) + (-1) = 0 from rfl, Int32.add_zero]
theorem pk_mul (a b : Nat) : nI a * nI b = nI (a * b) := (Int32.ofNat_mul a b).symm
theorem pk_div {a d : Nat} (ha : a < 2 ^ 31) (h0 : 0 < d) (hd : d < 2 ^ 31) : nI a / nI d = nI (a / d) := by
  apply Int32.toInt_inj.mp
  rw [lg_idiv_nonneg (by rw [nI_toInt ha]; omega) (by rw [nI_toInt hd]; omega), nI_toInt ha, nI_toInt hd, nI_toInt (Nat.lt_of_le_of_lt (Nat.div_le_self a d) ha)]
  first | rfl | exact (Int.natCast_ediv _ _).symm
theorem pk_rem {a d : Nat} (ha : a < 2 ^ 31) (h0 : 0 < d) (hd : d < 2 ^ 31) : nI a - nI a / nI d * nI d = nI (a % d) := by
  rw [pk_div ha h0 hd, pk_mul, pk_sub (Nat.div_mul_le_self a d)]
  exact congrArg nI (by have := Nat.div_add_mod' a d; omega)
theorem pk_ix (x : Int32) {n : Nat} (hn : n < 2 ^ 31) : x < 0 ∨ nI n ≤ x ∨ ∃ j : Nat, j < n ∧ x = nI j := by
  by_cases h : x < 0
  · exact Or.inl h
  · obtain ⟨j, hj, rfl⟩ := nI_of h
    by_cases h2 : j < n
    · exact Or.inr (Or.inr ⟨j, h2, rfl⟩)
    · exact Or.inr (Or.inl (nI_le (by omega) hj))
theorem pk_le {x y : Int32} {A B : Prop} (a b : Nat) (f : a ≤ b → A) (g : b < a → B) (hx : x = nI a := by rfl) (hy : y = nI b := by rfl) (ha : a < 2 ^ 31 := by omega) (hb : b < 2 ^ 31 := by omega) : (x ≤ y → A) ∧ (¬ x ≤ y → B) := by
  subst hx hy
  rw [nI_leI ha hb]
  exact ⟨f, fun z => g (by omega)⟩
theorem pk_lt {x y : Int32} {A B : Prop} (a b : Nat) (f : a < b → A) (g : b ≤ a → B) (hx : x = nI a := by rfl) (hy : y = nI b := by rfl) (ha : a < 2 ^ 31 := by omega) (hb : b < 2 ^ 31 := by omega) : (x < y → A) ∧ (¬ x < y → B) := by
  subst hx hy
  rw [nI_ltI ha hb]
  exact ⟨f, fun z => g (by omega)⟩
theorem pk_eq {x y : Int32} {A B : Prop} (a b : Nat) (f : a = b → A) (g : a ≠ b → B) (hx : x = nI a := by rfl) (hy : y = nI b := by rfl) (ha : a < 2 ^ 31 := by omega) (hb : b < 2 ^ 31 := by omega) : (x = y → A) ∧ (¬ x = y → B) := by
  subst hx hy
  rw [nI_eq ha hb]
  exact ⟨f, g⟩
theorem pk_in {x : Int32} (n N : Nat) (h : n < N) (hx : x = nI n := by rfl) (hN : N < 2 ^ 31 := by omega) : vp_in x N := by
  subst hx
  exact vp_in_nI h hN
theorem pk_cl {x : Int32} (n : Nat) (hx : x = nI n := by rfl) (h : n < 2 ^ 31 := by omega) : x.toNatClampNeg = n := by
  subst hx
  exact nI_clamp h
theorem pk_lT {n : Nat} (h : n < 2 ^ 63) : (lN n).toInt = (n : Int) := lg_ofNat_toInt h
theorem pk_lLT {a b : Nat} (ha : a < 2 ^ 63) (hb : b < 2 ^ 63) : lN a < lN b ↔ a < b := by
  rw [Int64.lt_iff_toInt_lt, pk_lT ha, pk_lT hb]; omega
theorem pk_lLE {a b : Nat} (ha : a < 2 ^ 63) (hb : b < 2 ^ 63) : lN a ≤ lN b ↔ a ≤ b := by
  rw [Int64.le_iff_toInt_le, pk_lT ha, pk_lT hb]; omega
theorem pk_lEQ {a b : Nat} (ha : a < 2 ^ 63) (hb : b < 2 ^ 63) : lN a = lN b ↔ a = b := by
  rw [← Int64.toInt_inj, pk_lT ha, pk_lT hb]; omega
theorem pk_loop {σ : Type} (W : Nat → Nat → σ → Prop) (I : Nat → σ → Prop) (e i0 : Nat) (s : σ) (hi : i0 ≤ e) (h0 : I i0 s) (hx : ∀ n s, I e s → W (n + 1) e s)
    (hs : ∀ n i s, i < e → I i s → (∀ s', I (i + 1) s' → W n (i + 1) s') → W (n + 1) i s) : ∃ n, W n i0 s :=
  ⟨e + 1, loop_i W I e hx hs (e + 1) i0 s hi (by omega) h0⟩
/-! small facts on stores -/
theorem ux_e {f : Nat → Int32} {k j : Nat} {x : Int32} (h : j = k) : upd f k x j = x := if_pos h
theorem ux_id {f : Nat → Int32} {k : Nat} {x : Int32} (h : f k = x) : upd f k x = f := by
  funext j
  by_cases e : j = k
  · rw [ux_e e, e, h]
  · rw [pk_un e]
theorem ux_uu {f : Nat → Int32} {k : Nat} {x y : Int32} : upd (upd f k x) k y = upd f k y := by
  funext j
  by_cases e : j = k
  · rw [ux_e e, ux_e e]
  · rw [pk_un e, pk_un e, pk_un e]
theorem ux_ne1 {n : Nat} (h : n < 2 ^ 31) : nI n ≠ -1 := by
  intro e
  have := nI_pos h
  rw [e] at this
  exact this (by decide)
theorem ux_ne {a b : Nat} (h : a ≠ b) (ha : a < 2 ^ 31) (hb : b < 2 ^ 31) : nI a ≠ nI b := fun e => h ((nI_eq ha hb).mp e)
theorem ix_8 (u i : Nat) : nI u * 8 + nI i = nI (u * 8 + i) := by
  rw [show (8 : Int32) = nI 8 from rfl, pk_mul, nI_add]
theorem ix_16 (u i : Nat) : nI u * 16 + nI i = nI (u * 16 + i) := by
  rw [show (16 : Int32) = nI 16 from rfl, pk_mul, nI_add]
theorem ix_8z (u : Nat) : nI u * 8 = nI (u * 8) := by
  rw [show (8 : Int32) = nI 8 from rfl, pk_mul]
theorem ix_16z (u : Nat) : nI u * 16 = nI (u * 16) := by
  rw [show (16 : Int32) = nI 16 from rfl, pk_mul]
/-! counting -/
def wc_n (P : Nat → Bool) : Nat → Nat
  | 0 => 0
  | T + 1 => wc_n P T + (if P T = true then 1 else 0)
theorem wc_ext {P Q : Nat → Bool} : ∀ T, (∀ u, u < T → P u = Q u) → wc_n P T = wc_n Q T := by
  intro T
  induction T with
  | zero => intro _; rfl
  | succ T ih =>
    intro h
    show wc_n P T + (if P T = true then 1 else 0) = wc_n Q T + (if Q T = true then 1 else 0)
    rw [ih (fun u hu => h u (by omega)), h T (by omega)]
theorem wc_zero {P : Nat → Bool} : ∀ T, (∀ u, u < T → P u = false) → wc_n P T = 0 := by
  intro T
  induction T with
  | zero => intro _; rfl
  | succ T ih =>
    intro h
    show wc_n P T + (if P T = true then 1 else 0) = 0
    rw [ih (fun u hu => h u (by omega)), h T (by omega)]
    simp
theorem wc_ins {P Q : Nat → Bool} (v : Nat) : ∀ T, v < T → P v = false → (∀ u, u < T → Q u = (P u || decide (u = v))) → wc_n Q T = wc_n P T + 1 := by
  intro T
  induction T with
  | zero => intro h; omega
  | succ T ih =>
    intro hv hP hQ
    show wc_n Q T + (if Q T = true then 1 else 0) = wc_n P T + (if P T = true then 1 else 0) + 1
    by_cases e : v = T
    · subst e
      have h1 : wc_n Q v = wc_n P v := wc_ext v (fun u hu => by
        rw [hQ u (by omega)]
        have h2 : decide (u = v) = false := decide_eq_false (by omega)
        rw [h2, Bool.or_false])
      rw [h1, hQ v (by omega), hP]
      simp
    · rw [ih (by omega) hP (fun u hu => hQ u (by omega)), hQ T (by omega)]
      have h2 : decide (T = v) = false := decide_eq_false (by omega)
      rw [h2, Bool.or_false]
      exact Nat.add_right_comm _ _ _
theorem wc_le (P : Nat → Bool) : ∀ T, wc_n P T ≤ T := by
  intro T
  induction T with
  | zero => exact Nat.le_refl 0
  | succ T ih =>
    show wc_n P T + (if P T = true then 1 else 0) ≤ T + 1
    by_cases e : P T = true
    · rw [if_pos e]; omega
    · rw [if_neg e]; omega
theorem wc_lt {P : Nat → Bool} {T v : Nat} (hv : v < T) (h : P v = false) : wc_n P T < T := by
  have h1 := wc_ins (P := P) (Q := fun u => P u || decide (u = v)) v T hv h (fun u _ => rfl)
  have h2 := wc_le (fun u => P u || decide (u = v)) T
  omega
def wc_m (q : Nat → Nat) : Nat → Nat → Bool
  | 0, _ => false
  | p + 1, v => wc_m q p v || decide (v = q p)
theorem wc_mem (q : Nat → Nat) (v : Nat) : ∀ p, wc_m q p v = true ↔ ∃ i, i < p ∧ q i = v := by
  intro p
  induction p with
  | zero =>
    constructor
    · intro h
      exact absurd h (by simp [wc_m])
    · intro ⟨i, hi, _⟩
      omega
  | succ p ih =>
    show (wc_m q p v || decide (v = q p)) = true ↔ _
    rw [Bool.or_eq_true, ih, decide_eq_true_eq]
    constructor
    · intro h
      cases h with
      | inl h =>
        obtain ⟨i, hi, e⟩ := h
        exact ⟨i, by omega, e⟩
      | inr e => exact ⟨p, by omega, e.symm⟩
    · intro ⟨i, hi, e⟩
      by_cases h : i = p
      · subst h
        exact Or.inr e.symm
      · exact Or.inl ⟨i, by omega, e⟩
theorem wc_cnt (q : Nat → Nat) (T n : Nat) (hT : ∀ i, i < n → q i < T) (hi : ∀ i j, i < j → j < n → q i ≠ q j) : ∀ p, p ≤ n → wc_n (wc_m q p) T = p := by
  intro p
  induction p with
  | zero => intro _; exact wc_zero T (fun u _ => rfl)
  | succ p ih =>
    intro hp
    have h0 : wc_m q p (q p) = false := by
      by_cases h : wc_m q p (q p) = true
      · obtain ⟨i, h1, h2⟩ := (wc_mem q (q p) p).mp h
        exact absurd h2 (hi i p h1 (by omega))
      · simpa using h
    rw [wc_ins (P := wc_m q p) (Q := wc_m q (p + 1)) (q p) T (hT p (by omega)) h0 (fun u _ => rfl), ih (by omega)]
/-! a row's queue: n members q 0, q 1, .. in the order of their tickets tk, just those u < T with wr u = r -/
def qq_R (T r n : Nat) (wr : Nat → Int32) (tk q : Nat → Nat) : Prop :=
  (∀ i, i < n → q i < T ∧ wr (q i) = nI r) ∧ (∀ u, u < T → wr u = nI r → ∃ i, i < n ∧ q i = u) ∧ (∀ i j, i < j → j < n → tk (q i) < tk (q j))
theorem qq_inj {T r n : Nat} {wr : Nat → Int32} {tk q : Nat → Nat} (h : qq_R T r n wr tk q) : ∀ i j, i < j → j < n → q i ≠ q j := by
  intro i j h1 h2 e
  have h3 := h.2.2 i j h1 h2
  rw [e] at h3
  omega
theorem qq_len {T r n : Nat} {wr : Nat → Int32} {tk q : Nat → Nat} (h : qq_R T r n wr tk q) : wc_n (fun u => decide (wr u = nI r)) T = n := by
  have h1 := wc_cnt q T n (fun i hi => (h.1 i hi).1) (qq_inj h) n (Nat.le_refl n)
  have h2 : wc_n (fun u => decide (wr u = nI r)) T = wc_n (wc_m q n) T := wc_ext T (fun u hu => by
    rw [Bool.eq_iff_iff, decide_eq_true_eq, wc_mem]
    constructor
    · exact h.2.1 u hu
    · intro ⟨i, hi, e⟩
      rw [← e]
      exact (h.1 i hi).2)
  rw [h2, h1]
theorem qq_rank {T r n : Nat} {wr : Nat → Int32} {tk q : Nat → Nat} (h : qq_R T r n wr tk q) {p : Nat} (hp : p < n) : wc_n (fun v => decide (wr v = nI r) && decide (tk v < tk (q p))) T = p := by
  have h1 := wc_cnt q T n (fun i hi => (h.1 i hi).1) (qq_inj h) p (by omega)
  have h2 : wc_n (fun v => decide (wr v = nI r) && decide (tk v < tk (q p))) T = wc_n (wc_m q p) T := wc_ext T (fun u hu => by
    rw [Bool.eq_iff_iff, Bool.and_eq_true, decide_eq_true_eq, decide_eq_true_eq, wc_mem]
    constructor
    · intro ⟨h3, h4⟩
      obtain ⟨i, hi, e⟩ := h.2.1 u hu h3
      refine ⟨i, ?_, e⟩
      by_cases h5 : i < p
      · exact h5
      · by_cases h6 : i = p
        · rw [← e, h6] at h4
          omega
        · have h7 := h.2.2 p i (by omega) hi
          rw [e] at h7
          omega
    · intro ⟨i, hi, e⟩
      rw [← e]
      exact ⟨(h.1 i (by omega)).2, h.2.2 i p hi hp⟩)
  rw [h2, h1]
theorem qq_le {T r n : Nat} {wr : Nat → Int32} {tk q : Nat → Nat} (h : qq_R T r n wr tk q) : n ≤ T := by
  have h1 := wc_le (fun u => decide (wr u = nI r)) T
  rw [qq_len h] at h1
  exact h1
theorem qq_lt {T r n : Nat} {wr : Nat → Int32} {tk q : Nat → Nat} (h : qq_R T r n wr tk q) {v : Nat} (hv : v < T) (hw : wr v ≠ nI r) : n < T := by
  have h1 := wc_lt (P := fun u => decide (wr u = nI r)) hv (decide_eq_false hw)
  rw [qq_len h] at h1
  exact h1
theorem qq_rem {T r n : Nat} {wr : Nat → Int32} {tk q : Nat → Nat} (h : qq_R T r n wr tk q) (hr : r < 16) {p : Nat} (hp : p < n) : qq_R T r (n - 1) (upd wr (q p) (-1)) tk (fun i => if i < p then q i else q (i + 1)) := by
  have hij := qq_inj h
  have hne : ∀ i, i < n → i ≠ p → q i ≠ q p := by
    intro i hi hip
    by_cases h1 : i < p
    · exact hij i p h1 hp
    · exact fun e => hij p i (by omega) hi e.symm
  refine ⟨?_, ?_, ?_⟩
  · intro i hi
    by_cases h1 : i < p
    · have h2 := h.1 i (by omega)
      simp only [if_pos h1]
      rw [pk_un (hne i (by omega) (by omega))]
      exact h2
    · have h2 := h.1 (i + 1) (by omega)
      simp only [if_neg h1]
      rw [pk_un (hne (i + 1) (by omega) (by omega))]
      exact h2
  · intro u hu hw
    by_cases e : u = q p
    · rw [ux_e e] at hw
      exact absurd hw.symm (ux_ne1 (by omega))
    · rw [pk_un e] at hw
      obtain ⟨i, hi, e2⟩ := h.2.1 u hu hw
      by_cases h1 : i < p
      · exact ⟨i, by omega, by simp only [if_pos h1]; exact e2⟩
      · by_cases h3 : i = p
        · rw [h3] at e2
          exact absurd e2.symm e
        · refine ⟨i - 1, by omega, ?_⟩
          have h4 : ¬ (i - 1 < p) := by omega
          have h5 : i - 1 + 1 = i := by omega
          simp only [if_neg h4, h5]
          exact e2
  · intro i j h1 h2
    by_cases hi : i < p
    · by_cases hj : j < p
      · simp only [if_pos hi, if_pos hj]
        exact h.2.2 i j h1 (by omega)
      · simp only [if_pos hi, if_neg hj]
        exact h.2.2 i (j + 1) (by omega) (by omega)
    · have hj : ¬ j < p := by omega
      simp only [if_neg hi, if_neg hj]
      exact h.2.2 (i + 1) (j + 1) (by omega) (by omega)
/-- tk with v's ticket nt -/
def qq_t (tk : Nat → Nat) (v nt : Nat) : Nat → Nat := fun u => if u = v then nt else tk u
theorem qq_t1 {tk : Nat → Nat} {v nt u : Nat} (h : u = v) : qq_t tk v nt u = nt := if_pos h
theorem qq_t0 {tk : Nat → Nat} {v nt u : Nat} (h : u ≠ v) : qq_t tk v nt u = tk u := if_neg h
theorem qq_oth {T r n : Nat} {wr : Nat → Int32} {tk q : Nat → Nat} (h : qq_R T r n wr tk q) {v : Nat} {x : Int32} (hv : wr v ≠ nI r) (hx : x ≠ nI r) : qq_R T r n (upd wr v x) tk q := by
  have hne : ∀ i, i < n → q i ≠ v := fun i hi e => hv (by rw [← e]; exact (h.1 i hi).2)
  refine ⟨?_, ?_, h.2.2⟩
  · intro i hi
    rw [pk_un (hne i hi)]
    exact h.1 i hi
  · intro u hu hw
    by_cases e : u = v
    · rw [ux_e e] at hw
      exact absurd hw hx
    · rw [pk_un e] at hw
      exact h.2.1 u hu hw
theorem qq_tk {T r n : Nat} {wr : Nat → Int32} {tk q : Nat → Nat} (h : qq_R T r n wr tk q) {v nt : Nat} (hv : wr v ≠ nI r) : qq_R T r n wr (qq_t tk v nt) q := by
  have hne : ∀ i, i < n → q i ≠ v := fun i hi e => hv (by rw [← e]; exact (h.1 i hi).2)
  refine ⟨h.1, h.2.1, ?_⟩
  intro i j h1 h2
  rw [qq_t0 (hne i (by omega)), qq_t0 (hne j h2)]
  exact h.2.2 i j h1 h2
theorem qq_add {T r n : Nat} {wr : Nat → Int32} {tk q : Nat → Nat} (h : qq_R T r n wr tk q) {v nt : Nat} (hvT : v < T) (hv : wr v ≠ nI r) (ht : ∀ i, i < n → tk (q i) < nt) : qq_R T r (n + 1) (upd wr v (nI r)) (qq_t tk v nt) (fun i => if i < n then q i else v) := by
  have hne : ∀ i, i < n → q i ≠ v := fun i hi e => hv (by rw [← e]; exact (h.1 i hi).2)
  refine ⟨?_, ?_, ?_⟩
  · intro i hi
    by_cases h1 : i < n
    · simp only [if_pos h1]
      rw [pk_un (hne i h1)]
      exact h.1 i h1
    · simp only [if_neg h1]
      exact ⟨hvT, pk_us⟩
  · intro u hu hw
    by_cases e : u = v
    · refine ⟨n, by omega, ?_⟩
      have h1 : ¬ n < n := by omega
      simp only [if_neg h1]
      exact e.symm
    · rw [pk_un e] at hw
      obtain ⟨i, hi, e2⟩ := h.2.1 u hu hw
      exact ⟨i, by omega, by simp only [if_pos hi]; exact e2⟩
  · intro i j h1 h2
    have hi : i < n := by omega
    by_cases hj : j < n
    · simp only [if_pos hi, if_pos hj]
      rw [qq_t0 (hne i hi), qq_t0 (hne j hj)]
      exact h.2.2 i j h1 hj
    · simp only [if_pos hi, if_neg hj]
      rw [qq_t0 (hne i hi), qq_t1 rfl]
      exact ht i hi
end
section
/-! the invariant of waiting, locks and queues; what keeps it -/
def aw_A (R T : Nat) (st wr wm : Nat → Int32) : Prop :=
  ∀ t, t < T → (st t = 2 ∧ ∃ r, r < R ∧ wr t = nI r ∧ (wm t = 1 ∨ wm t = 2)) ∨ (st t ≠ 2 ∧ wr t = -1 ∧ wm t = 0)
def hb_B (R T : Nat) (he : Nat → Int32) : Prop :=
  ∀ t, t < T → ∀ r, r < 16 → he (t * 16 + r) = 0 ∨ (r < R ∧ (he (t * 16 + r) = 1 ∨ he (t * 16 + r) = 2))
def cq_C (R T : Nat) (tk : Nat → Nat) (wr qu qs : Nat → Int32) : Prop :=
  ∀ r, r < R → ∃ (n : Nat) (q : Nat → Nat), qs r = nI n ∧ (∀ i, i < n → qu (r * 8 + i) = nI (q i)) ∧ qq_R T r n wr tk q
/-- the waiting ones' tickets are below the next -/
def td_D (T N : Nat) (tk : Nat → Nat) (wr : Nat → Int32) : Prop := ∀ u, u < T → wr u ≠ -1 → tk u < N
def hv_I (R T N : Nat) (tk : Nat → Nat) (st wr wm he qu qs : Nat → Int32) : Prop :=
  aw_A R T st wr wm ∧ hb_B R T he ∧ cq_C R T tk wr qu qs ∧ td_D T N tk wr
theorem td_rem {T N : Nat} {tk : Nat → Nat} {wr : Nat → Int32} (h : td_D T N tk wr) (v : Nat) : td_D T N tk (upd wr v (-1)) := by
  intro u hu hw
  by_cases e : u = v
  · rw [ux_e e] at hw
    exact absurd rfl hw
  · rw [pk_un e] at hw
    exact h u hu hw
theorem td_add {T N : Nat} {tk : Nat → Nat} {wr : Nat → Int32} (h : td_D T N tk wr) (v : Nat) (x : Int32) : td_D T (N + 1) (qq_t tk v N) (upd wr v x) := by
  intro u hu hw
  by_cases e : u = v
  · rw [qq_t1 e]
    omega
  · rw [pk_un e] at hw
    rw [qq_t0 e]
    have h1 := h u hu hw
    omega
/-- bounds of a table -/
def rt_B (R T : Nat) : Prop := 1 ≤ R ∧ R ≤ 16 ∧ 2 ≤ T ∧ T ≤ 8
/-- the queue cells with the p-th of k + 1 taken out, b the row's first cell -/
def sh_f (qu : Nat → Int32) (b p k : Nat) : Nat → Int32 := fun j => if b + p ≤ j ∧ j < b + k then qu (j + 1) else qu j
theorem sh_1 {qu : Nat → Int32} {b p k j : Nat} (h1 : b + p ≤ j) (h2 : j < b + k) : sh_f qu b p k j = qu (j + 1) := if_pos ⟨h1, h2⟩
theorem sh_0 {qu : Nat → Int32} {b p k j : Nat} (h : ¬ (b + p ≤ j ∧ j < b + k)) : sh_f qu b p k j = qu j := if_neg h
theorem sh_e {qu : Nat → Int32} {b p k : Nat} (h : k ≤ p) : sh_f qu b p k = qu := by
  funext j
  exact sh_0 (by omega)
theorem sh_s {qu : Nat → Int32} {b p k : Nat} (h : p ≤ k) : upd (sh_f qu b p k) (b + k) (qu (b + k + 1)) = sh_f qu b p (k + 1) := by
  funext j
  by_cases e : j = b + k
  · rw [ux_e e, sh_1 (by omega) (by omega), e]
  · rw [pk_un e]
    by_cases h1 : b + p ≤ j ∧ j < b + k
    · rw [sh_1 h1.1 h1.2, sh_1 (by omega) (by omega)]
    · rw [sh_0 h1, sh_0 (by omega)]
theorem aw_set {R T : Nat} {st wr wm : Nat → Int32} (h : aw_A R T st wr wm) (v : Nat) {s : Int32} (hs : s ≠ 2) : aw_A R T (upd st v s) (upd wr v (-1)) (upd wm v 0) := by
  intro t ht
  by_cases e : t = v
  · rw [ux_e e, ux_e e, ux_e e]
    exact Or.inr ⟨hs, rfl, rfl⟩
  · rw [pk_un e, pk_un e, pk_un e]
    exact h t ht
theorem aw_nw {R T : Nat} {st wr wm : Nat → Int32} (h : aw_A R T st wr wm) {v : Nat} (hv : v < T) (hw : st v ≠ 2) {s : Int32} (hs : s ≠ 2) : aw_A R T (upd st v s) wr wm := by
  intro t ht
  by_cases e : t = v
  · rw [ux_e e]
    cases h t ht with
    | inl h1 =>
      rw [e] at h1
      exact absurd h1.1 hw
    | inr h1 => exact Or.inr ⟨hs, h1.2⟩
  · rw [pk_un e]
    exact h t ht
theorem aw_w1 {R T : Nat} {st wr wm : Nat → Int32} (h : aw_A R T st wr wm) {v : Nat} (hv : v < T) (hw : st v ≠ 2) : wr v = -1 ∧ wm v = 0 := by
  cases h v hv with
  | inl h1 => exact absurd h1.1 hw
  | inr h1 => exact h1.2
theorem aw_w2 {R T : Nat} {st wr wm : Nat → Int32} (h : aw_A R T st wr wm) {v : Nat} (hv : v < T) (hw : st v = 2) : ∃ r, r < R ∧ wr v = nI r ∧ (wm v = 1 ∨ wm v = 2) := by
  cases h v hv with
  | inl h1 => exact h1.2
  | inr h1 => exact absurd hw h1.1
theorem aw_q {R T : Nat} {st wr wm : Nat → Int32} (h : aw_A R T st wr wm) {v r : Nat} (hv : v < T) (hr : r < 2 ^ 31) (hw : wr v = nI r) : st v = 2 ∧ (wm v = 1 ∨ wm v = 2) := by
  cases h v hv with
  | inl h1 =>
    obtain ⟨r', _, _, h2⟩ := h1.2
    exact ⟨h1.1, h2⟩
  | inr h1 =>
    rw [hw] at h1
    exact absurd h1.2.1 (ux_ne1 hr)
theorem hb_set {R T : Nat} {he : Nat → Int32} (h : hb_B R T he) {v r : Nat} (hr : r < R) (hR : R ≤ 16) {m : Int32} (hm : m = 1 ∨ m = 2) : hb_B R T (upd he (v * 16 + r) m) := by
  intro t ht r' hr'
  by_cases e : t * 16 + r' = v * 16 + r
  · rw [ux_e e]
    exact Or.inr ⟨by omega, hm⟩
  · rw [pk_un e]
    exact h t ht r' hr'
/-- the cells b .. b + k - 1 emptied -/
def dz_f (he : Nat → Int32) (b k : Nat) : Nat → Int32 := fun j => if b ≤ j ∧ j < b + k then 0 else he j
theorem dz_1 {he : Nat → Int32} {b k j : Nat} (h1 : b ≤ j) (h2 : j < b + k) : dz_f he b k j = 0 := if_pos ⟨h1, h2⟩
theorem dz_0 {he : Nat → Int32} {b k j : Nat} (h : ¬ (b ≤ j ∧ j < b + k)) : dz_f he b k j = he j := if_neg h
theorem dz_z (he : Nat → Int32) (b : Nat) : dz_f he b 0 = he := by
  funext j
  exact dz_0 (by omega)
theorem dz_s (he : Nat → Int32) (b k : Nat) : upd (dz_f he b k) (b + k) 0 = dz_f he b (k + 1) := by
  funext j
  by_cases e : j = b + k
  · rw [ux_e e, dz_1 (by omega) (by omega)]
  · rw [pk_un e]
    by_cases h : b ≤ j ∧ j < b + k
    · rw [dz_1 h.1 h.2, dz_1 (by omega) (by omega)]
    · rw [dz_0 h, dz_0 (by omega)]
theorem dz_R {R T : Nat} {he : Nat → Int32} (h : hb_B R T he) (hR : R ≤ 16) {v : Nat} (hv : v < T) : dz_f he (v * 16) R = dz_f he (v * 16) 16 := by
  funext j
  by_cases h1 : v * 16 ≤ j ∧ j < v * 16 + R
  · rw [dz_1 h1.1 h1.2, dz_1 (by omega) (by omega)]
  · rw [dz_0 h1]
    by_cases h2 : v * 16 ≤ j ∧ j < v * 16 + 16
    · rw [dz_1 h2.1 h2.2]
      obtain ⟨r, hr⟩ : ∃ r, j = v * 16 + r := ⟨j - v * 16, by omega⟩
      subst hr
      cases h v hv r (by omega) with
      | inl h3 => exact h3
      | inr h3 => omega
    · rw [dz_0 h2]
theorem hb_drop {R T : Nat} {he : Nat → Int32} (h : hb_B R T he) (b : Nat) : hb_B R T (dz_f he b 16) := by
  intro t ht r hr
  by_cases h1 : b ≤ t * 16 + r ∧ t * 16 + r < b + 16
  · exact Or.inl (dz_1 h1.1 h1.2)
  · rw [dz_0 h1]
    exact h t ht r hr
theorem cq_rem {R T : Nat} {tk : Nat → Nat} {wr qu qs : Nat → Int32} (h : cq_C R T tk wr qu qs) (hB : rt_B R T) {r n p : Nat} {q : Nat → Nat} (hr : r < R) (hq : ∀ i, i < n → qu (r * 8 + i) = nI (q i)) (hQ : qq_R T r n wr tk q) (hp : p < n) : cq_C R T tk (upd wr (q p) (-1)) (sh_f qu (r * 8) p (n - 1)) (upd qs r (nI (n - 1))) := by
  obtain ⟨hB1, hB2, hB3, hB4⟩ := hB
  have hn := qq_le hQ
  intro r' hr'
  by_cases e : r' = r
  · subst e
    refine ⟨n - 1, fun i => if i < p then q i else q (i + 1), pk_us, ?_, qq_rem hQ (by omega) hp⟩
    intro i hi
    by_cases h1 : i < p
    · simp only [if_pos h1]
      rw [sh_0 (by omega)]
      exact hq i (by omega)
    · simp only [if_neg h1]
      rw [sh_1 (by omega) (by omega)]
      exact hq (i + 1) (by omega)
  · obtain ⟨n', q', h1, h2, h3⟩ := h r' hr'
    have hn' := qq_le h3
    refine ⟨n', q', ?_, ?_, ?_⟩
    · rw [pk_un e]
      exact h1
    · intro i hi
      rw [sh_0 (by omega)]
      exact h2 i hi
    · refine qq_oth h3 ?_ (ux_ne1 (by omega)).symm
      rw [(hQ.1 p hp).2]
      exact ux_ne (fun z => e z.symm) (by omega) (by omega)
theorem cq_add {R T : Nat} {tk : Nat → Nat} {wr qu qs : Nat → Int32} (h : cq_C R T tk wr qu qs) (hB : rt_B R T) {r n v nt : Nat} {q : Nat → Nat} (hr : r < R) (hq : ∀ i, i < n → qu (r * 8 + i) = nI (q i)) (hQ : qq_R T r n wr tk q) (hv : v < T) (hw : wr v = -1) (ht : td_D T nt tk wr) : cq_C R T (qq_t tk v nt) (upd wr v (nI r)) (upd qu (r * 8 + n) (nI v)) (upd qs r (nI (n + 1))) := by
  obtain ⟨hB1, hB2, hB3, hB4⟩ := hB
  have hne : ∀ r, r < R → wr v ≠ nI r := fun r hr => by rw [hw]; exact (ux_ne1 (by omega)).symm
  have hn := qq_lt hQ hv (hne r hr)
  intro r' hr'
  by_cases e : r' = r
  · subst e
    refine ⟨n + 1, fun i => if i < n then q i else v, pk_us, ?_, qq_add hQ hv (hne r' hr) (fun i hi => ht (q i) (hQ.1 i hi).1 (by rw [(hQ.1 i hi).2]; exact ux_ne1 (by omega)))⟩
    intro i hi
    by_cases h1 : i < n
    · simp only [if_pos h1]
      rw [pk_un (by omega)]
      exact hq i h1
    · simp only [if_neg h1]
      exact ux_e (by omega)
  · obtain ⟨n', q', h1, h2, h3⟩ := h r' hr'
    have hn' := qq_le h3
    refine ⟨n', q', ?_, ?_, ?_⟩
    · rw [pk_un e]
      exact h1
    · intro i hi
      rw [pk_un (by omega)]
      exact h2 i hi
    · refine qq_oth (qq_tk h3 (hne r' hr')) (hne r' hr') ?_
      exact ux_ne (fun z => e z.symm) (by omega) (by omega)
theorem aw_add {R T : Nat} {st wr wm : Nat → Int32} (h : aw_A R T st wr wm) {v r : Nat} {m : Int32} (hr : r < R) (hm : m = 1 ∨ m = 2) : aw_A R T (upd st v 2) (upd wr v (nI r)) (upd wm v m) := by
  intro t ht
  by_cases e : t = v
  · rw [ux_e e, ux_e e, ux_e e]
    exact Or.inl ⟨rfl, r, hr, rfl, hm⟩
  · rw [pk_un e, pk_un e, pk_un e]
    exact h t ht
/-- the position of a waiting one -/
theorem cq_pos {R T : Nat} {tk : Nat → Nat} {wr qu qs : Nat → Int32} (h : cq_C R T tk wr qu qs) {r v : Nat} (hr : r < R) (hv : v < T) (hw : wr v = nI r) : ∃ (n p : Nat) (q : Nat → Nat), qs r = nI n ∧ (∀ i, i < n → qu (r * 8 + i) = nI (q i)) ∧ qq_R T r n wr tk q ∧ p < n ∧ q p = v := by
  obtain ⟨n, q, h1, h2, h3⟩ := h r hr
  obtain ⟨p, h4, h5⟩ := h3.2.1 v hv hw
  exact ⟨n, p, q, h1, h2, h3, h4, h5⟩
/-! conflicts -/
def cf_b (m h : Int32) : Prop := (m = 1 ∧ h = 2) ∨ (m = 2 ∧ h ≠ 0)
def cf_C (T t r : Nat) (m : Int32) (he : Nat → Int32) : Prop := ∃ u, u < T ∧ u ≠ t ∧ cf_b m (he (u * 16 + r))
/-- u stands in t's way for mode m on row r -/
def bl_B (t r : Nat) (m : Int32) (he wr : Nat → Int32) (u : Nat) : Prop := u ≠ t ∧ (cf_b m (he (u * 16 + r)) ∨ wr u = nI r)
def bl_E (T t r : Nat) (m : Int32) (he wr : Nat → Int32) : Prop := ∃ u, u < T ∧ bl_B t r m he wr u
theorem bl_iff {T t r n : Nat} {m : Int32} {he wr : Nat → Int32} {tk q : Nat → Nat} (hQ : qq_R T r n wr tk q) (ht : wr t ≠ nI r) : bl_E T t r m he wr ↔ (cf_C T t r m he ∨ n ≠ 0) := by
  constructor
  · intro ⟨u, h1, h2, h3⟩
    cases h3 with
    | inl h4 => exact Or.inl ⟨u, h1, h2, h4⟩
    | inr h4 =>
      obtain ⟨i, hi, _⟩ := hQ.2.1 u h1 h4
      exact Or.inr (by omega)
  · intro h
    cases h with
    | inl h1 =>
      obtain ⟨u, h2, h3, h4⟩ := h1
      exact ⟨u, h2, h3, Or.inl h4⟩
    | inr h1 =>
      have h2 := hQ.1 0 (by omega)
      refine ⟨q 0, h2.1, ?_, Or.inr h2.2⟩
      intro e
      rw [e] at h2
      exact ht h2.2

/-! whole steps of the invariant -/
theorem hv_grant {R T N : Nat} {tk : Nat → Nat} {st wr wm he qu qs : Nat → Int32} (h : hv_I R T N tk st wr wm he qu qs) (hB : rt_B R T) {r n : Nat} {q : Nat → Nat} (hr : r < R) (hq : ∀ i, i < n + 1 → qu (r * 8 + i) = nI (q i)) (hQ : qq_R T r (n + 1) wr tk q) : hv_I R T N tk (upd st (q 0) 1) (upd wr (q 0) (-1)) (upd wm (q 0) 0) (upd he (q 0 * 16 + r) (wm (q 0))) (sh_f qu (r * 8) 0 n) (upd qs r (nI n)) := by
  have h0 := hQ.1 0 (by omega)
  have hb := hB
  obtain ⟨hB1, hB2, hB3, hB4⟩ := hb
  have h1 := aw_q h.1 h0.1 (by omega) h0.2
  exact ⟨aw_set h.1 _ (by decide), hb_set h.2.1 hr hB2 h1.2, cq_rem h.2.2.1 hB hr hq hQ (by omega), td_rem h.2.2.2 _⟩
theorem hv_ab1 {R T N : Nat} {tk : Nat → Nat} {st wr wm he qu qs : Nat → Int32} (h : hv_I R T N tk st wr wm he qu qs) (hB : rt_B R T) {r n p : Nat} {q : Nat → Nat} (hr : r < R) (hq : ∀ i, i < n → qu (r * 8 + i) = nI (q i)) (hQ : qq_R T r n wr tk q) (hp : p < n) : hv_I R T N tk (upd st (q p) 3) (upd wr (q p) (-1)) (upd wm (q p) 0) (dz_f he (q p * 16) 16) (sh_f qu (r * 8) p (n - 1)) (upd qs r (nI (n - 1))) :=
  ⟨aw_set h.1 _ (by decide), hb_drop h.2.1 _, cq_rem h.2.2.1 hB hr hq hQ hp, td_rem h.2.2.2 _⟩
theorem hv_ab0 {R T N : Nat} {tk : Nat → Nat} {st wr wm he qu qs : Nat → Int32} (h : hv_I R T N tk st wr wm he qu qs) {v : Nat} (hv : v < T) (hs : st v ≠ 2) {s : Int32} (hs' : s ≠ 2) : hv_I R T N tk (upd st v s) wr wm (dz_f he (v * 16) 16) qu qs :=
  ⟨aw_nw h.1 hv hs hs', hb_drop h.2.1 _, h.2.2⟩
theorem hv_st {R T N : Nat} {tk : Nat → Nat} {st wr wm he qu qs : Nat → Int32} (h : hv_I R T N tk st wr wm he qu qs) {v : Nat} (hv : v < T) (hs : st v ≠ 2) {s : Int32} (hs' : s ≠ 2) : hv_I R T N tk (upd st v s) wr wm he qu qs :=
  ⟨aw_nw h.1 hv hs hs', h.2⟩
theorem hv_he {R T N : Nat} {tk : Nat → Nat} {st wr wm he qu qs : Nat → Int32} (h : hv_I R T N tk st wr wm he qu qs) (hB : rt_B R T) {v r : Nat} (hr : r < R) {m : Int32} (hm : m = 1 ∨ m = 2) : hv_I R T N tk st wr wm (upd he (v * 16 + r) m) qu qs :=
  ⟨h.1, hb_set h.2.1 hr hB.2.1 hm, h.2.2⟩
theorem hv_join {R T N : Nat} {tk : Nat → Nat} {st wr wm he qu qs : Nat → Int32} (h : hv_I R T N tk st wr wm he qu qs) (hB : rt_B R T) {r n v : Nat} {q : Nat → Nat} {m : Int32} (hr : r < R) (hm : m = 1 ∨ m = 2) (hq : ∀ i, i < n → qu (r * 8 + i) = nI (q i)) (hQ : qq_R T r n wr tk q) (hv : v < T) (hs : st v ≠ 2) : hv_I R T (N + 1) (qq_t tk v N) (upd st v 2) (upd wr v (nI r)) (upd wm v m) he (upd qu (r * 8 + n) (nI v)) (upd qs r (nI (n + 1))) :=
  ⟨aw_add h.1 hr hm, h.2.1, cq_add h.2.2.1 hB hr hq hQ hv (aw_w1 h.1 hv hs).1 h.2.2.2, td_add h.2.2.2 v _⟩
/-! modes -/
def cf_w (m : Int32) : Int32 := if m = 1 then 2 else 1
theorem cf_bar {m h : Int32} (hm : m = 1 ∨ m = 2) (hh : h = 0 ∨ h = 1 ∨ h = 2) : h < cf_w m ↔ ¬ cf_b m h := by
  cases hm with
  | inl e =>
    subst e
    have e1 : cf_w 1 = 2 := if_pos rfl
    rw [e1]
    cases hh with
    | inl e => subst e; exact ⟨fun _ z => by cases z with | inl z => exact absurd z.2 (by decide) | inr z => exact absurd z.1 (by decide), fun _ => by decide⟩
    | inr hh => cases hh with
      | inl e => subst e; exact ⟨fun _ z => by cases z with | inl z => exact absurd z.2 (by decide) | inr z => exact absurd z.1 (by decide), fun _ => by decide⟩
      | inr e => subst e; exact ⟨fun z => absurd z (by decide), fun z => absurd (Or.inl ⟨rfl, rfl⟩) z⟩
  | inr e =>
    subst e
    have e1 : cf_w 2 = 1 := if_neg (by decide)
    rw [e1]
    cases hh with
    | inl e => subst e; exact ⟨fun _ z => by cases z with | inl z => exact absurd z.1 (by decide) | inr z => exact z.2 rfl, fun _ => by decide⟩
    | inr hh => cases hh with
      | inl e => subst e; exact ⟨fun z => absurd z (by decide), fun z => absurd (Or.inr ⟨rfl, by decide⟩) z⟩
      | inr e => subst e; exact ⟨fun z => absurd z (by decide), fun z => absurd (Or.inr ⟨rfl, by decide⟩) z⟩
theorem cf_1 {h : Int32} : cf_b 1 h ↔ h = 2 :=
  ⟨fun z => by cases z with | inl z => exact z.2 | inr z => exact absurd z.1 (by decide), fun z => Or.inl ⟨rfl, z⟩⟩
theorem cf_2 {h : Int32} : cf_b 2 h ↔ h ≠ 0 :=
  ⟨fun z => by cases z with | inl z => exact absurd z.1 (by decide) | inr z => exact z.2, fun z => Or.inr ⟨rfl, z⟩⟩
theorem hb_3 {R T : Nat} {he : Nat → Int32} (h : hb_B R T he) {t r : Nat} (ht : t < T) (hr : r < 16) : he (t * 16 + r) = 0 ∨ he (t * 16 + r) = 1 ∨ he (t * 16 + r) = 2 := by
  cases h t ht r hr with
  | inl z => exact Or.inl z
  | inr z => exact Or.inr z.2
/-! numbers beside 0 and 1 -/
theorem zz_le0 {a : Nat} (h : a < 2 ^ 31) : nI a ≤ 0 ↔ a = 0 := by
  rw [← nI_0, nI_leI h (by omega)]; omega
theorem zz_eq0 {a : Nat} (h : a < 2 ^ 31) : nI a = 0 ↔ a = 0 := by
  rw [← nI_0, nI_eq h (by omega)]
theorem zz_lt0 {a : Nat} (h : a < 2 ^ 31) : nI a < 0 ↔ False := by
  simp only [nI_pos h]
theorem zz_0lt {a : Nat} (h : a < 2 ^ 31) : 0 < nI a ↔ 0 < a := by
  rw [← nI_0, nI_ltI (by omega) h]
theorem zz_0le {a : Nat} (h : a < 2 ^ 31) : 0 ≤ nI a ↔ True := by
  simp only [nI_pos' h]
theorem zz_m1lt : ((-1 : Int32) < 0) ↔ True := by simp only [show (-1 : Int32) < 0 from by decide]
theorem zz_m1le : ((0 : Int32) ≤ -1) ↔ False := by simp only [show ¬ (0 : Int32) ≤ -1 from by decide]
theorem zz_em1 {a : Nat} (h : a < 2 ^ 31) : (nI a = -1) ↔ False := by
  simp only [ux_ne1 h]
theorem zz_vb0 : vp_nar .boolean 0 = 0 := by decide
theorem zz_vb1 : vp_nar .boolean 1 = 1 := by decide
theorem zz_nb0 : (narrow .boolean (.int 0) = .int 0) ↔ True := by
  exact ⟨fun _ => trivial, fun _ => rfl⟩
theorem zz_nb1 : (narrow .boolean (.int 1) = .int 1) ↔ True := by
  exact ⟨fun _ => trivial, fun _ => rfl⟩
end
section
/-! scripts, counters and undo logs -/
def mn_M (R T : Nat) (oo ln st pc ur ul : Nat → Int32) : Prop :=
  ∀ t, t < T → ∃ l p z : Nat, ln t = nI l ∧ l ≤ 8 ∧ pc t = nI p ∧ p ≤ l ∧ ul t = nI z ∧ z ≤ p ∧ (st t = 0 → p = 0) ∧ (∀ i, i < l → ∃ r, r < R ∧ oo (t * 8 + i) = nI r) ∧ (∀ i, i < z → ∃ r, r < R ∧ ur (t * 8 + i) = nI r)
theorem mn_st {R T : Nat} {oo ln st st' pc ur ul : Nat → Int32} (h : mn_M R T oo ln st pc ur ul) (hs : ∀ t, t < T → st' t = 0 → st t = 0) : mn_M R T oo ln st' pc ur ul := by
  intro t ht
  obtain ⟨l, p, z, h1, h2, h3, h4, h5, h6, h7, h8, h9⟩ := h t ht
  exact ⟨l, p, z, h1, h2, h3, h4, h5, h6, fun e => h7 (hs t ht e), h8, h9⟩
theorem mn_ab {R T : Nat} {oo ln st pc ur ul : Nat → Int32} (h : mn_M R T oo ln st pc ur ul) (v : Nat) : mn_M R T oo ln st (upd pc v 0) ur (upd ul v 0) := by
  intro t ht
  obtain ⟨l, p, z, h1, h2, h3, h4, h5, h6, h7, h8, h9⟩ := h t ht
  by_cases e : t = v
  · refine ⟨l, 0, 0, h1, h2, ?_, by omega, ?_, by omega, fun _ => rfl, h8, fun i hi => by omega⟩
    · rw [ux_e e]; rfl
    · rw [ux_e e]; rfl
  · refine ⟨l, p, z, h1, h2, ?_, h4, ?_, h6, h7, h8, h9⟩
    · rw [pk_un e]; exact h3
    · rw [pk_un e]; exact h5
theorem mn_cm {R T : Nat} {oo ln st pc ur ul : Nat → Int32} (h : mn_M R T oo ln st pc ur ul) (v : Nat) : mn_M R T oo ln st pc ur (upd ul v 0) := by
  intro t ht
  obtain ⟨l, p, z, h1, h2, h3, h4, h5, h6, h7, h8, h9⟩ := h t ht
  by_cases e : t = v
  · refine ⟨l, p, 0, h1, h2, h3, h4, ?_, by omega, h7, h8, fun i hi => by omega⟩
    rw [ux_e e]; rfl
  · refine ⟨l, p, z, h1, h2, h3, h4, ?_, h6, h7, h8, h9⟩
    rw [pk_un e]; exact h5
theorem mn_bg {R T : Nat} {oo ln st pc ur ul : Nat → Int32} (h : mn_M R T oo ln st pc ur ul) {v : Nat} (hv : v < T) (hs : st v = 0) : mn_M R T oo ln (upd st v 1) (upd pc v 0) ur ul := by
  intro t ht
  obtain ⟨l, p, z, h1, h2, h3, h4, h5, h6, h7, h8, h9⟩ := h t ht
  by_cases e : t = v
  · have h10 : p = 0 := h7 (by rw [e]; exact hs)
    refine ⟨l, 0, z, h1, h2, ?_, by omega, h5, by omega, fun _ => rfl, h8, h9⟩
    rw [ux_e e]; rfl
  · refine ⟨l, p, z, h1, h2, ?_, h4, h5, h6, ?_, h8, h9⟩
    · rw [pk_un e]; exact h3
    · rw [pk_un e]; exact h7
theorem mn_pr {R T : Nat} {oo ln st pc ur ul : Nat → Int32} (h : mn_M R T oo ln st pc ur ul) {v l p : Nat} (hl : ln v = nI l) (hp : pc v = nI p) (hpl : p < l) (hl8 : l ≤ 8) (hs : st v ≠ 0) : mn_M R T oo ln st (upd pc v (nI (p + 1))) ur ul := by
  intro t ht
  obtain ⟨l', p', z, h1, h2, h3, h4, h5, h6, h7, h8, h9⟩ := h t ht
  by_cases e : t = v
  · subst e
    have e1 : l' = l := (nI_eq (by omega) (by omega)).mp (h1.symm.trans hl)
    have e2 : p' = p := (nI_eq (by omega) (by omega)).mp (h3.symm.trans hp)
    refine ⟨l', p + 1, z, h1, h2, pk_us, by omega, h5, by omega, fun z => absurd z hs, h8, h9⟩
  · refine ⟨l', p', z, h1, h2, ?_, h4, h5, h6, h7, h8, h9⟩
    rw [pk_un e]; exact h3
theorem mn_pw {R T : Nat} {oo ln st pc ur ul : Nat → Int32} (h : mn_M R T oo ln st pc ur ul) {v l p z r : Nat} (hl : ln v = nI l) (hp : pc v = nI p) (hz : ul v = nI z) (hpl : p < l) (hl8 : l ≤ 8) (hzp : z ≤ p) (hr : r < R) (hs : st v ≠ 0) : mn_M R T oo ln st (upd pc v (nI (p + 1))) (upd ur (v * 8 + z) (nI r)) (upd ul v (nI (z + 1))) := by
  intro t ht
  obtain ⟨l', p', z', h1, h2, h3, h4, h5, h6, h7, h8, h9⟩ := h t ht
  by_cases e : t = v
  · subst e
    have e1 : l' = l := (nI_eq (by omega) (by omega)).mp (h1.symm.trans hl)
    have e2 : p' = p := (nI_eq (by omega) (by omega)).mp (h3.symm.trans hp)
    have e3 : z' = z := (nI_eq (by omega) (by omega)).mp (h5.symm.trans hz)
    refine ⟨l', p + 1, z + 1, h1, h2, pk_us, by omega, pk_us, by omega, fun z => absurd z hs, h8, ?_⟩
    intro i hi
    by_cases e4 : i = z
    · exact ⟨r, hr, ux_e (by omega)⟩
    · rw [pk_un (by omega)]
      exact h9 i (by omega)
  · refine ⟨l', p', z', h1, h2, ?_, h4, ?_, h6, h7, h8, ?_⟩
    · rw [pk_un e]; exact h3
    · rw [pk_un e]; exact h5
    · intro i hi
      rw [pk_un (by omega)]
      exact h9 i hi
theorem mn_add {R T : Nat} {oo ln st pc ur ul : Nat → Int32} (h : mn_M R T oo ln st pc ur ul) {v l r : Nat} (hl : ln v = nI l) (hl8 : l < 8) (hr : r < R) : mn_M R T (upd oo (v * 8 + l) (nI r)) (upd ln v (nI (l + 1))) st pc ur ul := by
  intro t ht
  obtain ⟨l', p', z', h1, h2, h3, h4, h5, h6, h7, h8, h9⟩ := h t ht
  by_cases e : t = v
  · subst e
    have e1 : l' = l := (nI_eq (by omega) (by omega)).mp (h1.symm.trans hl)
    refine ⟨l + 1, p', z', pk_us, by omega, h3, by omega, h5, h6, h7, ?_, h9⟩
    intro i hi
    by_cases e4 : i = l
    · exact ⟨r, hr, ux_e (by omega)⟩
    · rw [pk_un (by omega)]
      exact h8 i (by omega)
  · refine ⟨l', p', z', ?_, h2, h3, h4, h5, h6, h7, ?_, h9⟩
    · rw [pk_un e]; exact h1
    · intro i hi
      rw [pk_un (by omega)]
      exact h8 i hi
/-- the values with the undo entries b + i - 1, .., b put back -/
def un_f (ur uv : Nat → Int32) (b : Nat) : Nat → (Nat → Int32) → (Nat → Int32)
  | 0, va => va
  | i + 1, va => un_f ur uv b i (upd va (ur (b + i)).toNatClampNeg (uv (b + i)))
/-! round the table -/
theorem md_e {a T : Nat} (h : a < 2 * T) : (a < T ∧ a % T = a) ∨ (T ≤ a ∧ a % T = a - T) := by
  by_cases h1 : a < T
  · exact Or.inl ⟨h1, Nat.mod_eq_of_lt h1⟩
  · exact Or.inr ⟨by omega, by rw [Nat.mod_eq_sub_mod (by omega), Nat.mod_eq_of_lt (by omega)]⟩
theorem md_1 {c i T : Nat} (hc : c < T) (hi : i < T) (h : (c + i) % T + 1 < T) : (c + (i + 1)) % T = (c + i) % T + 1 := by
  have h1 := md_e (a := c + i) (T := T) (by omega)
  have h2 := md_e (a := c + (i + 1)) (T := T) (by omega)
  omega
theorem md_0 {c i T : Nat} (hc : c < T) (hi : i < T) (h : T ≤ (c + i) % T + 1) : (c + (i + 1)) % T = 0 := by
  have h1 := md_e (a := c + i) (T := T) (by omega)
  have h2 := md_e (a := c + (i + 1)) (T := T) (by omega)
  omega
end
section
/-! the methods that only read -/
section
variable {po nt cc cu lt lw ly : Int32} {R T N : Nat} {tk : Nat → Nat} {nx : Int64} {va ok oo oa ln st ts pc ac ab rk wr wm ur uv ul he qu qs bl ib : Nat → Int32} {tc : Nat → Int64}
theorem ci_16 {u r : Nat} (hu : u < 8) (hr : r < 16) : (nI u * 16 + nI r).toNatClampNeg = u * 16 + r := by
  rw [ix_16]; exact nI_clamp (by omega)
theorem vi_16 {u r : Nat} (hu : u < 8) (hr : r < 16) : vp_in (nI u * 16 + nI r) 128 := by
  rw [ix_16]; exact vp_in_nI (by omega) (by omega)
theorem ci_8 {u r : Nat} (hu : u < 16) (hr : r < 8) : (nI u * 8 + nI r).toNatClampNeg = u * 8 + r := by
  rw [ix_8]; exact nI_clamp (by omega)
theorem vi_8 {u r : Nat} (hu : u < 16) (hr : r < 8) : vp_in (nI u * 8 + nI r) 128 := by
  rw [ix_8]; exact vp_in_nI (by omega) (by omega)
theorem vi_8s {u r : Nat} (hu : u < 8) (hr : r < 8) : vp_in (nI u * 8 + nI r) 64 := by
  rw [ix_8]; exact vp_in_nI (by omega) (by omega)
theorem one0 : ¬ (1 : Int32) = 0 := by decide
theorem wk_X {post : Int32 → Prop} {m : Int32} (h : post (cf_w m)) : wpX_weakestConflict post m := by
  by_cases e : m = 1
  · have e1 : cf_w m = 2 := if_pos e
    rw [e1] at h
    exact br_t e h
  · have e1 : cf_w m = 1 := if_neg e
    rw [e1] at h
    exact br_f e h
theorem oh_l (hB : rt_B R T) (hh : hb_B R T he) {t r : Nat} {m : Int32} (hr : r < 16) (hm : m = 1 ∨ m = 2) (ht : t < T) {post : Int32 → Prop} (h1 : cf_C T t r m he → post 1) (h0 : ¬ cf_C T t r m he → post 0) :
    ∀ d i F, i + d = T → d < F → (∀ u, u < i → u ≠ t → ¬ cf_b m (he (u * 16 + r))) → wX_othersHold_3 post (nI t) (cf_w m) (nI r) po (nI R) (nI T) nt cc cu lt lw va ok oo oa ln st ts pc ac ab rk wr wm ur uv ul he qu qs bl F (nI i) := by
  obtain ⟨hB1, hB2, hB3, hB4⟩ := hB
  intro d
  induction d with
  | zero =>
    intro i F hi hF hu
    obtain ⟨F, rfl⟩ : ∃ G, F = G + 1 := ⟨F - 1, by omega⟩
    refine br_t (nI_le (by omega) (by omega)) (h0 ?_)
    intro ⟨u, hu1, hu2, hu3⟩
    exact hu u (by omega) hu2 hu3
  | succ d ih =>
    intro i F hi hF hu
    obtain ⟨F, rfl⟩ : ∃ G, F = G + 1 := ⟨F - 1, by omega⟩
    have hT : ¬ nI T ≤ nI i := nI_ge (by omega) (by omega)
    by_cases e : i = t
    · refine br_f hT (br_t (by rw [e]) (nm_r (nI_1 i) (ih (i + 1) F (by omega) (by omega) ?_)))
      intro u hu1 hu2
      exact hu u (by omega) hu2
    · have hne : ¬ nI i = nI t := ux_ne e (by omega) (by omega)
      have hin := vi_16 (u := i) (r := r) (by omega) hr
      have hci := ci_16 (u := i) (r := r) (by omega) hr
      have hc := cf_bar hm (hb_3 hh (t := i) (by omega) hr)
      rw [← hci] at hc
      by_cases e2 : cf_b m (he (nI i * 16 + nI r).toNatClampNeg)
      · refine br_f hT (br_f hne ⟨hin, br_f (fun z => hc.mp z e2) (h1 ⟨i, by omega, e, ?_⟩)⟩)
        rw [hci] at e2
        exact e2
      · refine br_f hT (br_f hne ⟨hin, br_t (hc.mpr e2) (nm_r (nI_1 i) (ih (i + 1) F (by omega) (by omega) ?_))⟩)
        rw [hci] at e2
        intro u hu1 hu2
        by_cases e4 : u = i
        · rw [e4]; exact e2
        · exact hu u (by omega) hu2
theorem oh_X (hB : rt_B R T) (hh : hb_B R T he) {t r : Nat} {m : Int32} (hr : r < 16) (hm : m = 1 ∨ m = 2) (ht : t < T) {post : Int32 → Prop} (h1 : cf_C T t r m he → post 1) (h0 : ¬ cf_C T t r m he → post 0) :
    wpX_othersHold post (po, nI R, nI T, nt, cc, cu, lt, lw, va, ok, oo, oa, ln, st, ts, pc, ac, ab, rk, wr, wm, ur, uv, ul, he, qu, qs, bl) (nI t) (cf_w m) (nI r) :=
  ⟨T + 1, oh_l hB hh hr hm ht h1 h0 T 0 (T + 1) (by omega) (by omega) (fun u hu => absurd hu (by omega))⟩
theorem oc_l (hB : rt_B R T) {t r : Nat} {m : Int32} (hr : r < 16) (hm : m = 1 ∨ m = 2) (ht : t < T) {post : Int32 → Prop} (h1 : cf_C T t r m he → post 1) (h0 : ¬ cf_C T t r m he → post 0) :
    ∀ d i F, i + d = T → d < F → (∀ u, u < i → u ≠ t → ¬ cf_b m (he (u * 16 + r))) → wY_othersConflict_3 post (nI t) (nI r) m po (nI R) (nI T) nx nt cc cu lt ly va ok oo oa ln st ts pc ac ab rk wr wm tc ur uv ul he ib F (nI i) := by
  obtain ⟨hB1, hB2, hB3, hB4⟩ := hB
  intro d
  induction d with
  | zero =>
    intro i F hi hF hu
    obtain ⟨F, rfl⟩ : ∃ G, F = G + 1 := ⟨F - 1, by omega⟩
    refine br_t (nI_le (by omega) (by omega)) (h0 ?_)
    intro ⟨u, hu1, hu2, hu3⟩
    exact hu u (by omega) hu2 hu3
  | succ d ih =>
    intro i F hi hF hu
    obtain ⟨F, rfl⟩ : ∃ G, F = G + 1 := ⟨F - 1, by omega⟩
    have hT : ¬ nI T ≤ nI i := nI_ge (by omega) (by omega)
    by_cases e : i = t
    · refine br_f hT (br_t (by rw [e]) (nm_r (nI_1 i) (ih (i + 1) F (by omega) (by omega) ?_)))
      intro u hu1 hu2
      exact hu u (by omega) hu2
    · have hne : ¬ nI i = nI t := ux_ne e (by omega) (by omega)
      have hin := vi_16 (u := i) (r := r) (by omega) hr
      have hci := ci_16 (u := i) (r := r) (by omega) hr
      have hgo : ¬ cf_b m (he (i * 16 + r)) → wY_othersConflict_3 post (nI t) (nI r) m po (nI R) (nI T) nx nt cc cu lt ly va ok oo oa ln st ts pc ac ab rk wr wm tc ur uv ul he ib F (nI (i + 1)) := by
        intro e2
        refine ih (i + 1) F (by omega) (by omega) ?_
        intro u hu1 hu2
        by_cases e4 : u = i
        · rw [e4]; exact e2
        · exact hu u (by omega) hu2
      have hst : cf_b m (he (i * 16 + r)) → post 1 := fun e2 => h1 ⟨i, by omega, e, e2⟩
      refine br_f hT (br_f hne ⟨hin, nm_r (congrArg he hci) ?_⟩)
      cases hm with
      | inl em =>
        subst em
        refine br_t rfl (br_c (fun z => hst (cf_1.mpr z)) (fun z => nm_r (nI_1 i) (hgo (fun y => z (cf_1.mp y)))))
      | inr em =>
        subst em
        refine br_f (by decide) (br_c (fun z => nm_r (nI_1 i) (hgo (fun y => cf_2.mp y z))) (fun z => hst (cf_2.mpr z)))
theorem oc_Y (hB : rt_B R T) {t r : Nat} {m : Int32} (hr : r < 16) (hm : m = 1 ∨ m = 2) (ht : t < T) {post : Int32 → Prop} (h1 : cf_C T t r m he → post 1) (h0 : ¬ cf_C T t r m he → post 0) :
    wpY_othersConflict post (po, nI R, nI T, nx, nt, cc, cu, lt, ly, va, ok, oo, oa, ln, st, ts, pc, ac, ab, rk, wr, wm, tc, ur, uv, ul, he, ib) (nI t) (nI r) m :=
  ⟨T + 1, oc_l hB hr hm ht h1 h0 T 0 (T + 1) (by omega) (by omega) (fun u hu => absurd hu (by omega))⟩
theorem iq_Y (hB : rt_B R T) (hA : aw_A R T st wr wm) {u r : Nat} (hu : u < T) (hr : r < R) {post : Int32 → Prop} (h1 : wr u = nI r → post 1) (h0 : wr u ≠ nI r → post 0) : wpY_inQueue post (po, nI R, nI T, nx, nt, cc, cu, lt, ly, va, ok, oo, oa, ln, st, ts, pc, ac, ab, rk, wr, wm, tc, ur, uv, ul, he, ib) (nI u) (nI r) := by
  obtain ⟨hB1, hB2, hB3, hB4⟩ := hB
  have hv : vp_in (nI u) 8 := vp_in_nI (by omega) (by omega)
  have hc : (nI u).toNatClampNeg = u := nI_clamp (by omega)
  refine ⟨hv, br_c (fun e => ⟨hv, br_c (fun e2 => h1 ?_) (fun e2 => h0 ?_)⟩) (fun e => h0 ?_)⟩
  · rw [hc] at e2; exact e2
  · rw [hc] at e2; exact e2
  · rw [hc] at e
    intro z
    exact e (aw_q hA hu (by omega) z).1
theorem wc_1 {P : Nat → Bool} {i : Nat} (h : P i = true) : wc_n P (i + 1) = wc_n P i + 1 := by
  show wc_n P i + (if P i = true then 1 else 0) = wc_n P i + 1
  rw [if_pos h]
theorem wc_0 {P : Nat → Bool} {i : Nat} (h : P i = false) : wc_n P (i + 1) = wc_n P i := by
  show wc_n P i + (if P i = true then 1 else 0) = wc_n P i
  rw [h]
  simp
theorem ql_l (hB : rt_B R T) (hA : aw_A R T st wr wm) {r : Nat} (hr : r < R) {post : Int32 → Prop} (h : post (nI (wc_n (fun u => decide (wr u = nI r)) T))) :
    ∀ d i F, i + d = T → d < F → wY_queueLength_18 post (nI r) po (nI R) (nI T) nx nt cc cu lt ly va ok oo oa ln st ts pc ac ab rk wr wm tc ur uv ul he ib F (nI (wc_n (fun u => decide (wr u = nI r)) i)) (nI i) := by
  have hb := hB
  obtain ⟨hB1, hB2, hB3, hB4⟩ := hb
  intro d
  induction d with
  | zero =>
    intro i F hi hF
    obtain ⟨F, rfl⟩ : ∃ G, F = G + 1 := ⟨F - 1, by omega⟩
    have e : i = T := by omega
    subst e
    exact br_t (nI_le (by omega) (by omega)) h
  | succ d ih =>
    intro i F hi hF
    obtain ⟨F, rfl⟩ : ∃ G, F = G + 1 := ⟨F - 1, by omega⟩
    have hT : ¬ nI T ≤ nI i := nI_ge (by omega) (by omega)
    have hg := ih (i + 1) F (by omega) (by omega)
    refine br_f hT (iq_Y hB hA (by omega) hr (fun e => br_f one0 (nm_r (nI_1 _) (nm_r (nI_1 i) ?_))) (fun e => br_t rfl (nm_r (nI_1 i) ?_)))
    · rw [wc_1 (decide_eq_true e)] at hg
      exact hg
    · rw [wc_0 (decide_eq_false e)] at hg
      exact hg
theorem ql_Y (hB : rt_B R T) (hA : aw_A R T st wr wm) {r n : Nat} {q : Nat → Nat} (hr : r < R) (hQ : qq_R T r n wr tk q) {post : Int32 → Prop} (h : post (nI n)) : wpY_queueLength post (po, nI R, nI T, nx, nt, cc, cu, lt, ly, va, ok, oo, oa, ln, st, ts, pc, ac, ab, rk, wr, wm, tc, ur, uv, ul, he, ib) (nI r) := by
  have hb := hB
  obtain ⟨hB1, hB2, hB3, hB4⟩ := hb
  rw [← qq_len hQ] at h
  exact br_f (nI_pos (by omega)) (br_t (nI_lt hr (by omega)) ⟨T + 1, ql_l hB hA hr h T 0 (T + 1) (by omega) (by omega)⟩)
/-- the tickets -/
def tb_B (T N : Nat) (tk : Nat → Nat) (tc : Nat → Int64) : Prop := N < 2 ^ 31 ∧ ∀ u, u < T → tc u = lN (tk u) ∧ tk u ≤ N
/-- u's rank in the queue of r -/
def rn_K (T r : Nat) (wr : Nat → Int32) (tk : Nat → Nat) (u : Nat) : Nat → Nat := wc_n (fun v => decide (wr v = nI r) && decide (tk v < tk u))
theorem qi_l (hB : rt_B R T) (hA : aw_A R T st wr wm) (hK : tb_B T N tk tc) {r u : Nat} (hr : r < R) (hu : u < T) {pos : Int32} {post J : Int32 → Prop} (h1 : nI (rn_K T r wr tk u T) = pos → post (nI u)) (h0 : nI (rn_K T r wr tk u T) ≠ pos → J (nI (u + 1))) :
    ∀ d i F, i + d = T → d < F → wY_queueAt_39 post J (nI r) pos (nI u) po (nI R) (nI T) nx nt cc cu lt ly va ok oo oa ln st ts pc ac ab rk wr wm tc ur uv ul he ib F (nI (rn_K T r wr tk u i)) (nI i) := by
  have hb := hB
  obtain ⟨hB1, hB2, hB3, hB4⟩ := hb
  intro d
  induction d with
  | zero =>
    intro i F hi hF
    obtain ⟨F, rfl⟩ : ∃ G, F = G + 1 := ⟨F - 1, by omega⟩
    have e : i = T := by omega
    subst e
    exact br_t (nI_le (by omega) (by omega)) (br_c h1 (fun z => nm_r (nI_1 u) (h0 z)))
  | succ d ih =>
    intro i F hi hF
    obtain ⟨F, rfl⟩ : ∃ G, F = G + 1 := ⟨F - 1, by omega⟩
    have hT : ¬ nI T ≤ nI i := nI_ge (by omega) (by omega)
    have hg := ih (i + 1) F (by omega) (by omega)
    have hvi : vp_in (nI i) 8 := vp_in_nI (by omega) (by omega)
    have hvu : vp_in (nI u) 8 := vp_in_nI (by omega) (by omega)
    have hci : tc (nI i).toNatClampNeg = lN (tk i) := by rw [nI_clamp (by omega)]; exact (hK.2 i (by omega)).1
    have hcu : tc (nI u).toNatClampNeg = lN (tk u) := by rw [nI_clamp (by omega)]; exact (hK.2 u hu).1
    have hbi := (hK.2 i (by omega)).2
    have hbu := (hK.2 u hu).2
    have hN := hK.1
    refine br_f hT (iq_Y hB hA (by omega) hr (fun e => br_f one0 ⟨hvi, hvu, br_c (fun z => nm_r (nI_1 i) ?_) (fun z => nm_r (nI_1 _) (nm_r (nI_1 i) ?_))⟩) (fun e => br_t rfl (nm_r (nI_1 i) ?_)))
    · rw [hci, hcu, pk_lLE (by omega) (by omega)] at z
      have e0 : rn_K T r wr tk u (i + 1) = rn_K T r wr tk u i := wc_0 (by
        show (decide (wr i = nI r) && decide (tk i < tk u)) = false
        rw [decide_eq_false (show ¬ tk i < tk u by omega), Bool.and_false])
      rw [e0] at hg
      exact hg
    · rw [hci, hcu, pk_lLE (by omega) (by omega)] at z
      have e0 : rn_K T r wr tk u (i + 1) = rn_K T r wr tk u i + 1 := wc_1 (by
        show (decide (wr i = nI r) && decide (tk i < tk u)) = true
        rw [decide_eq_true e, decide_eq_true (show tk i < tk u by omega)]
        rfl)
      rw [e0] at hg
      exact hg
    · have e0 : rn_K T r wr tk u (i + 1) = rn_K T r wr tk u i := wc_0 (by
        show (decide (wr i = nI r) && decide (tk i < tk u)) = false
        rw [decide_eq_false e, Bool.false_and])
      rw [e0] at hg
      exact hg
theorem qo_l (hB : rt_B R T) (hA : aw_A R T st wr wm) (hK : tb_B T N tk tc) {r : Nat} (hr : r < R) {pos : Int32} {post : Int32 → Prop} (h1 : ∀ u, u < T → wr u = nI r → nI (rn_K T r wr tk u T) = pos → post (nI u)) (h0 : (∀ u, u < T → wr u = nI r → nI (rn_K T r wr tk u T) ≠ pos) → post (-1)) :
    ∀ d i F, i + d = T → d < F → (∀ u, u < i → wr u = nI r → nI (rn_K T r wr tk u T) ≠ pos) → wY_queueAt_16 post (nI r) pos po (nI R) (nI T) nx nt cc cu lt ly va ok oo oa ln st ts pc ac ab rk wr wm tc ur uv ul he ib F (nI i) := by
  have hb := hB
  obtain ⟨hB1, hB2, hB3, hB4⟩ := hb
  intro d
  induction d with
  | zero =>
    intro i F hi hF hu
    obtain ⟨F, rfl⟩ : ∃ G, F = G + 1 := ⟨F - 1, by omega⟩
    have e : i = T := by omega
    subst e
    exact br_t (nI_le (by omega) (by omega)) (h0 hu)
  | succ d ih =>
    intro i F hi hF hu
    obtain ⟨F, rfl⟩ : ∃ G, F = G + 1 := ⟨F - 1, by omega⟩
    have hT : ¬ nI T ≤ nI i := nI_ge (by omega) (by omega)
    refine br_f hT (iq_Y hB hA (by omega) hr (fun e => br_f one0 ⟨T + 1, qi_l hB hA hK hr (by omega) (fun z => h1 i (by omega) e z) (fun z => ih (i + 1) F (by omega) (by omega) ?_) T 0 (T + 1) (by omega) (by omega)⟩) (fun e => br_t rfl (nm_r (nI_1 i) (ih (i + 1) F (by omega) (by omega) ?_))))
    · intro u hu1 hu2
      by_cases e4 : u = i
      · rw [e4]; exact z
      · exact hu u (by omega) hu2
    · intro u hu1 hu2
      by_cases e4 : u = i
      · rw [e4] at hu2; exact absurd hu2 e
      · exact hu u (by omega) hu2
theorem qa_1 (hB : rt_B R T) (hA : aw_A R T st wr wm) (hK : tb_B T N tk tc) {r n p : Nat} {q : Nat → Nat} (hr : r < R) (hQ : qq_R T r n wr tk q) (hp : p < n) {post : Int32 → Prop} (h : post (nI (q p))) : wpY_queueAt post (po, nI R, nI T, nx, nt, cc, cu, lt, ly, va, ok, oo, oa, ln, st, ts, pc, ac, ab, rk, wr, wm, tc, ur, uv, ul, he, ib) (nI r) (nI p) := by
  have hb := hB
  obtain ⟨hB1, hB2, hB3, hB4⟩ := hb
  have hn := qq_le hQ
  refine br_f (nI_pos (by omega)) (br_t (nI_lt hr (by omega)) ⟨T + 1, qo_l hB hA hK hr ?_ ?_ T 0 (T + 1) (by omega) (by omega) (fun u hu => absurd hu (by omega))⟩)
  · intro u hu hw hz
    obtain ⟨i, hi, e⟩ := hQ.2.1 u hu hw
    have hk : rn_K T r wr tk u T = i := by rw [← e]; exact qq_rank hQ hi
    rw [hk, nI_eq (by omega) (by omega)] at hz
    rw [← e, hz]
    exact h
  · intro hz
    have hk : rn_K T r wr tk (q p) T = p := qq_rank hQ hp
    exact absurd (congrArg nI hk) (hz (q p) (hQ.1 p hp).1 (hQ.1 p hp).2)
theorem qa_0 (hB : rt_B R T) (hA : aw_A R T st wr wm) (hK : tb_B T N tk tc) {r n : Nat} {q : Nat → Nat} (hr : r < R) (hQ : qq_R T r n wr tk q) {pos : Int32} (hp : ∀ p, p < n → nI p ≠ pos) {post : Int32 → Prop} (h : post (-1)) : wpY_queueAt post (po, nI R, nI T, nx, nt, cc, cu, lt, ly, va, ok, oo, oa, ln, st, ts, pc, ac, ab, rk, wr, wm, tc, ur, uv, ul, he, ib) (nI r) pos := by
  have hb := hB
  obtain ⟨hB1, hB2, hB3, hB4⟩ := hb
  refine br_f (nI_pos (by omega)) (br_t (nI_lt hr (by omega)) ⟨T + 1, qo_l hB hA hK hr ?_ (fun _ => h) T 0 (T + 1) (by omega) (by omega) (fun u hu => absurd hu (by omega))⟩)
  intro u hu hw hz
  obtain ⟨i, hi, e⟩ := hQ.2.1 u hu hw
  have hk : rn_K T r wr tk u T = i := by rw [← e]; exact qq_rank hQ hi
  rw [hk] at hz
  exact absurd hz (hp i hi)
theorem gr_Y (hB : rt_B R T) (hA : aw_A R T st wr wm) {t r n : Nat} {q : Nat → Nat} {m : Int32} (hr : r < R) (hm : m = 1 ∨ m = 2) (ht : t < T) (hQ : qq_R T r n wr tk q) (hw : wr t ≠ nI r) {post : Int32 → Prop} (h0 : bl_E T t r m he wr → post 0) (h1 : ¬ bl_E T t r m he wr → post 1) : wpY_grantable post (po, nI R, nI T, nx, nt, cc, cu, lt, ly, va, ok, oo, oa, ln, st, ts, pc, ac, ab, rk, wr, wm, tc, ur, uv, ul, he, ib) (nI t) m (nI r) := by
  have hb := hB
  obtain ⟨hB1, hB2, hB3, hB4⟩ := hb
  have hn := qq_le hQ
  have hi := bl_iff (m := m) (he := he) hQ hw
  refine oc_Y hB (by omega) hm ht (fun z => br_f one0 (h0 (hi.mpr (Or.inl z)))) (fun z => br_t rfl (ql_Y hB hA hr hQ ?_))
  refine br_c (fun e => h1 ?_) (fun e => h0 ?_)
  · rw [zz_eq0 (by omega)] at e
    intro y
    cases hi.mp y with
    | inl y => exact z y
    | inr y => exact y e
  · rw [zz_eq0 (by omega)] at e
    exact hi.mpr (Or.inr e)
end
end
section
/-! locks dropped, writes undone, queues left and joined -/
section
variable {po nt cc cu lt lw ly : Int32} {R T N : Nat} {tk : Nat → Nat} {nx : Int64} {va ok oo oa ln st ts pc ac ab rk wr wm ur uv ul he qu qs bl ib : Nat → Int32} {tc : Nat → Int64}
theorem s8 {f : Nat → Int32} {t : Nat} {x : Int32} (h : t < 2 ^ 31) : upd f (nI t).toNatClampNeg x = upd f t x := by rw [nI_clamp h]
theorem dl_l (hB : rt_B R T) {v : Nat} (hv : v < 8) {post : SX → Prop} (h : post (po, nI R, nI T, nt, cc, cu, lt, lw, va, ok, oo, oa, ln, st, ts, pc, ac, ab, rk, wr, wm, ur, uv, ul, dz_f he (v * 16) R, qu, qs, bl)) :
    ∀ d i F, i + d = R → d < F → wX_dropLocks_2 post (nI v) po (nI R) (nI T) nt cc cu lt lw F (nI i) va ok oo oa ln st ts pc ac ab rk wr wm ur uv ul (dz_f he (v * 16) i) qu qs bl := by
  obtain ⟨hB1, hB2, hB3, hB4⟩ := hB
  intro d
  induction d with
  | zero =>
    intro i F hi hF
    obtain ⟨F, rfl⟩ : ∃ G, F = G + 1 := ⟨F - 1, by omega⟩
    have e : i = R := by omega
    subst e
    exact br_t (nI_le (by omega) (by omega)) h
  | succ d ih =>
    intro i F hi hF
    obtain ⟨F, rfl⟩ : ∃ G, F = G + 1 := ⟨F - 1, by omega⟩
    have hT : ¬ nI R ≤ nI i := nI_ge (by omega) (by omega)
    have e : upd (dz_f he (v * 16) i) (nI v * 16 + nI i).toNatClampNeg 0 = dz_f he (v * 16) (i + 1) := by
      rw [ci_16 hv (by omega), dz_s]
    exact br_f hT ⟨vi_16 hv (by omega), nm_r e (nm_r (nI_1 i) (ih (i + 1) F (by omega) (by omega)))⟩
theorem dl_X (hB : rt_B R T) {v : Nat} (hv : v < 8) {post : SX → Prop} (h : post (po, nI R, nI T, nt, cc, cu, lt, lw, va, ok, oo, oa, ln, st, ts, pc, ac, ab, rk, wr, wm, ur, uv, ul, dz_f he (v * 16) R, qu, qs, bl)) : wpX_dropLocks post (po, nI R, nI T, nt, cc, cu, lt, lw, va, ok, oo, oa, ln, st, ts, pc, ac, ab, rk, wr, wm, ur, uv, ul, he, qu, qs, bl) (nI v) := by
  refine ⟨R + 1, ?_⟩
  have h1 := dl_l hB hv h R 0 (R + 1) (by omega) (by omega)
  rw [dz_z] at h1
  exact h1
theorem uw_l {v : Nat} (hv : v < 8) (hR : R ≤ 16) {post : SX → Prop} :
    ∀ i F (va : Nat → Int32), i ≤ 8 → i < F → (∀ j, j < i → ∃ r, r < R ∧ ur (v * 8 + j) = nI r) → post (po, nI R, nI T, nt, cc, cu, lt, lw, un_f ur uv (v * 8) i va, ok, oo, oa, ln, st, ts, pc, ac, ab, rk, wr, wm, ur, uv, upd ul v 0, he, qu, qs, bl) → wX_undoWrites_9 post (nI v) po (nI R) (nI T) nt cc cu lt lw F (nI i - 1) va ok oo oa ln st ts pc ac ab rk wr wm ur uv ul he qu qs bl := by
  intro i
  induction i with
  | zero =>
    intro F va h8 hF _ h
    obtain ⟨F, rfl⟩ : ∃ G, F = G + 1 := ⟨F - 1, by omega⟩
    exact br_t (by decide) ⟨vp_in_nI (by omega) (by omega), nm_r (s8 (by omega)) h⟩
  | succ i ih =>
    intro F va h8 hF hu h
    obtain ⟨F, rfl⟩ : ∃ G, F = G + 1 := ⟨F - 1, by omega⟩
    rw [nI_pred]
    obtain ⟨r, hr, er⟩ := hu i (by omega)
    have hc : (nI (v * 8 + i)).toNatClampNeg = v * 8 + i := nI_clamp (by omega)
    have hin : vp_in (nI (v * 8 + i)) 64 := vp_in_nI (by omega) (by omega)
    have hin2 : vp_in (ur (nI (v * 8 + i)).toNatClampNeg) 16 := by
      rw [hc, er]
      exact vp_in_nI (by omega) (by omega)
    have e : upd va (ur (nI (v * 8 + i)).toNatClampNeg).toNatClampNeg (uv (nI (v * 8 + i)).toNatClampNeg) = upd va (ur (v * 8 + i)).toNatClampNeg (uv (v * 8 + i)) := by rw [hc]
    refine br_f (nI_pos (by omega)) (nm_r (ix_8 v i) ⟨hin, hin, hin2, nm_r e (nm_r (Int32.sub_eq_add_neg (nI i) 1).symm ?_)⟩)
    exact ih F _ (by omega) (by omega) (fun j hj => hu j (by omega)) h
theorem uw_X {v z : Nat} (hv : v < 8) (hR : R ≤ 16) (hz : ul v = nI z) (hz8 : z ≤ 8) (hu : ∀ j, j < z → ∃ r, r < R ∧ ur (v * 8 + j) = nI r) {post : SX → Prop} (h : post (po, nI R, nI T, nt, cc, cu, lt, lw, un_f ur uv (v * 8) z va, ok, oo, oa, ln, st, ts, pc, ac, ab, rk, wr, wm, ur, uv, upd ul v 0, he, qu, qs, bl)) : wpX_undoWrites post (po, nI R, nI T, nt, cc, cu, lt, lw, va, ok, oo, oa, ln, st, ts, pc, ac, ab, rk, wr, wm, ur, uv, ul, he, qu, qs, bl) (nI v) := by
  have e : ul (nI v).toNatClampNeg - 1 = nI z - 1 := by rw [nI_clamp (by omega), hz]
  exact ⟨vp_in_nI (by omega) (by omega), nm_r e ⟨z + 1, uw_l hv hR z (z + 1) va hz8 (by omega) hu h⟩⟩
theorem lq_l (hB : rt_B R T) {v r n p : Nat} {q : Nat → Nat} (hv : v < T) (hr : r < R) (hq : ∀ i, i < n → qu (r * 8 + i) = nI (q i)) (hQ : qq_R T r n wr tk q) (hp : p < n) (hpv : q p = v) {post : SX → Prop}
    (h : post (po, nI R, nI T, nt, cc, cu, lt, lw, va, ok, oo, oa, ln, st, ts, pc, ac, ab, rk, upd wr v (-1), upd wm v 0, ur, uv, ul, he, sh_f qu (r * 8) p (n - 1), upd qs r (nI (n - 1)), bl)) :
    ∀ d i F kp, i + d = n → d < F → kp = (if i ≤ p then i else i - 1) → wX_leaveQueue_26 post (nI v) (nI r) (nI (r * 8)) (nI n) po (nI R) (nI T) nt cc cu lt lw F (nI kp) (nI i) va ok oo oa ln st ts pc ac ab rk wr wm ur uv ul he (sh_f qu (r * 8) p (i - 1)) qs bl := by
  obtain ⟨hB1, hB2, hB3, hB4⟩ := hB
  have hn := qq_le hQ
  intro d
  induction d with
  | zero =>
    intro i F kp hi hF hk
    obtain ⟨F, rfl⟩ : ∃ G, F = G + 1 := ⟨F - 1, by omega⟩
    have e : i = n := by omega
    subst e
    have ek : kp = i - 1 := by rw [hk, if_neg (by omega)]
    rw [ek]
    exact br_t (nI_le (by omega) (by omega)) ⟨vp_in_nI (by omega) (by omega), nm_r (s8 (by omega)) ⟨vp_in_nI (by omega) (by omega), nm_r (s8 (by omega)) ⟨vp_in_nI (by omega) (by omega), nm_r (s8 (by omega)) h⟩⟩⟩
  | succ d ih =>
    intro i F kp hi hF hk
    obtain ⟨F, rfl⟩ : ∃ G, F = G + 1 := ⟨F - 1, by omega⟩
    have hT : ¬ nI n ≤ nI i := nI_ge (by omega) (by omega)
    have hin : vp_in (nI (r * 8) + nI i) 128 := by rw [nI_add]; exact vp_in_nI (by omega) (by omega)
    have ev : sh_f qu (r * 8) p (i - 1) (nI (r * 8) + nI i).toNatClampNeg = nI (q i) := by
      rw [nI_add, nI_clamp (by omega), sh_0 (by omega)]
      exact hq i (by omega)
    have hqi := (hQ.1 i (by omega)).1
    refine br_f hT ⟨hin, nm_r ev ?_⟩
    by_cases e : i = p
    · have ee : nI (q i) = nI v := by rw [e, hpv]
      refine br_t ee (nm_r (nI_1 i) ?_)
      have h1 := ih (i + 1) F kp (by omega) (by omega) (by rw [hk, if_pos (by omega), if_neg (by omega)]; omega)
      rw [sh_e (by omega)] at h1
      rw [sh_e (by omega)]
      exact h1
    · have hne : q i ≠ v := by
        rw [← hpv]
        by_cases h1 : i < p
        · exact qq_inj hQ i p h1 hp
        · exact fun z => qq_inj hQ p i (by omega) (by omega) z.symm
      have ee : ¬ nI (q i) = nI v := ux_ne hne (by omega) (by omega)
      by_cases h1 : i < p
      · have ek : kp = i := by rw [hk, if_pos (by omega)]
        subst ek
        have eu : upd (sh_f qu (r * 8) p (kp - 1)) (nI (r * 8) + nI kp).toNatClampNeg (nI (q kp)) = sh_f qu (r * 8) p (kp + 1 - 1) := by
          rw [sh_e (by omega), sh_e (by omega), nI_add, nI_clamp (by omega)]
          exact ux_id (hq kp (by omega))
        exact br_f ee ⟨hin, nm_r eu (nm_r (nI_1 kp) (nm_r (nI_1 kp) (ih (kp + 1) F (kp + 1) (by omega) (by omega) (by rw [if_pos (by omega)]))))⟩
      · have ek : kp = i - 1 := by rw [hk, if_neg (by omega)]
        have hin2 : vp_in (nI (r * 8) + nI kp) 128 := by rw [nI_add]; exact vp_in_nI (by omega) (by omega)
        have eu : upd (sh_f qu (r * 8) p (i - 1)) (nI (r * 8) + nI kp).toNatClampNeg (nI (q i)) = sh_f qu (r * 8) p (i + 1 - 1) := by
          rw [nI_add, nI_clamp (by omega), ek, ← hq i (by omega)]
          have e1 : r * 8 + i = r * 8 + (i - 1) + 1 := by omega
          have e2 : i + 1 - 1 = i - 1 + 1 := by omega
          rw [e1, e2]
          exact sh_s (by omega)
        exact br_f ee ⟨hin2, nm_r eu (nm_r (nI_1 kp) (nm_r (nI_1 i) (ih (i + 1) F (kp + 1) (by omega) (by omega) (by rw [if_neg (by omega)]; omega))))⟩
theorem lq_X (hB : rt_B R T) {v r n p : Nat} {q : Nat → Nat} (hv : v < T) (hr : r < R) (hw : wr v = nI r) (hs : qs r = nI n) (hq : ∀ i, i < n → qu (r * 8 + i) = nI (q i)) (hQ : qq_R T r n wr tk q) (hp : p < n) (hpv : q p = v) {post : SX → Prop}
    (h : post (po, nI R, nI T, nt, cc, cu, lt, lw, va, ok, oo, oa, ln, st, ts, pc, ac, ab, rk, upd wr v (-1), upd wm v 0, ur, uv, ul, he, sh_f qu (r * 8) p (n - 1), upd qs r (nI (n - 1)), bl)) : wpX_leaveQueue post (po, nI R, nI T, nt, cc, cu, lt, lw, va, ok, oo, oa, ln, st, ts, pc, ac, ab, rk, wr, wm, ur, uv, ul, he, qu, qs, bl) (nI v) := by
  have hb := hB
  obtain ⟨hB1, hB2, hB3, hB4⟩ := hb
  have ew : wr (nI v).toNatClampNeg = nI r := by rw [nI_clamp (by omega)]; exact hw
  have es : qs (nI r).toNatClampNeg = nI n := by rw [nI_clamp (by omega)]; exact hs
  have h1 := lq_l hB hv hr hq hQ hp hpv h n 0 (n + 1) 0 (by omega) (by omega) (by rw [if_pos (by omega)])
  rw [sh_e (by omega)] at h1
  exact ⟨vp_in_nI (by omega) (by omega), nm_r ew (nm_r (ix_8z r) ⟨vp_in_nI (by omega) (by omega), nm_r es ⟨n + 1, h1⟩⟩)⟩
theorem jq_X (hB : rt_B R T) {v r n : Nat} {m : Int32} (hv : v < T) (hr : r < R) (hs : qs r = nI n) (hn : n < 8) {post : SX → Prop}
    (h : post (po, nI R, nI T, nt, cc, cu, lt, lw, va, ok, oo, oa, ln, upd st v 2, ts, pc, ac, ab, rk, upd wr v (nI r), upd wm v m, ur, uv, ul, he, upd qu (r * 8 + n) (nI v), upd qs r (nI (n + 1)), bl)) : wpX_joinQueue post (po, nI R, nI T, nt, cc, cu, lt, lw, va, ok, oo, oa, ln, st, ts, pc, ac, ab, rk, wr, wm, ur, uv, ul, he, qu, qs, bl) (nI v) m (nI r) := by
  obtain ⟨hB1, hB2, hB3, hB4⟩ := hB
  have hcr : (nI r).toNatClampNeg = r := nI_clamp (by omega)
  have es : qs (nI r).toNatClampNeg = nI n := by rw [hcr]; exact hs
  have h16 : vp_in (nI r) 16 := vp_in_nI (by omega) (by omega)
  have h8 : vp_in (nI v) 8 := vp_in_nI (by omega) (by omega)
  have hin : vp_in (nI r * 8 + qs (nI r).toNatClampNeg) 128 := by rw [es]; exact vi_8 (by omega) hn
  have e1 : upd qu (nI r * 8 + qs (nI r).toNatClampNeg).toNatClampNeg (nI v) = upd qu (r * 8 + n) (nI v) := by
    rw [es, ci_8 (by omega) hn]
  have e2 : upd qs (nI r).toNatClampNeg (qs (nI r).toNatClampNeg + 1) = upd qs r (nI (n + 1)) := by
    rw [es, nI_1, hcr]
  exact ⟨h16, hin, nm_r e1 ⟨h16, h16, nm_r e2 ⟨h8, nm_r (s8 (by omega)) ⟨h8, nm_r (s8 (by omega)) ⟨h8, nm_r (s8 (by omega)) h⟩⟩⟩⟩⟩
theorem jq_Y {v : Nat} {r m : Int32} (hv : v < 8) (hx : nx = lN N) {post : SY → Prop}
    (h : post (po, nI R, nI T, lN (N + 1), nt, cc, cu, lt, ly, va, ok, oo, oa, ln, upd st v 2, ts, pc, ac, ab, rk, upd wr v r, upd wm v m, vp_updL tc v (lN N), ur, uv, ul, he, ib)) : wpY_joinQueue post (po, nI R, nI T, nx, nt, cc, cu, lt, ly, va, ok, oo, oa, ln, st, ts, pc, ac, ab, rk, wr, wm, tc, ur, uv, ul, he, ib) (nI v) r m := by
  have h8 : vp_in (nI v) 8 := vp_in_nI (by omega) (by omega)
  have e1 : vp_updL tc (nI v).toNatClampNeg nx = vp_updL tc v (lN N) := by rw [nI_clamp (by omega), hx]
  have e2 : nx + 1 = lN (N + 1) := by rw [hx, lN_1]
  exact ⟨h8, nm_r (s8 (by omega)) ⟨h8, nm_r (s8 (by omega)) ⟨h8, nm_r (s8 (by omega)) ⟨h8, nm_r e1 (nm_r e2 h)⟩⟩⟩⟩
end
end
section
/-! the queues handed on, in lockstep -/
section
variable {po nt cc cu lt lw ly : Int32} {R T N : Nat} {tk : Nat → Nat} {nx : Int64} {va ok oo oa ln st ts pc ac ab rk wr wm ur uv ul he qu qs bl ib : Nat → Int32} {tc : Nat → Int64}
def ho_S (T : Nat) (st st1 : Nat → Int32) : Prop := ∀ x, x < T → st1 x = st x ∨ (st x = 2 ∧ st1 x = 1)
theorem ho_t {T : Nat} {a b c : Nat → Int32} (h1 : ho_S T a b) (h2 : ho_S T b c) : ho_S T a c := by
  intro x hx
  cases h1 x hx with
  | inl e =>
    cases h2 x hx with
    | inl f => exact Or.inl (f.trans e)
    | inr f => exact Or.inr ⟨e ▸ f.1, f.2⟩
  | inr e =>
    cases h2 x hx with
    | inl f => exact Or.inr ⟨e.1, f.trans e.2⟩
    | inr f =>
      have h3 := f.1
      rw [e.2] at h3
      exact absurd h3 (by decide)
theorem ho_0 {T : Nat} {a b : Nat → Int32} (h : ho_S T a b) {x : Nat} (hx : x < T) (e : b x = 0) : a x = 0 := by
  cases h x hx with
  | inl f => rw [← f]; exact e
  | inr f =>
    rw [f.2] at e
    exact absurd e (by decide)
theorem ho_n {T : Nat} {a b : Nat → Int32} (h : ho_S T a b) {x : Nat} (hx : x < T) (e : a x ≠ 2) : b x = a x := by
  cases h x hx with
  | inl f => exact f
  | inr f => exact absurd f.1 e
set_option maxHeartbeats 1000000 in
theorem ho_l (hB : rt_B R T) (hK : tb_B T N tk tc) {r : Nat} (hr : r < R) : ∀ n i (st wr wm he qu qs : Nat → Int32), hv_I R T N tk st wr wm he qu qs → qs r = nI n → i + n ≤ T →
    ∃ st1 wr1 wm1 he1 qu1 qs1 : Nat → Int32, hv_I R T N tk st1 wr1 wm1 he1 qu1 qs1 ∧ ho_S T st st1 ∧
      (∀ (post : SX → Prop) (F : Nat), n < F → post (po, nI R, nI T, nt, cc, cu, lt, lw, va, ok, oo, oa, ln, st1, ts, pc, ac, ab, rk, wr1, wm1, ur, uv, ul, he1, qu1, qs1, bl) → wX_handOff_2 post (nI r) F (nI i) po (nI R) (nI T) nt cc cu lt lw va ok oo oa ln st ts pc ac ab rk wr wm ur uv ul he qu qs bl) ∧
      (∀ (post : SY → Prop) (F : Nat), n < F → post (po, nI R, nI T, nx, nt, cc, cu, lt, ly, va, ok, oo, oa, ln, st1, ts, pc, ac, ab, rk, wr1, wm1, tc, ur, uv, ul, he1, ib) → wY_handoff_2 post (nI r) po (nI R) (nI T) nx nt cc cu lt ly F (nI i) va ok oo oa ln st ts pc ac ab rk wr wm tc ur uv ul he ib) := by
  have hb := hB
  obtain ⟨hB1, hB2, hB3, hB4⟩ := hb
  intro n
  induction n with
  | zero =>
    intro i st wr wm he qu qs hI hs hi
    refine ⟨st, wr, wm, he, qu, qs, hI, fun x _ => Or.inl rfl, ?_, ?_⟩
    · intro post F hF h
      obtain ⟨F, rfl⟩ : ∃ G, F = G + 1 := ⟨F - 1, by omega⟩
      have es : qs (nI r).toNatClampNeg ≤ 0 := by
        rw [nI_clamp (by omega), hs]
        decide
      exact br_c (fun _ => h) (fun _ => ⟨vp_in_nI (by omega) (by omega), br_t es h⟩)
    · intro post F hF h
      obtain ⟨F, rfl⟩ : ∃ G, F = G + 1 := ⟨F - 1, by omega⟩
      obtain ⟨n', q, e1, e2, e3⟩ := hI.2.2.1 r hr
      have hn := qq_le e3
      have en : n' = 0 := (nI_eq (by omega) (by omega)).mp (e1.symm.trans hs)
      exact br_f (nI_nlt (by omega) (by omega)) (qa_0 hB hI.1 hK hr e3 (fun p hp => absurd hp (by omega)) (br_f (by decide) h))
  | succ n ih =>
    intro i st wr wm he qu qs hI hs hi
    obtain ⟨n', q, e1, e2, e3⟩ := hI.2.2.1 r hr
    have hn := qq_le e3
    have en : n' = n + 1 := (nI_eq (by omega) (by omega)).mp (e1.symm.trans hs)
    subst en
    have h0 := e3.1 0 (by omega)
    have hw := aw_q hI.1 h0.1 (by omega) h0.2
    have hTX : ¬ nI T ≤ nI i := nI_ge (by omega) (by omega)
    have hTY : ¬ nI T < nI i := nI_nlt (by omega) (by omega)
    have hr16 : vp_in (nI r) 16 := vp_in_nI (by omega) (by omega)
    have es : ¬ qs (nI r).toNatClampNeg ≤ 0 := by
      rw [nI_clamp (by omega), hs]
      exact nI_nle (by omega) (by omega)
    have hq128 : vp_in (nI r * 8) 128 := by rw [ix_8z]; exact vp_in_nI (by omega) (by omega)
    have eq0 : qu (nI r * 8).toNatClampNeg = nI (q 0) := by
      rw [ix_8z, nI_clamp (by omega)]
      exact e2 0 (by omega)
    have hq8 : vp_in (nI (q 0)) 8 := vp_in_nI (by omega) (by omega)
    have em : wm (nI (q 0)).toNatClampNeg = wm (q 0) := by rw [nI_clamp (by omega)]
    have hpos : (0 : Int32) ≤ nI (q 0) := nI_pos' (by omega)
    by_cases hc : cf_C T (q 0) r (wm (q 0)) he
    · refine ⟨st, wr, wm, he, qu, qs, hI, fun x _ => Or.inl rfl, ?_, ?_⟩
      · intro post F hF h
        obtain ⟨F, rfl⟩ : ∃ G, F = G + 1 := ⟨F - 1, by omega⟩
        exact br_f hTX ⟨hr16, br_f es ⟨hq128, nm_r eq0 ⟨hq8, nm_r em (wk_X (oh_X hB hI.2.1 (by omega) hw.2 h0.1 (fun _ => br_f one0 h) (fun z => absurd hc z)))⟩⟩⟩
      · intro post F hF h
        obtain ⟨F, rfl⟩ : ∃ G, F = G + 1 := ⟨F - 1, by omega⟩
        exact br_f hTY (qa_1 hB hI.1 hK hr e3 (p := 0) (by omega) (br_t hpos ⟨hq8, nm_r em (oc_Y hB (by omega) hw.2 h0.1 (fun _ => br_f one0 h) (fun z => absurd hc z))⟩))
    · have hI2 := hv_grant (qs := qs) hI hB hr e2 e3
      obtain ⟨st1, wr1, wm1, he1, qu1, qs1, hI1, hS1, hX, hY⟩ := ih (i + 1) _ _ _ _ _ _ hI2 pk_us (by omega)
      have eh : upd he (nI (q 0) * 16 + nI r).toNatClampNeg (wm (q 0)) = upd he (q 0 * 16 + r) (wm (q 0)) := by rw [ci_16 (by omega) (by omega)]
      refine ⟨st1, wr1, wm1, he1, qu1, qs1, hI1, ?_, ?_, ?_⟩
      · refine ho_t ?_ hS1
        intro x hx
        by_cases e : x = q 0
        · exact Or.inr ⟨by rw [e]; exact hw.1, ux_e e⟩
        · exact Or.inl (pk_un e)
      · intro post F hF h
        obtain ⟨F, rfl⟩ : ∃ G, F = G + 1 := ⟨F - 1, by omega⟩
        refine br_f hTX ⟨hr16, br_f es ⟨hq128, nm_r eq0 ⟨hq8, nm_r em (wk_X (oh_X hB hI.2.1 (by omega) hw.2 h0.1 (fun z => absurd z hc) (fun _ => br_t rfl (lq_X hB h0.1 hr h0.2 e1 e2 e3 (p := 0) (by omega) rfl ?_))))⟩⟩⟩
        exact ⟨vi_16 (by omega) (by omega), nm_r eh ⟨hq8, nm_r (s8 (by omega)) (nm_r (nI_1 i) (hX post F (by omega) h))⟩⟩
      · intro post F hF h
        obtain ⟨F, rfl⟩ : ∃ G, F = G + 1 := ⟨F - 1, by omega⟩
        refine br_f hTY (qa_1 hB hI.1 hK hr e3 (p := 0) (by omega) (br_t hpos ⟨hq8, nm_r em (oc_Y hB (by omega) hw.2 h0.1 (fun z => absurd z hc) (fun _ => br_t rfl ?_))⟩))
        exact ⟨vi_16 (by omega) (by omega), nm_r eh ⟨hq8, nm_r (s8 (by omega)) ⟨hq8, nm_r (s8 (by omega)) ⟨hq8, nm_r (s8 (by omega)) (nm_r (nI_1 i) (hY post F (by omega) h))⟩⟩⟩⟩
theorem ho_T (hB : rt_B R T) (hK : tb_B T N tk tc) {r : Nat} (hr : r < R) (hI : hv_I R T N tk st wr wm he qu qs) :
    ∃ st1 wr1 wm1 he1 qu1 qs1 : Nat → Int32, hv_I R T N tk st1 wr1 wm1 he1 qu1 qs1 ∧ ho_S T st st1 ∧
      (∀ (post : SX → Prop), post (po, nI R, nI T, nt, cc, cu, lt, lw, va, ok, oo, oa, ln, st1, ts, pc, ac, ab, rk, wr1, wm1, ur, uv, ul, he1, qu1, qs1, bl) → wpX_handOff post (po, nI R, nI T, nt, cc, cu, lt, lw, va, ok, oo, oa, ln, st, ts, pc, ac, ab, rk, wr, wm, ur, uv, ul, he, qu, qs, bl) (nI r)) ∧
      (∀ (post : SY → Prop), post (po, nI R, nI T, nx, nt, cc, cu, lt, ly, va, ok, oo, oa, ln, st1, ts, pc, ac, ab, rk, wr1, wm1, tc, ur, uv, ul, he1, ib) → wpY_handoff post (po, nI R, nI T, nx, nt, cc, cu, lt, ly, va, ok, oo, oa, ln, st, ts, pc, ac, ab, rk, wr, wm, tc, ur, uv, ul, he, ib) (nI r)) := by
  obtain ⟨n, q, e1, e2, e3⟩ := hI.2.2.1 r hr
  have hn := qq_le e3
  obtain ⟨st1, wr1, wm1, he1, qu1, qs1, hI1, hS1, hX, hY⟩ := ho_l hB hK hr n 0 st wr wm he qu qs hI e1 (by omega)
  exact ⟨st1, wr1, wm1, he1, qu1, qs1, hI1, hS1, fun post h => ⟨n + 1, hX post (n + 1) (by omega) h⟩, fun post h => ⟨n + 1, hY post (n + 1) (by omega) h⟩⟩
theorem ha_l (hB : rt_B R T) (hK : tb_B T N tk tc) : ∀ d i (st wr wm he qu qs : Nat → Int32), i + d = R → hv_I R T N tk st wr wm he qu qs →
    ∃ st1 wr1 wm1 he1 qu1 qs1 : Nat → Int32, hv_I R T N tk st1 wr1 wm1 he1 qu1 qs1 ∧ ho_S T st st1 ∧
      (∀ (post : SX → Prop) (F : Nat), d < F → post (po, nI R, nI T, nt, cc, cu, lt, lw, va, ok, oo, oa, ln, st1, ts, pc, ac, ab, rk, wr1, wm1, ur, uv, ul, he1, qu1, qs1, bl) → wX_abort_58 post F (nI i) po (nI R) (nI T) nt cc cu lt lw va ok oo oa ln st ts pc ac ab rk wr wm ur uv ul he qu qs bl) ∧
      (∀ (post : SX → Prop) (F : Nat), d < F → post (po, nI R, nI T, nt, cc, cu, lt, lw, va, ok, oo, oa, ln, st1, ts, pc, ac, ab, rk, wr1, wm1, ur, uv, ul, he1, qu1, qs1, bl) → wX_commit_41 post F (nI i) po (nI R) (nI T) nt cc cu lt lw va ok oo oa ln st ts pc ac ab rk wr wm ur uv ul he qu qs bl) ∧
      (∀ (post : SY → Prop) (F : Nat), d < F → post (po, nI R, nI T, nx, nt, cc, cu, lt, ly, va, ok, oo, oa, ln, st1, ts, pc, ac, ab, rk, wr1, wm1, tc, ur, uv, ul, he1, ib) → wY_abort_137 post F (nI i) po (nI R) (nI T) nx nt cc cu lt ly va ok oo oa ln st ts pc ac ab rk wr wm tc ur uv ul he ib) ∧
      (∀ (post : SY → Prop) (F : Nat), d < F → post (po, nI R, nI T, nx, nt, cc, cu, lt, ly, va, ok, oo, oa, ln, st1, ts, pc, ac, ab, rk, wr1, wm1, tc, ur, uv, ul, he1, ib) → wY_dropLocksAndHandoff_28 post F (nI i) po (nI R) (nI T) nx nt cc cu lt ly va ok oo oa ln st ts pc ac ab rk wr wm tc ur uv ul he ib) := by
  have hb := hB
  obtain ⟨hB1, hB2, hB3, hB4⟩ := hb
  intro d
  induction d with
  | zero =>
    intro i st wr wm he qu qs hi hI
    have hT : nI R ≤ nI i := nI_le (by omega) (by omega)
    refine ⟨st, wr, wm, he, qu, qs, hI, fun x _ => Or.inl rfl, ?_, ?_, ?_, ?_⟩
    all_goals
      intro post F hF h
      obtain ⟨F, rfl⟩ : ∃ G, F = G + 1 := ⟨F - 1, by omega⟩
      exact br_t hT h
  | succ d ih =>
    intro i st wr wm he qu qs hi hI
    have hT : ¬ nI R ≤ nI i := nI_ge (by omega) (by omega)
    obtain ⟨st2, wr2, wm2, he2, qu2, qs2, hI2, hS2, hX2, hY2⟩ := ho_T (po := po) (nt := nt) (cc := cc) (cu := cu) (lt := lt) (lw := lw) (ly := ly) (nx := nx) (va := va) (ok := ok) (oo := oo) (oa := oa) (ln := ln) (ts := ts) (pc := pc) (ac := ac) (ab := ab) (rk := rk) (ur := ur) (uv := uv) (ul := ul) (bl := bl) (ib := ib) hB hK (show i < R by omega) hI
    obtain ⟨st1, wr1, wm1, he1, qu1, qs1, hI1, hS1, h1, h2, h3, h4⟩ := ih (i + 1) st2 wr2 wm2 he2 qu2 qs2 (by omega) hI2
    refine ⟨st1, wr1, wm1, he1, qu1, qs1, hI1, ho_t hS2 hS1, ?_, ?_, ?_, ?_⟩
    · intro post F hF h
      obtain ⟨F, rfl⟩ : ∃ G, F = G + 1 := ⟨F - 1, by omega⟩
      exact br_f hT (hX2 _ (nm_r (nI_1 i) (h1 post F (by omega) h)))
    · intro post F hF h
      obtain ⟨F, rfl⟩ : ∃ G, F = G + 1 := ⟨F - 1, by omega⟩
      exact br_f hT (hX2 _ (nm_r (nI_1 i) (h2 post F (by omega) h)))
    · intro post F hF h
      obtain ⟨F, rfl⟩ : ∃ G, F = G + 1 := ⟨F - 1, by omega⟩
      exact br_f hT (hY2 _ (nm_r (nI_1 i) (h3 post F (by omega) h)))
    · intro post F hF h
      obtain ⟨F, rfl⟩ : ∃ G, F = G + 1 := ⟨F - 1, by omega⟩
      exact br_f hT (hY2 _ (nm_r (nI_1 i) (h4 post F (by omega) h)))
end
end
section
/-! aborts, commits, operations performed -/
section
variable {po nt cc cu lt lw ly : Int32} {R T N : Nat} {tk : Nat → Nat} {nx : Int64} {va ok oo oa ln st ts pc ac ab rk wr wm ur uv ul he qu qs bl ib : Nat → Int32} {tc : Nat → Int64}
theorem ab_15 (hB : rt_B R T) {v z : Nat} (hv : v < 8) (hz : ul v = nI z) (hz8 : z ≤ 8) (hu : ∀ j, j < z → ∃ r, r < R ∧ ur (v * 8 + j) = nI r) {post : SX → Prop}
    (h : ∃ F, wX_abort_58 post F 0 po (nI R) (nI T) nt cc cu lt lw (un_f ur uv (v * 8) z va) ok oo oa ln (upd st v 3) ts (upd pc v 0) (upd ac v 0) (upd ab v (ab v + 1)) rk wr wm ur uv (upd ul v 0) (dz_f he (v * 16) R) qu qs bl) : wX_abort_15 post (nI v) po (nI R) (nI T) nt cc cu lt lw va ok oo oa ln st ts pc ac ab rk wr wm ur uv ul he qu qs bl := by
  have h8 : vp_in (nI v) 8 := vp_in_nI (by omega) (by omega)
  have e : upd ab (nI v).toNatClampNeg (ab (nI v).toNatClampNeg + 1) = upd ab v (ab v + 1) := by rw [nI_clamp (by omega)]
  refine uw_X hv hB.2.1 hz hz8 hu (dl_X hB hv ?_)
  exact ⟨h8, nm_r (s8 (by omega)) ⟨h8, nm_r (s8 (by omega)) ⟨h8, nm_r (s8 (by omega)) ⟨h8, h8, nm_r e h⟩⟩⟩⟩
theorem ya_62 {v : Nat} (hv : v < 8) {post : SY → Prop}
    (h : ∃ F, wY_abort_137 post F 0 po (nI R) (nI T) nx nt cc cu lt ly va ok oo oa ln (upd st v 3) ts (upd pc v 0) (upd ac v 0) (upd ab v (ab v + 1)) rk (upd wr v (-1)) (upd wm v 0) tc ur uv ul (dz_f he (v * 16) 16) ib) :
    ∀ d i F, i + d = 16 → d < F → wY_abort_62 post (nI v) po (nI R) (nI T) nx nt cc cu lt ly F (nI i) va ok oo oa ln st ts pc ac ab rk wr wm tc ur uv ul (dz_f he (v * 16) i) ib := by
  have h8 : vp_in (nI v) 8 := vp_in_nI (by omega) (by omega)
  intro d
  induction d with
  | zero =>
    intro i F hi hF
    obtain ⟨F, rfl⟩ : ∃ G, F = G + 1 := ⟨F - 1, by omega⟩
    have e : i = 16 := by omega
    subst e
    have e : upd ab (nI v).toNatClampNeg (ab (nI v).toNatClampNeg + 1) = upd ab v (ab v + 1) := by rw [nI_clamp (by omega)]
    exact br_t (by decide) ⟨h8, nm_r (s8 (by omega)) ⟨h8, nm_r (s8 (by omega)) ⟨h8, nm_r (s8 (by omega)) ⟨h8, nm_r (s8 (by omega)) ⟨h8, nm_r (s8 (by omega)) ⟨h8, h8, nm_r e h⟩⟩⟩⟩⟩⟩
  | succ d ih =>
    intro i F hi hF
    obtain ⟨F, rfl⟩ : ∃ G, F = G + 1 := ⟨F - 1, by omega⟩
    have hT : ¬ (16 : Int32) ≤ nI i := nI_ge (b := 16) (by omega) (by omega)
    have e : upd (dz_f he (v * 16) i) (nI v * 16 + nI i).toNatClampNeg 0 = dz_f he (v * 16) (i + 1) := by
      rw [ci_16 hv (by omega), dz_s]
    exact br_f hT ⟨vi_16 hv (by omega), nm_r e (nm_r (nI_1 i) (ih (i + 1) F (by omega) (by omega)))⟩
theorem ya_16 {v : Nat} (hv : v < 8) (hR : R ≤ 16) {post : SY → Prop} :
    ∀ i F (va : Nat → Int32), i ≤ 8 → i < F → (∀ j, j < i → ∃ r, r < R ∧ ur (v * 8 + j) = nI r) → (∃ F, wY_abort_62 post (nI v) po (nI R) (nI T) nx nt cc cu lt ly F 0 (un_f ur uv (v * 8) i va) ok oo oa ln st ts pc ac ab rk wr wm tc ur uv (upd ul v 0) he ib) → wY_abort_16 post (nI v) po (nI R) (nI T) nx nt cc cu lt ly F (nI i - 1) va ok oo oa ln st ts pc ac ab rk wr wm tc ur uv ul he ib := by
  intro i
  induction i with
  | zero =>
    intro F va h8 hF _ h
    obtain ⟨F, rfl⟩ : ∃ G, F = G + 1 := ⟨F - 1, by omega⟩
    exact br_t (by decide) ⟨vp_in_nI (by omega) (by omega), nm_r (s8 (by omega)) h⟩
  | succ i ih =>
    intro F va h8 hF hu h
    obtain ⟨F, rfl⟩ : ∃ G, F = G + 1 := ⟨F - 1, by omega⟩
    rw [nI_pred]
    obtain ⟨r, hr, er⟩ := hu i (by omega)
    have hc : (nI v * 8 + nI i).toNatClampNeg = v * 8 + i := ci_8 (by omega) (by omega)
    have hin : vp_in (nI v * 8 + nI i) 64 := vi_8s (by omega) (by omega)
    have hin2 : vp_in (ur (nI v * 8 + nI i).toNatClampNeg) 16 := by
      rw [hc, er]
      exact vp_in_nI (by omega) (by omega)
    have e : upd va (ur (nI v * 8 + nI i).toNatClampNeg).toNatClampNeg (uv (nI v * 8 + nI i).toNatClampNeg) = upd va (ur (v * 8 + i)).toNatClampNeg (uv (v * 8 + i)) := by rw [hc]
    refine br_f (nI_pos (by omega)) ⟨hin, hin, hin2, nm_r e (nm_r (Int32.sub_eq_add_neg (nI i) 1).symm ?_)⟩
    exact ih F _ (by omega) (by omega) (fun j hj => hu j (by omega)) h
theorem ya_Y {v z : Nat} (hv : v < 8) (hR : R ≤ 16) (hz : ul v = nI z) (hz8 : z ≤ 8) (hu : ∀ j, j < z → ∃ r, r < R ∧ ur (v * 8 + j) = nI r) {post : SY → Prop}
    (h : ∃ F, wY_abort_137 post F 0 po (nI R) (nI T) nx nt cc cu lt ly (un_f ur uv (v * 8) z va) ok oo oa ln (upd st v 3) ts (upd pc v 0) (upd ac v 0) (upd ab v (ab v + 1)) rk (upd wr v (-1)) (upd wm v 0) tc ur uv (upd ul v 0) (dz_f he (v * 16) 16) ib) : wpY_abort post (po, nI R, nI T, nx, nt, cc, cu, lt, ly, va, ok, oo, oa, ln, st, ts, pc, ac, ab, rk, wr, wm, tc, ur, uv, ul, he, ib) (nI v) := by
  have h8 : vp_in (nI v) 8 := vp_in_nI (by omega) (by omega)
  have e : ul (nI v).toNatClampNeg - 1 = nI z - 1 := by rw [nI_clamp (by omega), hz]
  refine ⟨h8, nm_r (s8 (by omega)) ⟨h8, nm_r e ⟨z + 1, ya_16 hv hR z (z + 1) va hz8 (by omega) hu ⟨17, ?_⟩⟩⟩⟩
  rw [← ux_uu (f := wr) (k := v) (x := -1) (y := -1)] at h
  have h1 := ya_62 (he := he) hv h 16 0 17 (by omega) (by omega)
  rw [dz_z] at h1
  exact h1
theorem ab_L (hB : rt_B R T) (hK : tb_B T N tk tc) (hI : hv_I R T N tk st wr wm he qu qs) (hM : mn_M R T oo ln st pc ur ul) {v : Nat} (hv : v < T) :
    ∃ va1 st1 wr1 wm1 he1 qu1 qs1 : Nat → Int32, hv_I R T N tk st1 wr1 wm1 he1 qu1 qs1 ∧ mn_M R T oo ln st1 (upd pc v 0) ur (upd ul v 0) ∧
      (∀ x, x < T → x ≠ v → st1 x = st x ∨ (st x = 2 ∧ st1 x = 1)) ∧
      (∀ (post : SX → Prop), post (po, nI R, nI T, nt, cc, cu, lt, lw, va1, ok, oo, oa, ln, st1, ts, upd pc v 0, upd ac v 0, upd ab v (ab v + 1), rk, wr1, wm1, ur, uv, upd ul v 0, he1, qu1, qs1, bl) → wpX_abort post (po, nI R, nI T, nt, cc, cu, lt, lw, va, ok, oo, oa, ln, st, ts, pc, ac, ab, rk, wr, wm, ur, uv, ul, he, qu, qs, bl) (nI v)) ∧
      (∀ (post : SY → Prop), post (po, nI R, nI T, nx, nt, cc, cu, lt, ly, va1, ok, oo, oa, ln, st1, ts, upd pc v 0, upd ac v 0, upd ab v (ab v + 1), rk, wr1, wm1, tc, ur, uv, upd ul v 0, he1, ib) → wpY_abort post (po, nI R, nI T, nx, nt, cc, cu, lt, ly, va, ok, oo, oa, ln, st, ts, pc, ac, ab, rk, wr, wm, tc, ur, uv, ul, he, ib) (nI v)) := by
  have hb := hB
  obtain ⟨hB1, hB2, hB3, hB4⟩ := hb
  obtain ⟨l, p, z, m1, m2, m3, m4, m5, m6, m7, m8, m9⟩ := hM v hv
  have h8 : vp_in (nI v) 8 := vp_in_nI (by omega) (by omega)
  have hdz := dz_R hI.2.1 hB2 hv
  have hst : ∀ st1, ho_S T (upd st v 3) st1 → (∀ x, x < T → x ≠ v → st1 x = st x ∨ (st x = 2 ∧ st1 x = 1)) := by
    intro st1 hS x hx e
    have h1 := hS x hx
    rw [pk_un e] at h1
    exact h1
  have hm : ∀ st1, ho_S T (upd st v 3) st1 → mn_M R T oo ln st1 (upd pc v 0) ur (upd ul v 0) := by
    intro st1 hS
    refine mn_st (mn_ab hM v) ?_
    intro x hx e
    have h1 := ho_0 hS hx e
    by_cases e2 : x = v
    · rw [ux_e e2] at h1
      exact absurd h1 (by decide)
    · rw [pk_un e2] at h1
      exact h1
  by_cases hs : st v = 2
  · have es : st (nI v).toNatClampNeg = 2 := by rw [nI_clamp (by omega)]; exact hs
    obtain ⟨r, hr, hw, _⟩ := aw_w2 hI.1 hv hs
    obtain ⟨n, q0, q, c1, c2, c3, c4, c5⟩ := cq_pos hI.2.2.1 hr hv hw
    have hI2 := hv_ab1 (qs := qs) hI hB hr c2 c3 c4
    rw [c5] at hI2
    obtain ⟨st1, wr1, wm1, he1, qu1, qs1, hI1, hS1, h1, h2, h3, h4⟩ := ha_l (po := po) (nt := nt) (cc := cc) (cu := cu) (lt := lt) (lw := lw) (ly := ly) (nx := nx) (va := un_f ur uv (v * 8) z va) (ok := ok) (oo := oo) (oa := oa) (ln := ln) (ts := ts) (pc := upd pc v 0) (ac := upd ac v 0) (ab := upd ab v (ab v + 1)) (rk := rk) (ur := ur) (uv := uv) (ul := upd ul v 0) (bl := bl) (ib := ib) hB hK R 0 _ _ _ _ _ _ (by omega) hI2
    refine ⟨un_f ur uv (v * 8) z va, st1, wr1, wm1, he1, qu1, qs1, hI1, hm st1 hS1, hst st1 hS1, ?_, ?_⟩
    · intro post h
      refine ⟨h8, br_t es (lq_X hB hv hr hw c1 c2 c3 c4 c5 (ab_15 hB (by omega) m5 (by omega) m9 ⟨R + 1, ?_⟩))⟩
      rw [hdz]
      exact h1 post (R + 1) (by omega) h
    · intro post h
      exact ya_Y (by omega) hB2 m5 (by omega) m9 ⟨R + 1, h3 post (R + 1) (by omega) h⟩
  · have es : ¬ st (nI v).toNatClampNeg = 2 := by rw [nI_clamp (by omega)]; exact hs
    have hw := aw_w1 hI.1 hv hs
    have hI2 := hv_ab0 hI hv hs (s := 3) (by decide)
    obtain ⟨st1, wr1, wm1, he1, qu1, qs1, hI1, hS1, h1, h2, h3, h4⟩ := ha_l (po := po) (nt := nt) (cc := cc) (cu := cu) (lt := lt) (lw := lw) (ly := ly) (nx := nx) (va := un_f ur uv (v * 8) z va) (ok := ok) (oo := oo) (oa := oa) (ln := ln) (ts := ts) (pc := upd pc v 0) (ac := upd ac v 0) (ab := upd ab v (ab v + 1)) (rk := rk) (ur := ur) (uv := uv) (ul := upd ul v 0) (bl := bl) (ib := ib) hB hK R 0 _ _ _ _ _ _ (by omega) hI2
    refine ⟨un_f ur uv (v * 8) z va, st1, wr1, wm1, he1, qu1, qs1, hI1, hm st1 hS1, hst st1 hS1, ?_, ?_⟩
    · intro post h
      refine ⟨h8, br_f es (ab_15 hB (by omega) m5 (by omega) m9 ⟨R + 1, ?_⟩)⟩
      rw [hdz]
      exact h1 post (R + 1) (by omega) h
    · intro post h
      refine ya_Y (by omega) hB2 m5 (by omega) m9 ⟨R + 1, ?_⟩
      rw [ux_id hw.1, ux_id hw.2]
      exact h3 post (R + 1) (by omega) h
theorem yd_l {v : Nat} (hv : v < 8) {post : SY → Prop} (h : ∃ F, wY_dropLocksAndHandoff_28 post F 0 po (nI R) (nI T) nx nt cc cu lt ly va ok oo oa ln st ts pc ac ab rk wr wm tc ur uv ul (dz_f he (v * 16) 16) ib) :
    ∀ d i F, i + d = 16 → d < F → wY_dropLocksAndHandoff_2 post (nI v) po (nI R) (nI T) nx nt cc cu lt ly F (nI i) va ok oo oa ln st ts pc ac ab rk wr wm tc ur uv ul (dz_f he (v * 16) i) ib := by
  intro d
  induction d with
  | zero =>
    intro i F hi hF
    obtain ⟨F, rfl⟩ : ∃ G, F = G + 1 := ⟨F - 1, by omega⟩
    have e : i = 16 := by omega
    subst e
    exact br_t (by decide) h
  | succ d ih =>
    intro i F hi hF
    obtain ⟨F, rfl⟩ : ∃ G, F = G + 1 := ⟨F - 1, by omega⟩
    have hT : ¬ (16 : Int32) ≤ nI i := nI_ge (b := 16) (by omega) (by omega)
    have e : upd (dz_f he (v * 16) i) (nI v * 16 + nI i).toNatClampNeg 0 = dz_f he (v * 16) (i + 1) := by
      rw [ci_16 hv (by omega), dz_s]
    exact br_f hT ⟨vi_16 hv (by omega), nm_r e (nm_r (nI_1 i) (ih (i + 1) F (by omega) (by omega)))⟩
theorem yd_Y {v : Nat} (hv : v < 8) {post : SY → Prop} (h : ∃ F, wY_dropLocksAndHandoff_28 post F 0 po (nI R) (nI T) nx nt cc cu lt ly va ok oo oa ln st ts pc ac ab rk wr wm tc ur uv ul (dz_f he (v * 16) 16) ib) : wpY_dropLocksAndHandoff post (po, nI R, nI T, nx, nt, cc, cu, lt, ly, va, ok, oo, oa, ln, st, ts, pc, ac, ab, rk, wr, wm, tc, ur, uv, ul, he, ib) (nI v) := by
  have h1 := yd_l (he := he) hv h 16 0 17 (by omega) (by omega)
  rw [dz_z] at h1
  exact ⟨17, h1⟩
theorem cm_L (hB : rt_B R T) (hK : tb_B T N tk tc) (hI : hv_I R T N tk st wr wm he qu qs) (hM : mn_M R T oo ln st pc ur ul) {v : Nat} (hv : v < T) (hs : st v ≠ 2) :
    ∃ st1 wr1 wm1 he1 qu1 qs1 : Nat → Int32, hv_I R T N tk st1 wr1 wm1 he1 qu1 qs1 ∧ mn_M R T oo ln st1 pc ur (upd ul v 0) ∧
      (∀ (post : SX → Prop), post (po, nI R, nI T, nt, cc + 1, cu, lt, lw, va, ok, oo, oa, ln, st1, ts, pc, ac, ab, upd rk v (cc + 1), wr1, wm1, ur, uv, upd ul v 0, he1, qu1, qs1, bl) → wpX_commit post (po, nI R, nI T, nt, cc, cu, lt, lw, va, ok, oo, oa, ln, st, ts, pc, ac, ab, rk, wr, wm, ur, uv, ul, he, qu, qs, bl) (nI v)) ∧
      (∀ (post : SY → Prop), post (po, nI R, nI T, nx, nt, cc + 1, cu, lt, ly, va, ok, oo, oa, ln, st1, ts, pc, ac, ab, upd rk v (cc + 1), wr1, wm1, tc, ur, uv, upd ul v 0, he1, ib) → wpY_dropLocksAndHandoff post (po, nI R, nI T, nx, nt, cc + 1, cu, lt, ly, va, ok, oo, oa, ln, upd st v 4, ts, pc, ac, ab, upd rk v (cc + 1), wr, wm, tc, ur, uv, upd ul v 0, he, ib) (nI v)) := by
  have hb := hB
  obtain ⟨hB1, hB2, hB3, hB4⟩ := hb
  have h8 : vp_in (nI v) 8 := vp_in_nI (by omega) (by omega)
  have hdz := dz_R hI.2.1 hB2 hv
  have hI2 := hv_ab0 hI hv hs (s := 4) (by decide)
  obtain ⟨st1, wr1, wm1, he1, qu1, qs1, hI1, hS1, h1, h2, h3, h4⟩ := ha_l (po := po) (nt := nt) (cc := cc + 1) (cu := cu) (lt := lt) (lw := lw) (ly := ly) (nx := nx) (va := va) (ok := ok) (oo := oo) (oa := oa) (ln := ln) (ts := ts) (pc := pc) (ac := ac) (ab := ab) (rk := upd rk v (cc + 1)) (ur := ur) (uv := uv) (ul := upd ul v 0) (bl := bl) (ib := ib) hB hK R 0 _ _ _ _ _ _ (by omega) hI2
  refine ⟨st1, wr1, wm1, he1, qu1, qs1, hI1, ?_, ?_, ?_⟩
  · refine mn_st (mn_cm hM v) ?_
    intro x hx e
    have h5 := ho_0 hS1 hx e
    by_cases e2 : x = v
    · rw [ux_e e2] at h5
      exact absurd h5 (by decide)
    · rw [pk_un e2] at h5
      exact h5
  · intro post h
    refine ⟨h8, nm_r (s8 (by omega)) (nm_e ⟨h8, nm_r (s8 (by omega)) ⟨h8, nm_r (s8 (by omega)) (dl_X hB (by omega) ⟨R + 1, ?_⟩)⟩⟩)⟩
    rw [hdz]
    exact h2 post (R + 1) (by omega) h
  · intro post h
    exact yd_Y (by omega) ⟨R + 1, h4 post (R + 1) (by omega) h⟩
theorem pf_L (hB : rt_B R T) (hM : mn_M R T oo ln st pc ur ul) {v l p : Nat} (hv : v < T) (hs : st v ≠ 0) (hl : ln v = nI l) (hl8 : l ≤ 8) (hp : pc v = nI p) (hpl : p < l) :
    ∃ va1 pc1 ac1 ur1 uv1 ul1 : Nat → Int32, mn_M R T oo ln st pc1 ur1 ul1 ∧
      (∀ (post : SX → Prop), post (po, nI R, nI T, nt, cc, cu, lt, lw, va1, ok, oo, oa, ln, st, ts, pc1, ac1, ab, rk, wr, wm, ur1, uv1, ul1, he, qu, qs, bl) → wpX_perform post (po, nI R, nI T, nt, cc, cu, lt, lw, va, ok, oo, oa, ln, st, ts, pc, ac, ab, rk, wr, wm, ur, uv, ul, he, qu, qs, bl) (nI v) (nI (v * 8 + p))) ∧
      (∀ (post : SY → Prop), post (po, nI R, nI T, nx, nt, cc, cu, lt, ly, va1, ok, oo, oa, ln, st, ts, pc1, ac1, ab, rk, wr, wm, tc, ur1, uv1, ul1, he, ib) → wpY_perform post (po, nI R, nI T, nx, nt, cc, cu, lt, ly, va, ok, oo, oa, ln, st, ts, pc, ac, ab, rk, wr, wm, tc, ur, uv, ul, he, ib) (nI v)) := by
  obtain ⟨hB1, hB2, hB3, hB4⟩ := hB
  obtain ⟨l', p', z, m1, m2, m3, m4, m5, m6, m7, m8, m9⟩ := hM v hv
  have e1 : l' = l := (nI_eq (by omega) (by omega)).mp (m1.symm.trans hl)
  have e2 : p' = p := (nI_eq (by omega) (by omega)).mp (m3.symm.trans hp)
  subst e1 e2
  obtain ⟨r, hr, er⟩ := m8 p' (by omega)
  have h8 : vp_in (nI v) 8 := vp_in_nI (by omega) (by omega)
  have hcv : (nI v).toNatClampNeg = v := nI_clamp (by omega)
  have h64 : vp_in (nI (v * 8 + p')) 64 := vp_in_nI (by omega) (by omega)
  have hco : (nI (v * 8 + p')).toNatClampNeg = v * 8 + p' := nI_clamp (by omega)
  have h16 : vp_in (nI r) 16 := vp_in_nI (by omega) (by omega)
  have hcr : (nI r).toNatClampNeg = r := nI_clamp (by omega)
  have eo : oo (nI (v * 8 + p')).toNatClampNeg = nI r := by rw [hco]; exact er
  have epc : upd pc (nI v).toNatClampNeg (pc (nI v).toNatClampNeg + 1) = upd pc v (nI (p' + 1)) := by rw [hcv, m3, nI_1]
  have eop : nI v * 8 + pc (nI v).toNatClampNeg = nI (v * 8 + p') := by rw [hcv, m3, ix_8]
  by_cases hk : ok (v * 8 + p') = 1
  · have ek : ok (nI (v * 8 + p')).toNatClampNeg = 1 := by rw [hco]; exact hk
    have ea : upd ac (nI v).toNatClampNeg (ac (nI v).toNatClampNeg + va (nI r).toNatClampNeg) = upd ac v (ac v + va r) := by rw [hcv, hcr]
    refine ⟨va, upd pc v (nI (p' + 1)), upd ac v (ac v + va r), ur, uv, ul, mn_pr hM hl hp hpl hl8 hs, ?_, ?_⟩
    · intro post h
      exact ⟨h64, nm_r eo ⟨h64, br_t ek ⟨h8, h16, h8, nm_r ea ⟨h8, h8, nm_r epc h⟩⟩⟩⟩
    · intro post h
      exact ⟨h8, nm_r eop ⟨h64, nm_r eo ⟨h64, br_t ek ⟨h8, h16, h8, nm_r ea ⟨h8, h8, nm_r epc h⟩⟩⟩⟩⟩
  · have ek : ¬ ok (nI (v * 8 + p')).toNatClampNeg = 1 := by rw [hco]; exact hk
    have eul : ul (nI v).toNatClampNeg = nI z := by rw [hcv]; exact m5
    have eux : nI v * 8 + ul (nI v).toNatClampNeg = nI (v * 8 + z) := by rw [eul, ix_8]
    have hz64 : vp_in (nI (v * 8 + z)) 64 := vp_in_nI (by omega) (by omega)
    have hcz : (nI (v * 8 + z)).toNatClampNeg = v * 8 + z := nI_clamp (by omega)
    have eu : upd ul (nI v).toNatClampNeg (ul (nI v).toNatClampNeg + 1) = upd ul v (nI (z + 1)) := by rw [hcv, m5, nI_1]
    have ev : upd va (nI r).toNatClampNeg (ac (nI v).toNatClampNeg + oa (nI (v * 8 + p')).toNatClampNeg) = upd va r (ac v + oa (v * 8 + p')) := by rw [hcr, hcv, hco]
    have xr : upd ur (nI (v * 8 + z)).toNatClampNeg (nI r) = upd ur (v * 8 + z) (nI r) := by rw [hcz]
    have xv : upd uv (nI (v * 8 + z)).toNatClampNeg (va (nI r).toNatClampNeg) = upd uv (v * 8 + z) (va r) := by rw [hcz, hcr]
    refine ⟨upd va r (ac v + oa (v * 8 + p')), upd pc v (nI (p' + 1)), ac, upd ur (v * 8 + z) (nI r), upd uv (v * 8 + z) (va r), upd ul v (nI (z + 1)), mn_pw hM hl hp m5 hpl hl8 m6 hr hs, ?_, ?_⟩
    · intro post h
      exact ⟨h64, nm_r eo ⟨h64, br_f ek ⟨h8, nm_r eux ⟨hz64, nm_r xr ⟨h16, hz64, nm_r xv ⟨h8, h8, nm_r eu ⟨h8, h64, h16, nm_r ev ⟨h8, h8, nm_r epc h⟩⟩⟩⟩⟩⟩⟩⟩
    · intro post h
      have hz8 : ¬ (8 : Int32) ≤ ul (nI v).toNatClampNeg := by rw [eul]; exact nI_ge (b := 8) (by omega) (by omega)
      have yz64 : vp_in (nI v * 8 + ul (nI v).toNatClampNeg) 64 := by rw [eux]; exact hz64
      have yr : upd ur (nI v * 8 + ul (nI v).toNatClampNeg).toNatClampNeg (nI r) = upd ur (v * 8 + z) (nI r) := by rw [eux, hcz]
      have yv : upd uv (nI v * 8 + ul (nI v).toNatClampNeg).toNatClampNeg (va (nI r).toNatClampNeg) = upd uv (v * 8 + z) (va r) := by rw [eux, hcz, hcr]
      exact ⟨h8, nm_r eop ⟨h64, nm_r eo ⟨h64, br_f ek ⟨h8, br_f hz8 ⟨h8, yz64, nm_r yr ⟨h8, h16, yz64, nm_r yv ⟨h8, h8, nm_r eu ⟨h8, h64, h16, nm_r ev ⟨h8, h8, nm_r epc h⟩⟩⟩⟩⟩⟩⟩⟩⟩
end
end
section
/-! the blockers found, the age compared, the wounds, in lockstep -/
section
variable {po nt cc cu lt lw ly : Int32} {R T N : Nat} {tk : Nat → Nat} {nx : Int64} {va ok oo oa ln st ts pc ac ab rk wr wm ur uv ul he qu qs bl ib : Nat → Int32} {tc : Nat → Int64}
/-- bl says of each u below T whether B -/
def sp_S (n : Nat) (B : Nat → Prop) (bl : Nat → Int32) : Prop := ∀ u, u < n → (B u → bl u = 1) ∧ (¬ B u → bl u = 0)
theorem sp_1 {B : Nat → Prop} {bl : Nat → Int32} {i : Nat} (h : sp_S i B bl) (hb : B i) : sp_S (i + 1) B (upd bl i 1) := by
  intro u hu
  by_cases e : u = i
  · rw [ux_e e, e]
    exact ⟨fun _ => rfl, fun z => absurd hb z⟩
  · rw [pk_un e]
    exact h u (by omega)
theorem sp_0 {B : Nat → Prop} {bl : Nat → Int32} {i : Nat} (h : sp_S i B bl) (hb : ¬ B i) : sp_S (i + 1) B (upd bl i 0) := by
  intro u hu
  by_cases e : u = i
  · rw [ux_e e, e]
    exact ⟨fun z => absurd z hb, fun _ => rfl⟩
  · rw [pk_un e]
    exact h u (by omega)
theorem sb_1 {f : Nat → Int32} {i : Nat} (h : i < 8) : upd f (nI i).toNatClampNeg (vp_nar .boolean 1) = upd f i 1 := by rw [nI_clamp (by omega), zz_vb1]
theorem sb_0 {f : Nat → Int32} {i : Nat} (h : i < 8) : upd f (nI i).toNatClampNeg (vp_nar .boolean 0) = upd f i 0 := by rw [nI_clamp (by omega), zz_vb0]
theorem fb_w1 {i : Nat} (hi : i < 8) {post : Int32 → SX → Prop} {J : Int32 → Int32 → (Nat → Int32) → (Nat → Int32) → (Nat → Int32) → (Nat → Int32) → (Nat → Int32) → (Nat → Int32) → (Nat → Int32) → (Nat → Int32) → (Nat → Int32) → (Nat → Int32) → (Nat → Int32) → (Nat → Int32) → (Nat → Int32) → (Nat → Int32) → (Nat → Int32) → (Nat → Int32) → (Nat → Int32) → (Nat → Int32) → (Nat → Int32) → (Nat → Int32) → Prop} {x1 x3 x4 any : Int32}
    (h : J 1 (nI (i + 1)) va ok oo oa ln st ts pc ac ab rk wr wm ur uv ul he qu qs (upd bl i 1)) : wX_findBlockers_90 post J x1 x3 x4 any (nI i) 1 (nI i) po (nI R) (nI T) nt cc cu lt lw va ok oo oa ln st ts pc ac ab rk wr wm ur uv ul he qu qs bl := by
  have h8 : vp_in (nI i) 8 := vp_in_nI (by omega) (by omega)
  have e : ¬ upd bl i 1 (nI i).toNatClampNeg = 0 := by
    rw [nI_clamp (by omega), pk_us]
    exact one0
  exact ⟨h8, nm_r (sb_1 hi) (br_c (fun _ => ⟨h8, br_f e (nm_r (nI_1 i) h)⟩) (fun _ => nm_r (nI_1 i) h))⟩
theorem fb_w0 {i : Nat} (hi : i < 8) {post : Int32 → SX → Prop} {J : Int32 → Int32 → (Nat → Int32) → (Nat → Int32) → (Nat → Int32) → (Nat → Int32) → (Nat → Int32) → (Nat → Int32) → (Nat → Int32) → (Nat → Int32) → (Nat → Int32) → (Nat → Int32) → (Nat → Int32) → (Nat → Int32) → (Nat → Int32) → (Nat → Int32) → (Nat → Int32) → (Nat → Int32) → (Nat → Int32) → (Nat → Int32) → (Nat → Int32) → (Nat → Int32) → Prop} {x1 x3 x4 any : Int32} (ha : any = 1 ∨ any = 0)
    (h : J any (nI (i + 1)) va ok oo oa ln st ts pc ac ab rk wr wm ur uv ul he qu qs (upd bl i 0)) : wX_findBlockers_90 post J x1 x3 x4 any (nI i) 0 (nI i) po (nI R) (nI T) nt cc cu lt lw va ok oo oa ln st ts pc ac ab rk wr wm ur uv ul he qu qs bl := by
  have h8 : vp_in (nI i) 8 := vp_in_nI (by omega) (by omega)
  have e : upd bl i 0 (nI i).toNatClampNeg = 0 := by rw [nI_clamp (by omega), pk_us]
  cases ha with
  | inl a =>
    subst a
    exact ⟨h8, nm_r (sb_0 hi) (br_f one0 (nm_r (nI_1 i) h))⟩
  | inr a =>
    subst a
    exact ⟨h8, nm_r (sb_0 hi) (br_t rfl ⟨h8, br_t e (nm_r (nI_1 i) h)⟩)⟩
theorem fb_l (hB : rt_B R T) (hh : hb_B R T he) {t r : Nat} {m : Int32} (hr : r < R) (hm : m = 1 ∨ m = 2) (ht : t < T) : ∀ d i (bl : Nat → Int32), i + d = T → sp_S i (bl_B t r m he wr) bl →
    ∃ bl1, sp_S T (bl_B t r m he wr) bl1 ∧ ∀ (post : Int32 → SX → Prop) (F : Nat) (any : Int32), d < F → ((any = 1 ∧ ∃ u, u < i ∧ bl_B t r m he wr u) ∨ (any = 0 ∧ ∀ u, u < i → ¬ bl_B t r m he wr u)) →
      (bl_E T t r m he wr → post 1 (po, nI R, nI T, nt, cc, cu, lt, lw, va, ok, oo, oa, ln, st, ts, pc, ac, ab, rk, wr, wm, ur, uv, ul, he, qu, qs, bl1)) → (¬ bl_E T t r m he wr → post 0 (po, nI R, nI T, nt, cc, cu, lt, lw, va, ok, oo, oa, ln, st, ts, pc, ac, ab, rk, wr, wm, ur, uv, ul, he, qu, qs, bl1)) → wX_findBlockers_12 post (nI t) (nI r) (cf_w m) po (nI R) (nI T) nt cc cu lt lw F any (nI i) va ok oo oa ln st ts pc ac ab rk wr wm ur uv ul he qu qs bl := by
  obtain ⟨hB1, hB2, hB3, hB4⟩ := hB
  intro d
  induction d with
  | zero =>
    intro i bl hi hs
    have e : i = T := by omega
    subst e
    refine ⟨bl, hs, ?_⟩
    intro post F any hF ha h1 h0
    obtain ⟨F, rfl⟩ : ∃ G, F = G + 1 := ⟨F - 1, by omega⟩
    refine br_t (nI_le (by omega) (by omega)) ?_
    cases ha with
    | inl a =>
      obtain ⟨a, u, b, c⟩ := a
      subst a
      exact ⟨rfl, h1 ⟨u, b, c⟩⟩
    | inr a =>
      obtain ⟨a, b⟩ := a
      subst a
      exact ⟨rfl, h0 (fun ⟨u, y, z⟩ => b u y z)⟩
  | succ d ih =>
    intro i bl hi hs
    have hT : ¬ nI T ≤ nI i := nI_ge (by omega) (by omega)
    have h8 : vp_in (nI i) 8 := vp_in_nI (by omega) (by omega)
    have hc8 : (nI i).toNatClampNeg = i := nI_clamp (by omega)
    have hin := vi_16 (u := i) (r := r) (by omega) (by omega)
    have hci := ci_16 (u := i) (r := r) (by omega) (by omega)
    have hc := cf_bar hm (hb_3 hh (t := i) (r := r) (by omega) (by omega))
    rw [← hci] at hc
    by_cases hbi : bl_B t r m he wr i
    · obtain ⟨bl1, hs1, hg⟩ := ih (i + 1) (upd bl i 1) (by omega) (sp_1 hs hbi)
      refine ⟨bl1, hs1, ?_⟩
      intro post F any hF ha h1 h0
      obtain ⟨F, rfl⟩ : ∃ G, F = G + 1 := ⟨F - 1, by omega⟩
      have hJ := hg post F 1 (by omega) (Or.inl ⟨rfl, i, by omega, hbi⟩) h1 h0
      have hne : ¬ nI i = nI t := ux_ne hbi.1 (by omega) (by omega)
      refine br_f hT ⟨hin, br_c (fun c => ⟨h8, br_c (fun w => br_f hne (br_t rfl (br_f one0 (fb_w1 (by omega) hJ)))) (fun w => ?_)⟩) (fun c => ⟨h8, br_c (fun w => br_f hne (br_f one0 (fb_w1 (by omega) hJ))) (fun w => br_f hne (br_f one0 (fb_w1 (by omega) hJ)))⟩)⟩
      rw [hc8] at w
      have c2 := hc.mp c
      rw [hci] at c2
      cases hbi.2 with
      | inl y => exact absurd y c2
      | inr y => exact absurd y w
    · obtain ⟨bl1, hs1, hg⟩ := ih (i + 1) (upd bl i 0) (by omega) (sp_0 hs hbi)
      refine ⟨bl1, hs1, ?_⟩
      intro post F any hF ha h1 h0
      obtain ⟨F, rfl⟩ : ∃ G, F = G + 1 := ⟨F - 1, by omega⟩
      have ha2 : any = 1 ∨ any = 0 := by
        cases ha with
        | inl a => exact Or.inl a.1
        | inr a => exact Or.inr a.1
      have ha3 : (any = 1 ∧ ∃ u, u < i + 1 ∧ bl_B t r m he wr u) ∨ (any = 0 ∧ ∀ u, u < i + 1 → ¬ bl_B t r m he wr u) := by
        cases ha with
        | inl a =>
          obtain ⟨a, u, b, c⟩ := a
          exact Or.inl ⟨a, u, by omega, c⟩
        | inr a =>
          refine Or.inr ⟨a.1, ?_⟩
          intro u hu
          by_cases e : u = i
          · rw [e]; exact hbi
          · exact a.2 u (by omega)
      have hJ := hg post F any (by omega) ha3 h1 h0
      by_cases et : i = t
      · have hee : nI i = nI t := by rw [et]
        exact br_f hT ⟨hin, br_c (fun c => ⟨h8, br_c (fun w => br_t hee (fb_w0 (by omega) ha2 hJ)) (fun w => br_t hee (fb_w0 (by omega) ha2 hJ))⟩) (fun c => ⟨h8, br_c (fun w => br_t hee (fb_w0 (by omega) ha2 hJ)) (fun w => br_t hee (fb_w0 (by omega) ha2 hJ))⟩)⟩
      · have hne : ¬ nI i = nI t := ux_ne et (by omega) (by omega)
        have hnc : ¬ cf_b m (he (nI i * 16 + nI r).toNatClampNeg) := by
          rw [hci]
          exact fun z => hbi ⟨et, Or.inl z⟩
        have hnw : ¬ wr (nI i).toNatClampNeg = nI r := by
          rw [hc8]
          exact fun z => hbi ⟨et, Or.inr z⟩
        exact br_f hT ⟨hin, br_t (hc.mpr hnc) ⟨h8, br_f hnw (br_f hne (br_t rfl (br_t rfl (fb_w0 (by omega) ha2 hJ))))⟩⟩
theorem fb_X (hB : rt_B R T) (hh : hb_B R T he) {t r : Nat} {m : Int32} (hr : r < R) (hm : m = 1 ∨ m = 2) (ht : t < T) :
    ∃ bl1, sp_S T (bl_B t r m he wr) bl1 ∧ ∀ (post : Int32 → SX → Prop), (bl_E T t r m he wr → post 1 (po, nI R, nI T, nt, cc, cu, lt, lw, va, ok, oo, oa, ln, st, ts, pc, ac, ab, rk, wr, wm, ur, uv, ul, he, qu, qs, bl1)) → (¬ bl_E T t r m he wr → post 0 (po, nI R, nI T, nt, cc, cu, lt, lw, va, ok, oo, oa, ln, st, ts, pc, ac, ab, rk, wr, wm, ur, uv, ul, he, qu, qs, bl1)) → wpX_findBlockers post (po, nI R, nI T, nt, cc, cu, lt, lw, va, ok, oo, oa, ln, st, ts, pc, ac, ab, rk, wr, wm, ur, uv, ul, he, qu, qs, bl) (nI t) m (nI r) := by
  obtain ⟨bl1, hs, hg⟩ := fb_l (po := po) (nt := nt) (cc := cc) (cu := cu) (lt := lt) (lw := lw) (va := va) (ok := ok) (oo := oo) (oa := oa) (ln := ln) (st := st) (ts := ts) (pc := pc) (ac := ac) (ab := ab) (rk := rk) (wr := wr) (wm := wm) (ur := ur) (uv := uv) (ul := ul) (qu := qu) (qs := qs) hB hh hr hm ht T 0 bl (by omega) (fun u hu => absurd hu (by omega))
  refine ⟨bl1, hs, ?_⟩
  intro post h1 h0
  unfold wpX_findBlockers
  exact wk_X ⟨T + 1, hg post (T + 1) 0 (by omega) (Or.inr ⟨rfl, fun u hu => absurd hu (by omega)⟩) h1 h0⟩
/-- one of B isn't younger than t -/
def od_E (T t : Nat) (B : Nat → Prop) (ts : Nat → Int32) : Prop := ∃ u, u < T ∧ B u ∧ ¬ ts t < ts u
theorem io_l (hB : rt_B R T) {t : Nat} (ht : t < T) {B : Nat → Prop} (hs : sp_S T B bl) {post : Int32 → Prop} (h0 : od_E T t B ts → post 0) (h1 : ¬ od_E T t B ts → post 1) :
    ∀ d i F, i + d = T → d < F → (∀ u, u < i → B u → ts t < ts u) → wX_isOlderThanBlockers_2 post (nI t) po (nI R) (nI T) nt cc cu lt lw va ok oo oa ln st ts pc ac ab rk wr wm ur uv ul he qu qs bl F (nI i) := by
  obtain ⟨hB1, hB2, hB3, hB4⟩ := hB
  intro d
  induction d with
  | zero =>
    intro i F hi hF hu
    obtain ⟨F, rfl⟩ : ∃ G, F = G + 1 := ⟨F - 1, by omega⟩
    refine br_t (nI_le (by omega) (by omega)) (h1 ?_)
    intro ⟨u, a, b, c⟩
    exact c (hu u (by omega) b)
  | succ d ih =>
    intro i F hi hF hu
    obtain ⟨F, rfl⟩ : ∃ G, F = G + 1 := ⟨F - 1, by omega⟩
    have hT : ¬ nI T ≤ nI i := nI_ge (by omega) (by omega)
    have h8 : vp_in (nI i) 8 := vp_in_nI (by omega) (by omega)
    have t8 : vp_in (nI t) 8 := vp_in_nI (by omega) (by omega)
    have hc8 : (nI i).toNatClampNeg = i := nI_clamp (by omega)
    have hct : (nI t).toNatClampNeg = t := nI_clamp (by omega)
    have hsi := hs i (by omega)
    by_cases hb : B i
    · have e : ¬ bl (nI i).toNatClampNeg = 0 := by
        rw [hc8, hsi.1 hb]
        exact one0
      refine br_f hT ⟨h8, br_f e ⟨h8, t8, br_c (fun z => nm_r (nI_1 i) (ih (i + 1) F (by omega) (by omega) ?_)) (fun z => h0 ⟨i, by omega, hb, ?_⟩)⟩⟩
      · intro u hu1 hu2
        by_cases e4 : u = i
        · rw [hc8, hct] at z
          rw [e4]
          exact z
        · exact hu u (by omega) hu2
      · rw [hc8, hct] at z
        exact z
    · have e : bl (nI i).toNatClampNeg = 0 := by
        rw [hc8]
        exact hsi.2 hb
      refine br_f hT ⟨h8, br_t e (nm_r (nI_1 i) (ih (i + 1) F (by omega) (by omega) ?_))⟩
      intro u hu1 hu2
      by_cases e4 : u = i
      · rw [e4] at hu2
        exact absurd hu2 hb
      · exact hu u (by omega) hu2
theorem io_X (hB : rt_B R T) {t : Nat} (ht : t < T) {B : Nat → Prop} (hs : sp_S T B bl) {post : Int32 → Prop} (h0 : od_E T t B ts → post 0) (h1 : ¬ od_E T t B ts → post 1) : wpX_isOlderThanBlockers post (po, nI R, nI T, nt, cc, cu, lt, lw, va, ok, oo, oa, ln, st, ts, pc, ac, ab, rk, wr, wm, ur, uv, ul, he, qu, qs, bl) (nI t) :=
  ⟨T + 1, io_l hB ht hs h0 h1 T 0 (T + 1) (by omega) (by omega) (fun u hu => absurd hu (by omega))⟩
theorem y_236 (hB : rt_B R T) (hA : aw_A R T st wr wm) {t r i : Nat} {m : Int32} (hr : r < R) (ht : t < T) (hi : i < T) {post : Int32 → SY → Prop} {J : Int32 → (Nat → Int32) → (Nat → Int32) → (Nat → Int32) → (Nat → Int32) → (Nat → Int32) → (Nat → Int32) → (Nat → Int32) → (Nat → Int32) → (Nat → Int32) → (Nat → Int32) → (Nat → Int32) → (Nat → Int32) → (Nat → Int32) → (Nat → Int64) → (Nat → Int32) → (Nat → Int32) → (Nat → Int32) → (Nat → Int32) → (Nat → Int32) → Prop} {z0 : Int32} (hz : (z0 = 1 ∧ cf_b m (he (i * 16 + r))) ∨ (z0 = 0 ∧ ¬ cf_b m (he (i * 16 + r))))
    (h1 : bl_B t r m he wr i → J (nI (i + 1)) va ok oo oa ln st ts pc ac ab rk wr wm tc ur uv ul he (upd ib i 1)) (h0 : ¬ bl_B t r m he wr i → J (nI (i + 1)) va ok oo oa ln st ts pc ac ab rk wr wm tc ur uv ul he (upd ib i 0)) : wY_turn_236 post J (nI t) (nI r) m (nI i) z0 po (nI R) (nI T) nx nt cc cu lt ly va ok oo oa ln st ts pc ac ab rk wr wm tc ur uv ul he ib := by
  have hb := hB
  obtain ⟨hB1, hB2, hB3, hB4⟩ := hb
  have h8 : vp_in (nI i) 8 := vp_in_nI (by omega) (by omega)
  by_cases et : i = t
  · have hee : nI i = nI t := by rw [et]
    exact br_t hee ⟨h8, nm_r (sb_0 (by omega)) (nm_r (nI_1 i) (h0 (fun z => z.1 et)))⟩
  · have hne : ¬ nI i = nI t := ux_ne et (by omega) (by omega)
    cases hz with
    | inl a =>
      obtain ⟨a, b⟩ := a
      subst a
      exact br_f hne (br_f one0 ⟨h8, nm_r (sb_1 (by omega)) (nm_r (nI_1 i) (h1 ⟨et, Or.inl b⟩))⟩)
    | inr a =>
      obtain ⟨a, b⟩ := a
      subst a
      refine br_f hne (br_t rfl (iq_Y hB hA hi hr (fun w => br_f one0 ⟨h8, nm_r (sb_1 (by omega)) (nm_r (nI_1 i) (h1 ⟨et, Or.inr w⟩))⟩) (fun w => br_t rfl ⟨h8, nm_r (sb_0 (by omega)) (nm_r (nI_1 i) (h0 ?_))⟩)))
      intro z
      cases z.2 with
      | inl y => exact b y
      | inr y => exact w y
theorem yb_l (hB : rt_B R T) (hA : aw_A R T st wr wm) {t r : Nat} {m : Int32} (hr : r < R) (hm : m = 1 ∨ m = 2) (ht : t < T) : ∀ d i (ib : Nat → Int32), i + d = T → sp_S i (bl_B t r m he wr) ib →
    ∃ ib1, sp_S T (bl_B t r m he wr) ib1 ∧ ∀ (post : Int32 → SY → Prop) (F : Nat), d < F →
      ((po = 0 → ∃ n, wY_turn_290 post (nI t) (nI r) m n 0 0 po (nI R) (nI T) nx nt cc cu lt ly va ok oo oa ln st ts pc ac ab rk wr wm tc ur uv ul he ib1) ∧ (¬ po = 0 → ∃ n, wY_turn_390 post (nI t) (nI r) m po (nI R) (nI T) nx nt cc cu lt ly va ok oo oa ln st ts pc ac ab rk wr wm tc ur uv ul he ib1 n 0)) → wY_turn_183 post (nI t) (nI r) m po (nI R) (nI T) nx nt cc cu lt ly F (nI i) va ok oo oa ln st ts pc ac ab rk wr wm tc ur uv ul he ib := by
  have hb := hB
  obtain ⟨hB1, hB2, hB3, hB4⟩ := hb
  intro d
  induction d with
  | zero =>
    intro i ib hi hs
    have e : i = T := by omega
    subst e
    refine ⟨ib, hs, ?_⟩
    intro post F hF h
    obtain ⟨F, rfl⟩ : ∃ G, F = G + 1 := ⟨F - 1, by omega⟩
    exact br_t (nI_le (by omega) (by omega)) h
  | succ d ih =>
    intro i ib hi hs
    have hT : ¬ nI T ≤ nI i := nI_ge (by omega) (by omega)
    have hin := vi_16 (u := i) (r := r) (by omega) (by omega)
    have hci := ci_16 (u := i) (r := r) (by omega) (by omega)
    have key : ∃ ib1, sp_S T (bl_B t r m he wr) ib1 ∧ ∀ (post : Int32 → SY → Prop) (F : Nat), d < F →
      ((po = 0 → ∃ n, wY_turn_290 post (nI t) (nI r) m n 0 0 po (nI R) (nI T) nx nt cc cu lt ly va ok oo oa ln st ts pc ac ab rk wr wm tc ur uv ul he ib1) ∧ (¬ po = 0 → ∃ n, wY_turn_390 post (nI t) (nI r) m po (nI R) (nI T) nx nt cc cu lt ly va ok oo oa ln st ts pc ac ab rk wr wm tc ur uv ul he ib1 n 0)) →
        (bl_B t r m he wr i → wY_turn_183 post (nI t) (nI r) m po (nI R) (nI T) nx nt cc cu lt ly F (nI (i + 1)) va ok oo oa ln st ts pc ac ab rk wr wm tc ur uv ul he (upd ib i 1)) ∧ (¬ bl_B t r m he wr i → wY_turn_183 post (nI t) (nI r) m po (nI R) (nI T) nx nt cc cu lt ly F (nI (i + 1)) va ok oo oa ln st ts pc ac ab rk wr wm tc ur uv ul he (upd ib i 0)) := by
      by_cases hbi : bl_B t r m he wr i
      · obtain ⟨ib1, hs1, hg⟩ := ih (i + 1) (upd ib i 1) (by omega) (sp_1 hs hbi)
        exact ⟨ib1, hs1, fun post F hF h => ⟨fun _ => hg post F hF h, fun z => absurd hbi z⟩⟩
      · obtain ⟨ib1, hs1, hg⟩ := ih (i + 1) (upd ib i 0) (by omega) (sp_0 hs hbi)
        exact ⟨ib1, hs1, fun post F hF h => ⟨fun z => absurd z hbi, fun _ => hg post F hF h⟩⟩
    obtain ⟨ib1, hs1, hg⟩ := key
    refine ⟨ib1, hs1, ?_⟩
    intro post F hF h
    obtain ⟨F, rfl⟩ : ∃ G, F = G + 1 := ⟨F - 1, by omega⟩
    obtain ⟨g1, g0⟩ := hg post F (by omega) h
    refine br_f hT ⟨hin, nm_r (congrArg he hci) ?_⟩
    cases hm with
    | inl em =>
      subst em
      exact br_t rfl (br_c (fun z => y_236 hB hA hr ht (by omega) (Or.inl ⟨rfl, cf_1.mpr z⟩) g1 g0) (fun z => y_236 hB hA hr ht (by omega) (Or.inr ⟨rfl, fun y => z (cf_1.mp y)⟩) g1 g0))
    | inr em =>
      subst em
      exact br_f (by decide) (br_c (fun z => y_236 hB hA hr ht (by omega) (Or.inr ⟨rfl, fun y => cf_2.mp y z⟩) g1 g0) (fun z => y_236 hB hA hr ht (by omega) (Or.inl ⟨rfl, cf_2.mpr z⟩) g1 g0))
theorem y_390 (hB : rt_B R T) {t : Nat} {r m : Int32} (ht : t < T) {B : Nat → Prop} (hs : sp_S T B ib) {post : Int32 → SY → Prop}
    (h0 : od_E T t B ts → wpY_abort (fun u => post 4 u) (po, nI R, nI T, nx, nt, cc, cu, lt, ly, va, ok, oo, oa, ln, st, ts, pc, ac, ab, rk, wr, wm, tc, ur, uv, ul, he, ib) (nI t)) (h1 : ¬ od_E T t B ts → wpY_joinQueue (fun u => post 3 u) (po, nI R, nI T, nx, nt, cc, cu, lt, ly, va, ok, oo, oa, ln, st, ts, pc, ac, ab, rk, wr, wm, tc, ur, uv, ul, he, ib) (nI t) r m) :
    ∀ d i F, i + d = T → d < F → (∀ u, u < i → B u → ts t < ts u) → wY_turn_390 post (nI t) r m po (nI R) (nI T) nx nt cc cu lt ly va ok oo oa ln st ts pc ac ab rk wr wm tc ur uv ul he ib F (nI i) := by
  obtain ⟨hB1, hB2, hB3, hB4⟩ := hB
  intro d
  induction d with
  | zero =>
    intro i F hi hF hu
    obtain ⟨F, rfl⟩ : ∃ G, F = G + 1 := ⟨F - 1, by omega⟩
    refine br_t (nI_le (by omega) (by omega)) (h1 ?_)
    intro ⟨u, a, b, c⟩
    exact c (hu u (by omega) b)
  | succ d ih =>
    intro i F hi hF hu
    obtain ⟨F, rfl⟩ : ∃ G, F = G + 1 := ⟨F - 1, by omega⟩
    have hT : ¬ nI T ≤ nI i := nI_ge (by omega) (by omega)
    have h8 : vp_in (nI i) 8 := vp_in_nI (by omega) (by omega)
    have t8 : vp_in (nI t) 8 := vp_in_nI (by omega) (by omega)
    have hc8 : (nI i).toNatClampNeg = i := nI_clamp (by omega)
    have hct : (nI t).toNatClampNeg = t := nI_clamp (by omega)
    have hsi := hs i (by omega)
    by_cases hb : B i
    · have e : ¬ ib (nI i).toNatClampNeg = 0 := by
        rw [hc8, hsi.1 hb]
        exact one0
      refine br_f hT ⟨h8, br_f e ⟨h8, t8, br_c (fun z => nm_r (nI_1 i) (ih (i + 1) F (by omega) (by omega) ?_)) (fun z => h0 ⟨i, by omega, hb, ?_⟩)⟩⟩
      · intro u hu1 hu2
        by_cases e4 : u = i
        · rw [hc8, hct] at z
          rw [e4]
          exact z
        · exact hu u (by omega) hu2
      · rw [hc8, hct] at z
        exact z
    · have e : ib (nI i).toNatClampNeg = 0 := by
        rw [hc8]
        exact hsi.2 hb
      refine br_f hT ⟨h8, br_t e (nm_r (nI_1 i) (ih (i + 1) F (by omega) (by omega) ?_))⟩
      intro u hu1 hu2
      by_cases e4 : u = i
      · rw [e4] at hu2
        exact absurd hu2 hb
      · exact hu u (by omega) hu2
end
end
section
/-! an operation's turn -/
section
variable {po nt cc cu lt lw ly : Int32} {R T N M c : Nat} {tk : Nat → Nat} {nx : Int64} {va ok oo oa ln st ts pc ac ab rk wr wm ur uv ul he qu qs bl ib : Nat → Int32} {tc : Nat → Int64}
/-- the relation: near equality, tickets for queues; N the next ticket, at most M -/
def rl_R (M : Nat) (u : SX) (v : SY) : Prop :=
  ∃ (R T N c : Nat) (tk : Nat → Nat) (po nt cc lt lw : Int32) (va ok oo oa ln st ts pc ac ab rk wr wm ur uv ul he qu qs bl ib : Nat → Int32) (tc : Nat → Int64),
    u = (po, nI R, nI T, nt, cc, nI c, lt, lw, va, ok, oo, oa, ln, st, ts, pc, ac, ab, rk, wr, wm, ur, uv, ul, he, qu, qs, bl) ∧ v = (po, nI R, nI T, lN N, nt, cc, nI c, lt, lw, va, ok, oo, oa, ln, st, ts, pc, ac, ab, rk, wr, wm, tc, ur, uv, ul, he, ib) ∧ rt_B R T ∧ (po = 0 ∨ po = 1) ∧ c < T ∧ N ≤ M ∧ tb_B T N tk tc ∧ hv_I R T N tk st wr wm he qu qs ∧ mn_M R T oo ln st pc ur ul
theorem rl_mk (hB : rt_B R T) (hpo : po = 0 ∨ po = 1) (hc : c < T) (hN : N ≤ M) (hK : tb_B T N tk tc) (hI : hv_I R T N tk st wr wm he qu qs) (hM : mn_M R T oo ln st pc ur ul) : rl_R M (po, nI R, nI T, nt, cc, nI c, lt, lw, va, ok, oo, oa, ln, st, ts, pc, ac, ab, rk, wr, wm, ur, uv, ul, he, qu, qs, bl) (po, nI R, nI T, lN N, nt, cc, nI c, lt, lw, va, ok, oo, oa, ln, st, ts, pc, ac, ab, rk, wr, wm, tc, ur, uv, ul, he, ib) :=
  ⟨R, T, N, c, tk, po, nt, cc, lt, lw, va, ok, oo, oa, ln, st, ts, pc, ac, ab, rk, wr, wm, ur, uv, ul, he, qu, qs, bl, ib, tc, rfl, rfl, hB, hpo, hc, hN, hK, hI, hM⟩
theorem rl_up {u : SX} {v : SY} {M' : Nat} (h : rl_R M u v) (hM : M ≤ M') : rl_R M' u v := by
  obtain ⟨R, T, N, c, tk, po, nt, cc, lt, lw, va, ok, oo, oa, ln, st, ts, pc, ac, ab, rk, wr, wm, ur, uv, ul, he, qu, qs, bl, ib, tc, e1, e2, h1, h2, h3, h4, h5⟩ := h
  exact ⟨R, T, N, c, tk, po, nt, cc, lt, lw, va, ok, oo, oa, ln, st, ts, pc, ac, ab, rk, wr, wm, ur, uv, ul, he, qu, qs, bl, ib, tc, e1, e2, h1, h2, h3, by omega, h5⟩
theorem tb_add (h : tb_B T N tk tc) (v : Nat) (hN : N + 1 < 2 ^ 31) : tb_B T (N + 1) (qq_t tk v N) (vp_updL tc v (lN N)) := by
  refine ⟨hN, ?_⟩
  intro u hu
  by_cases e : u = v
  · rw [qq_t1 e, e, pk_uLs]
    exact ⟨rfl, by omega⟩
  · rw [qq_t0 e, pk_uLn e]
    have h1 := h.2 u hu
    exact ⟨h1.1, by omega⟩
theorem pg_L (hB : rt_B R T) (hpo : po = 0 ∨ po = 1) (hc : c < T) (hN : N ≤ M) (hK : tb_B T N tk tc) (hI : hv_I R T N tk st wr wm he qu qs) (hM : mn_M R T oo ln st pc ur ul) {t l p : Nat} (ht : t < T) (hs : st t = 1) (hl : ln t = nI l) (hl8 : l ≤ 8) (hp : pc t = nI p) (hpl : p < l) :
    ∃ (u' : SX) (v' : SY), rl_R M u' v' ∧ (∀ P : SX → Prop, P u' → wpX_perform P (po, nI R, nI T, nt, cc, nI c, lt, lw, va, ok, oo, oa, ln, st, ts, pc, ac, ab, rk, wr, wm, ur, uv, ul, he, qu, qs, bl) (nI t) (nI (t * 8 + p))) ∧ (∀ P : SY → Prop, P v' → wpY_perform P (po, nI R, nI T, lN N, nt, cc, nI c, lt, lw, va, ok, oo, oa, ln, st, ts, pc, ac, ab, rk, wr, wm, tc, ur, uv, ul, he, ib) (nI t)) := by
  obtain ⟨va1, pc1, ac1, ur1, uv1, ul1, hM1, hX, hY⟩ := pf_L (po := po) (nt := nt) (cc := cc) (cu := nI c) (lt := lt) (lw := lw) (ly := lw) (nx := lN N) (va := va) (ok := ok) (oa := oa) (ts := ts) (ac := ac) (ab := ab) (rk := rk) (wr := wr) (wm := wm) (uv := uv) (he := he) (qu := qu) (qs := qs) (bl := bl) (ib := ib) (tc := tc) hB hM ht (by rw [hs]; decide) hl hl8 hp hpl
  exact ⟨_, _, rl_mk hB hpo hc hN hK hI hM1, hX, hY⟩
theorem jn_L (hB : rt_B R T) (hpo : po = 0 ∨ po = 1) (hc : c < T) (hN : N ≤ M) (hM31 : M + 1 < 2 ^ 31) (hK : tb_B T N tk tc) (hI : hv_I R T N tk st wr wm he qu qs) (hM : mn_M R T oo ln st pc ur ul) {t r : Nat} {m : Int32} (ht : t < T) (hs : st t = 1) (hr : r < R) (hm : m = 1 ∨ m = 2) :
    ∃ (u' : SX) (v' : SY), rl_R (M + 1) u' v' ∧ (∀ P : SX → Prop, P u' → wpX_joinQueue P (po, nI R, nI T, nt, cc, nI c, lt, lw, va, ok, oo, oa, ln, st, ts, pc, ac, ab, rk, wr, wm, ur, uv, ul, he, qu, qs, bl) (nI t) m (nI r)) ∧ (∀ P : SY → Prop, P v' → wpY_joinQueue P (po, nI R, nI T, lN N, nt, cc, nI c, lt, lw, va, ok, oo, oa, ln, st, ts, pc, ac, ab, rk, wr, wm, tc, ur, uv, ul, he, ib) (nI t) (nI r) m) := by
  have hb := hB
  obtain ⟨hB1, hB2, hB3, hB4⟩ := hb
  have hs2 : st t ≠ 2 := by rw [hs]; decide
  obtain ⟨n, q, e1, e2, e3⟩ := hI.2.2.1 r hr
  have hw := (aw_w1 hI.1 ht hs2).1
  have hn := qq_lt e3 ht (by rw [hw]; exact (ux_ne1 (by omega)).symm)
  have hI2 := hv_join (m := m) (qs := qs) hI hB hr hm e2 e3 ht hs2
  have hM2 : mn_M R T oo ln (upd st t 2) pc ur ul := by
    refine mn_st hM ?_
    intro x hx e
    by_cases e4 : x = t
    · rw [ux_e e4] at e
      exact absurd e (by decide)
    · rw [pk_un e4] at e
      exact e
  exact ⟨_, _, rl_mk hB hpo hc (by omega) (tb_add hK t (by omega)) hI2 hM2, fun P h => jq_X hB ht hr e1 (by omega) h, fun P h => jq_Y (by omega) rfl h⟩
theorem fd_L (hB : rt_B R T) (hpo : po = 0 ∨ po = 1) (hc : c < T) (hN : N ≤ M) (hM31 : M + 1 < 2 ^ 31) (hK : tb_B T N tk tc) (hI : hv_I R T N tk st wr wm he qu qs) (hM : mn_M R T oo ln st pc ur ul) {t l p r : Nat} {m : Int32} (ht : t < T) (hs : st t = 1) (hl : ln t = nI l) (hl8 : l ≤ 8) (hp : pc t = nI p) (hpl : p < l) (hr : r < R) (hm : m = 1 ∨ m = 2) :
    ∃ (ev : Int32) (u' : SX) (v' : SY), rl_R (M + 1) u' v' ∧ (∀ P : Int32 → SX → Prop, P ev u' → wX_operationTurn_113 P (nI t) (nI (t * 8 + p)) (nI r) m 1 (nI T) po (nI R) (nI T) nt cc (nI c) lt lw va ok oo oa ln st ts pc ac ab rk wr wm ur uv ul he qu qs bl) ∧ (∀ P : Int32 → SY → Prop, P ev v' → wY_turn_290 P (nI t) (nI r) m 1 lw (nI T) po (nI R) (nI T) (lN N) nt cc (nI c) lt ly va ok oo oa ln st ts pc ac ab rk wr wm tc ur uv ul he ib) := by
  have hb := hB
  obtain ⟨hB1, hB2, hB3, hB4⟩ := hb
  have hs2 : st t ≠ 2 := by rw [hs]; decide
  have hle : nI T ≤ nI T := nI_le (by omega) (by omega)
  obtain ⟨n, q, e1, e2, e3⟩ := hI.2.2.1 r hr
  have hw : wr t ≠ nI r := by
    rw [(aw_w1 hI.1 ht hs2).1]
    exact (ux_ne1 (by omega)).symm
  obtain ⟨bl1, hsp, hg⟩ := fb_X (po := po) (nt := nt) (cc := cc) (cu := nI c) (lt := lt) (lw := lw) (va := va) (ok := ok) (oo := oo) (oa := oa) (ln := ln) (st := st) (ts := ts) (pc := pc) (ac := ac) (ab := ab) (rk := rk) (wr := wr) (wm := wm) (ur := ur) (uv := uv) (ul := ul) (qu := qu) (qs := qs) (bl := bl) hB hI.2.1 hr hm ht
  by_cases hE : bl_E T t r m he wr
  · obtain ⟨u', v', hR, hX, hY⟩ := jn_L (nt := nt) (cc := cc) (lt := lt) (lw := lw) (va := va) (ok := ok) (oa := oa) (ts := ts) (ac := ac) (ab := ab) (rk := rk) (uv := uv) (bl := bl1) (ib := ib) hB hpo hc hN hM31 hK hI hM ht hs hr hm
    refine ⟨3, u', v', hR, ?_, ?_⟩
    · intro P h
      exact br_t hle (hg _ (fun _ => br_f one0 (hX (fun u => P 3 u) h)) (fun z => absurd hE z))
    · intro P h
      exact br_t hle (gr_Y hB hI.1 hr hm ht e3 hw (fun _ => br_t rfl (hY (fun u => P 3 u) h)) (fun z => absurd hE z))
  · have eh : upd he (nI t * 16 + nI r).toNatClampNeg m = upd he (t * 16 + r) m := by rw [ci_16 (by omega) (by omega)]
    obtain ⟨u', v', hR, hX, hY⟩ := pg_L (nt := nt) (cc := cc) (lt := lt) (lw := lw) (va := va) (ok := ok) (oa := oa) (ts := ts) (ac := ac) (ab := ab) (rk := rk) (uv := uv) (bl := bl1) (ib := ib) hB hpo hc hN hK (hv_he (v := t) hI hB hr hm) hM ht hs hl hl8 hp hpl
    refine ⟨2, u', v', rl_up hR (by omega), ?_, ?_⟩
    · intro P h
      exact br_t hle (hg _ (fun z => absurd z hE) (fun _ => br_t rfl ⟨vi_16 (by omega) (by omega), nm_r eh (hX (fun u => P 2 u) h)⟩))
    · intro P h
      exact br_t hle (gr_Y hB hI.1 hr hm ht e3 hw (fun z => absurd z hE) (fun _ => br_f one0 ⟨vi_16 (by omega) (by omega), nm_r eh (hY (fun u => P 2 u) h)⟩))
set_option maxHeartbeats 1000000 in
theorem wl_l (hB : rt_B R T) (hK : tb_B T N tk tc) {t p : Nat} {x2 x3 m : Int32} (ht : t < T) {B : Nat → Prop} (hsx : sp_S T B bl) (hsy : sp_S T B ib) (hBt : ¬ B t) :
    ∀ d i (cnt : Int32) (va st pc ac ab wr wm ul he qu qs : Nat → Int32), i + d = T → hv_I R T N tk st wr wm he qu qs → mn_M R T oo ln st pc ur ul → st t = 1 → pc t = nI p →
    ∃ (cnt1 : Int32) (va1 st1 pc1 ac1 ab1 wr1 wm1 ul1 he1 qu1 qs1 : Nat → Int32), hv_I R T N tk st1 wr1 wm1 he1 qu1 qs1 ∧ mn_M R T oo ln st1 pc1 ur ul1 ∧ st1 t = 1 ∧ pc1 t = nI p ∧
      (∀ (post : Int32 → SX → Prop) (F : Nat), d < F → wX_operationTurn_113 post (nI t) x2 x3 m 1 (nI T) po (nI R) (nI T) nt cc cu lt cnt1 va1 ok oo oa ln st1 ts pc1 ac1 ab1 rk wr1 wm1 ur uv ul1 he1 qu1 qs1 bl → wX_operationTurn_113 post (nI t) x2 x3 m F (nI i) po (nI R) (nI T) nt cc cu lt cnt va ok oo oa ln st ts pc ac ab rk wr wm ur uv ul he qu qs bl) ∧
      (∀ (post : Int32 → SY → Prop) (F : Nat), d < F → wY_turn_290 post (nI t) x3 m 1 cnt1 (nI T) po (nI R) (nI T) nx nt cc cu lt ly va1 ok oo oa ln st1 ts pc1 ac1 ab1 rk wr1 wm1 tc ur uv ul1 he1 ib → wY_turn_290 post (nI t) x3 m F cnt (nI i) po (nI R) (nI T) nx nt cc cu lt ly va ok oo oa ln st ts pc ac ab rk wr wm tc ur uv ul he ib) := by
  have hb := hB
  obtain ⟨hB1, hB2, hB3, hB4⟩ := hb
  have hle : nI T ≤ nI T := nI_le (by omega) (by omega)
  intro d
  induction d with
  | zero =>
    intro i cnt va st pc ac ab wr wm ul he qu qs hi hI hM hst hpc
    have e : i = T := by omega
    subst e
    refine ⟨cnt, va, st, pc, ac, ab, wr, wm, ul, he, qu, qs, hI, hM, hst, hpc, ?_, ?_⟩
    · intro post F hF h
      obtain ⟨F, rfl⟩ : ∃ G, F = G + 1 := ⟨F - 1, by omega⟩
      exact br_t hle (h.1 hle)
    · intro post F hF h
      obtain ⟨F, rfl⟩ : ∃ G, F = G + 1 := ⟨F - 1, by omega⟩
      exact br_t hle (h.1 hle)
  | succ d ih =>
    intro i cnt va st pc ac ab wr wm ul he qu qs hi hI hM hst hpc
    have hT : ¬ nI T ≤ nI i := nI_ge (by omega) (by omega)
    have h8 : vp_in (nI i) 8 := vp_in_nI (by omega) (by omega)
    have t8 : vp_in (nI t) 8 := vp_in_nI (by omega) (by omega)
    have hc8 : (nI i).toNatClampNeg = i := nI_clamp (by omega)
    have hx := hsx i (by omega)
    have hy := hsy i (by omega)
    by_cases hb : B i
    · have ex : ¬ bl (nI i).toNatClampNeg = 0 := by
        rw [hc8, hx.1 hb]
        exact one0
      have ey : ¬ ib (nI i).toNatClampNeg = 0 := by
        rw [hc8, hy.1 hb]
        exact one0
      by_cases hts : ts (nI i).toNatClampNeg ≤ ts (nI t).toNatClampNeg
      · obtain ⟨cnt1, va1, st1, pc1, ac1, ab1, wr1, wm1, ul1, he1, qu1, qs1, hI1, hM1, hst1, hpc1, hX, hY⟩ := ih (i + 1) cnt va st pc ac ab wr wm ul he qu qs (by omega) hI hM hst hpc
        refine ⟨cnt1, va1, st1, pc1, ac1, ab1, wr1, wm1, ul1, he1, qu1, qs1, hI1, hM1, hst1, hpc1, ?_, ?_⟩
        · intro post F hF h
          obtain ⟨F, rfl⟩ : ∃ G, F = G + 1 := ⟨F - 1, by omega⟩
          exact br_f hT ⟨h8, br_f ex ⟨h8, t8, br_t hts (nm_r (nI_1 i) (hX post F (by omega) h))⟩⟩
        · intro post F hF h
          obtain ⟨F, rfl⟩ : ∃ G, F = G + 1 := ⟨F - 1, by omega⟩
          exact br_f hT ⟨h8, br_f ey ⟨h8, t8, br_t hts (nm_r (nI_1 i) (hY post F (by omega) h))⟩⟩
      · have hit : t ≠ i := fun z => hBt (by rw [z]; exact hb)
        obtain ⟨va2, st2, wr2, wm2, he2, qu2, qs2, hI2, hM2, hS2, hX2, hY2⟩ := ab_L (po := po) (nt := nt) (cc := cc) (cu := cu) (lt := lt) (lw := cnt) (ly := ly) (nx := nx) (va := va) (ok := ok) (oa := oa) (ts := ts) (ac := ac) (ab := ab) (rk := rk) (uv := uv) (bl := bl) (ib := ib) hB hK hI hM (show i < T by omega)
        have hst2 : st2 t = 1 := by
          cases hS2 t ht hit with
          | inl z => rw [z]; exact hst
          | inr z => exact z.2
        have hpc2 : upd pc i 0 t = nI p := by
          rw [pk_un hit]
          exact hpc
        obtain ⟨cnt1, va1, st1, pc1, ac1, ab1, wr1, wm1, ul1, he1, qu1, qs1, hI1, hM1, hst1, hpc1, hX, hY⟩ := ih (i + 1) (cnt + 1) va2 st2 (upd pc i 0) (upd ac i 0) (upd ab i (ab i + 1)) wr2 wm2 (upd ul i 0) he2 qu2 qs2 (by omega) hI2 hM2 hst2 hpc2
        refine ⟨cnt1, va1, st1, pc1, ac1, ab1, wr1, wm1, ul1, he1, qu1, qs1, hI1, hM1, hst1, hpc1, ?_, ?_⟩
        · intro post F hF h
          obtain ⟨F, rfl⟩ : ∃ G, F = G + 1 := ⟨F - 1, by omega⟩
          exact br_f hT ⟨h8, br_f ex ⟨h8, t8, br_f hts (hX2 _ (nm_e (nm_r (nI_1 i) (hX post F (by omega) h))))⟩⟩
        · intro post F hF h
          obtain ⟨F, rfl⟩ : ∃ G, F = G + 1 := ⟨F - 1, by omega⟩
          exact br_f hT ⟨h8, br_f ey ⟨h8, t8, br_f hts (hY2 _ (nm_e (nm_r (nI_1 i) (hY post F (by omega) h))))⟩⟩
    · have ex : bl (nI i).toNatClampNeg = 0 := by
        rw [hc8]
        exact hx.2 hb
      have ey : ib (nI i).toNatClampNeg = 0 := by
        rw [hc8]
        exact hy.2 hb
      obtain ⟨cnt1, va1, st1, pc1, ac1, ab1, wr1, wm1, ul1, he1, qu1, qs1, hI1, hM1, hst1, hpc1, hX, hY⟩ := ih (i + 1) cnt va st pc ac ab wr wm ul he qu qs (by omega) hI hM hst hpc
      refine ⟨cnt1, va1, st1, pc1, ac1, ab1, wr1, wm1, ul1, he1, qu1, qs1, hI1, hM1, hst1, hpc1, ?_, ?_⟩
      · intro post F hF h
        obtain ⟨F, rfl⟩ : ∃ G, F = G + 1 := ⟨F - 1, by omega⟩
        exact br_f hT ⟨h8, br_t ex (nm_r (nI_1 i) (hX post F (by omega) h))⟩
      · intro post F hF h
        obtain ⟨F, rfl⟩ : ∃ G, F = G + 1 := ⟨F - 1, by omega⟩
        exact br_f hT ⟨h8, br_t ey (nm_r (nI_1 i) (hY post F (by omega) h))⟩
end
end
section
/-! a step, and a run of steps -/
section
variable {po nt cc cu lt lw ly : Int32} {R T N M c : Nat} {tk : Nat → Nat} {nx : Int64} {va ok oo oa ln st ts pc ac ab rk wr wm ur uv ul he qu qs bl ib : Nat → Int32} {tc : Nat → Int64}
theorem cf_g1 {h m : Int32} (hh : h = 0 ∨ h = 1 ∨ h = 2) (hm : m = 1 ∨ m = 2) (hl : ¬ h < m) : h = 2 ∨ (h ≠ 2 ∧ m = 1 ∧ h = 1) := by
  cases hh with
  | inl a =>
    subst a
    cases hm with
    | inl b => subst b; exact absurd (by decide) hl
    | inr b => subst b; exact absurd (by decide) hl
  | inr hh =>
    cases hh with
    | inl a =>
      subst a
      cases hm with
      | inl b => exact Or.inr ⟨by decide, b, rfl⟩
      | inr b => subst b; exact absurd (by decide) hl
    | inr a => exact Or.inl a
theorem cf_g0 {h m : Int32} (hm : m = 1 ∨ m = 2) (hl : h < m) : h ≠ 2 ∧ (m = 1 → h ≠ 1) := by
  constructor
  · intro a
    subst a
    cases hm with
    | inl b => subst b; exact absurd hl (by decide)
    | inr b => subst b; exact absurd hl (by decide)
  · intro b a
    subst b a
    exact absurd hl (by decide)
set_option maxHeartbeats 1000000 in
theorem ot_34 (hB : rt_B R T) (hpo : po = 0 ∨ po = 1) (hN : N ≤ M) (hM31 : M + 1 < 2 ^ 31) (hK : tb_B T N tk tc) (hI : hv_I R T N tk st wr wm he qu qs) (hM : mn_M R T oo ln st pc ur ul) {t l p r : Nat} {m : Int32} (ht : t < T) (hs : st t = 1) (hl : ln t = nI l) (hl8 : l ≤ 8) (hp : pc t = nI p) (hpl : p < l) (hr : r < R) (hm : m = 1 ∨ m = 2) :
    ∃ (ev : Int32) (u' : SX) (v' : SY), rl_R (M + 1) u' v' ∧ (∀ P : Int32 → SX → Prop, P ev u' → wX_operationTurn_34 P (nI t) (nI (t * 8 + p)) (nI r) m po (nI R) (nI T) nt cc (nI t) lt 0 va ok oo oa ln st ts pc ac ab rk wr wm ur uv ul he qu qs bl) ∧ (∀ P : Int32 → SY → Prop, P ev v' → wY_turn_109 P (nI t) (nI r) m po (nI R) (nI T) (lN N) nt cc (nI t) lt 0 va ok oo oa ln st ts pc ac ab rk wr wm tc ur uv ul he ib) := by
  have hb := hB
  obtain ⟨hB1, hB2, hB3, hB4⟩ := hb
  have hs2 : st t ≠ 2 := by rw [hs]; decide
  have hin := vi_16 (u := t) (r := r) (by omega) (by omega)
  have hci := ci_16 (u := t) (r := r) (by omega) (by omega)
  have eh : upd he (nI t * 16 + nI r).toNatClampNeg m = upd he (t * 16 + r) m := by rw [hci]
  by_cases hlt : he (t * 16 + r) < m
  · have hlt' : he (nI t * 16 + nI r).toNatClampNeg < m := by rw [hci]; exact hlt
    have hg0 := cf_g0 hm hlt
    obtain ⟨n, q, e1, e2, e3⟩ := hI.2.2.1 r hr
    have hw : wr t ≠ nI r := by
      rw [(aw_w1 hI.1 ht hs2).1]
      exact (ux_ne1 (by omega)).symm
    have hy149 : ∀ P : Int32 → SY → Prop, wY_turn_149 P (nI t) (nI r) m po (nI R) (nI T) (lN N) nt cc (nI t) lt 0 va ok oo oa ln st ts pc ac ab rk wr wm tc ur uv ul he ib → wY_turn_109 P (nI t) (nI r) m po (nI R) (nI T) (lN N) nt cc (nI t) lt 0 va ok oo oa ln st ts pc ac ab rk wr wm tc ur uv ul he ib := by
      intro P G
      exact ⟨hin, nm_r (congrArg he hci) (br_f hg0.1 (br_c (fun em => br_f (hg0.2 em) G) (fun _ => G)))⟩
    obtain ⟨bl1, hsp, hg⟩ := fb_X (po := po) (nt := nt) (cc := cc) (cu := nI t) (lt := lt) (lw := 0) (va := va) (ok := ok) (oo := oo) (oa := oa) (ln := ln) (st := st) (ts := ts) (pc := pc) (ac := ac) (ab := ab) (rk := rk) (wr := wr) (wm := wm) (ur := ur) (uv := uv) (ul := ul) (qu := qu) (qs := qs) (bl := bl) hB hI.2.1 hr hm ht
    by_cases hE : bl_E T t r m he wr
    · obtain ⟨ib1, hspy, hgy⟩ := yb_l (po := po) (nt := nt) (cc := cc) (cu := nI t) (lt := lt) (ly := 0) (nx := lN N) (va := va) (ok := ok) (oo := oo) (oa := oa) (ln := ln) (ts := ts) (pc := pc) (ac := ac) (ab := ab) (rk := rk) (ur := ur) (uv := uv) (ul := ul) (he := he) (tc := tc) hB hI.1 hr hm ht T 0 ib (by omega) (fun u hu => absurd hu (by omega))
      cases hpo with
      | inl hp0 =>
        subst hp0
        have hBt : ¬ bl_B t r m he wr t := fun z => z.1 rfl
        obtain ⟨cnt1, va1, st1, pc1, ac1, ab1, wr1, wm1, ul1, he1, qu1, qs1, hI1, hM1, hst1, hpc1, hwX, hwY⟩ := wl_l (po := 0) (nt := nt) (cc := cc) (cu := nI t) (lt := lt) (ly := 0) (nx := lN N) (ok := ok) (oa := oa) (ts := ts) (rk := rk) (uv := uv) (x2 := nI (t * 8 + p)) (x3 := nI r) (m := m) hB hK ht hsp hspy hBt T 0 0 va st pc ac ab wr wm ul he qu qs (by omega) hI hM hs hp
        obtain ⟨ev, u', v', hR, hX, hY⟩ := fd_L (nt := nt) (cc := cc) (lt := lt) (lw := cnt1) (ly := 0) (va := va1) (ok := ok) (oa := oa) (ts := ts) (ac := ac1) (ab := ab1) (rk := rk) (uv := uv) (bl := bl1) (ib := ib1) hB (Or.inl rfl) ht hN hM31 hK hI1 hM1 ht hst1 hl hl8 hpc1 hpl hr hm
        refine ⟨ev, u', v', hR, ?_, ?_⟩
        · intro P h
          exact ⟨hin, br_t hlt' (hg _ (fun _ => br_f one0 (br_f (by decide) (br_f one0 (br_t rfl ⟨T + 1, hwX P (T + 1) (by omega) (hX P h)⟩)))) (fun z => absurd hE z))⟩
        · intro P h
          exact hy149 P (gr_Y hB hI.1 hr hm ht e3 hw (fun _ => br_t rfl ⟨T + 1, hgy P (T + 1) (by omega) (br_t rfl ⟨T + 1, hwY P (T + 1) (by omega) (hY P h)⟩)⟩) (fun z => absurd hE z))
      | inr hp1 =>
        subst hp1
        by_cases hO : od_E T t (bl_B t r m he wr) ts
        · obtain ⟨va2, st2, wr2, wm2, he2, qu2, qs2, hI2, hM2, hS2, hX2, hY2⟩ := ab_L (po := 1) (nt := nt) (cc := cc) (cu := nI t) (lt := lt) (lw := 0) (ly := 0) (nx := lN N) (va := va) (ok := ok) (oa := oa) (ts := ts) (ac := ac) (ab := ab) (rk := rk) (uv := uv) (bl := bl1) (ib := ib1) hB hK hI hM ht
          refine ⟨4, _, _, rl_mk (M := M + 1) (ib := ib1) (bl := bl1) (nt := nt) (cc := cc) (lt := lt) (lw := 0) (va := va2) (ok := ok) (oa := oa) (ts := ts) (ac := upd ac t 0) (ab := upd ab t (ab t + 1)) (rk := rk) (uv := uv) hB (Or.inr rfl) ht (by omega) hK hI2 hM2, ?_, ?_⟩
          · intro P h
            exact ⟨hin, br_t hlt' (hg _ (fun _ => br_f one0 (br_t rfl (io_X hB ht hsp (fun _ => br_t rfl (hX2 (fun u => P 4 u) h)) (fun z => absurd hO z)))) (fun z => absurd hE z))⟩
          · intro P h
            exact hy149 P (gr_Y hB hI.1 hr hm ht e3 hw (fun _ => br_t rfl ⟨T + 1, hgy P (T + 1) (by omega) (br_f (by decide) ⟨T + 1, y_390 hB ht hspy (fun _ => hY2 (fun u => P 4 u) h) (fun z => absurd hO z) T 0 (T + 1) (by omega) (by omega) (fun u hu => absurd hu (by omega))⟩)⟩) (fun z => absurd hE z))
        · obtain ⟨u', v', hR, hX, hY⟩ := jn_L (nt := nt) (cc := cc) (lt := lt) (lw := 0) (va := va) (ok := ok) (oa := oa) (ts := ts) (ac := ac) (ab := ab) (rk := rk) (uv := uv) (bl := bl1) (ib := ib1) hB (Or.inr rfl) ht hN hM31 hK hI hM ht hs hr hm
          refine ⟨3, u', v', hR, ?_, ?_⟩
          · intro P h
            exact ⟨hin, br_t hlt' (hg _ (fun _ => br_f one0 (br_t rfl (io_X hB ht hsp (fun z => absurd z hO) (fun _ => br_f one0 (br_f one0 (br_f (by decide) (br_f one0 (hX (fun u => P 3 u) h)))))))) (fun z => absurd hE z))⟩
          · intro P h
            exact hy149 P (gr_Y hB hI.1 hr hm ht e3 hw (fun _ => br_t rfl ⟨T + 1, hgy P (T + 1) (by omega) (br_f (by decide) ⟨T + 1, y_390 hB ht hspy (fun z => absurd z hO) (fun _ => hY (fun u => P 3 u) h) T 0 (T + 1) (by omega) (by omega) (fun u hu => absurd hu (by omega))⟩)⟩) (fun z => absurd hE z))
    · obtain ⟨u', v', hR, hX, hY⟩ := pg_L (nt := nt) (cc := cc) (lt := lt) (lw := 0) (va := va) (ok := ok) (oa := oa) (ts := ts) (ac := ac) (ab := ab) (rk := rk) (uv := uv) (bl := bl1) (ib := ib) hB hpo ht hN hK (hv_he (v := t) hI hB hr hm) hM ht hs hl hl8 hp hpl
      refine ⟨2, u', v', rl_up hR (by omega), ?_, ?_⟩
      · intro P h
        exact ⟨hin, br_t hlt' (hg _ (fun z => absurd z hE) (fun _ => br_t rfl (br_t rfl (br_t rfl ⟨hin, nm_r eh (hX (fun u => P 2 u) h)⟩))))⟩
      · intro P h
        exact hy149 P (gr_Y hB hI.1 hr hm ht e3 hw (fun z => absurd z hE) (fun _ => br_f one0 ⟨hin, nm_r eh (hY (fun u => P 2 u) h)⟩))
  · have hlt' : ¬ he (nI t * 16 + nI r).toNatClampNeg < m := by rw [hci]; exact hlt
    obtain ⟨u', v', hR, hX, hY⟩ := pg_L (nt := nt) (cc := cc) (lt := lt) (lw := 0) (va := va) (ok := ok) (oa := oa) (ts := ts) (ac := ac) (ab := ab) (rk := rk) (uv := uv) (bl := bl) (ib := ib) hB hpo ht hN hK hI hM ht hs hl hl8 hp hpl
    refine ⟨2, u', v', rl_up hR (by omega), ?_, ?_⟩
    · intro P h
      exact ⟨hin, br_f hlt' (hX (fun u => P 2 u) h)⟩
    · intro P h
      refine ⟨hin, nm_r (congrArg he hci) ?_⟩
      cases cf_g1 (hb_3 hI.2.1 ht (by omega)) hm hlt with
      | inl a => exact br_t a (hY (fun u => P 2 u) h)
      | inr a => exact br_f a.1 (br_t a.2.1 (br_t a.2.2 (hY (fun u => P 2 u) h)))
theorem na_l (hB : rt_B R T) (hc : c < T) : ∀ d i, i + d = T →
    (∃ t, t < T ∧ (st t = 1 ∨ st t = 3) ∧ (∀ (post : Int32 → Prop) (F : Nat), d < F → post (nI t) → wX_nextToAct_7 post po (nI R) (nI T) nt cc (nI c) lt lw va ok oo oa ln st ts pc ac ab rk wr wm ur uv ul he qu qs bl F (nI ((c + i) % T)) (nI i)) ∧ (∀ (post : Int32 → SY → Prop) (F : Nat), d < F → wY_step_42 post (nI t) po (nI R) (nI T) nx nt cc (nI c) lt ly va ok oo oa ln st ts pc ac ab rk wr wm tc ur uv ul he ib → wY_step_2 post po (nI R) (nI T) nx nt cc (nI c) lt ly va ok oo oa ln st ts pc ac ab rk wr wm tc ur uv ul he ib F (nI (i + 1)))) ∨
    ((∀ (post : Int32 → Prop) (F : Nat), d < F → post (-1) → wX_nextToAct_7 post po (nI R) (nI T) nt cc (nI c) lt lw va ok oo oa ln st ts pc ac ab rk wr wm ur uv ul he qu qs bl F (nI ((c + i) % T)) (nI i)) ∧ (∀ (post : Int32 → SY → Prop) (F : Nat), d < F → post 0 (po, nI R, nI T, nx, nt, cc, nI c, (-1), 0, va, ok, oo, oa, ln, st, ts, pc, ac, ab, rk, wr, wm, tc, ur, uv, ul, he, ib) → wY_step_2 post po (nI R) (nI T) nx nt cc (nI c) lt ly va ok oo oa ln st ts pc ac ab rk wr wm tc ur uv ul he ib F (nI (i + 1)))) := by
  obtain ⟨hB1, hB2, hB3, hB4⟩ := hB
  intro d
  induction d with
  | zero =>
    intro i hi
    refine Or.inr ⟨?_, ?_⟩
    · intro post F hF h
      obtain ⟨F, rfl⟩ : ∃ G, F = G + 1 := ⟨F - 1, by omega⟩
      exact br_t (nI_le (by omega) (by omega)) h
    · intro post F hF h
      obtain ⟨F, rfl⟩ : ∃ G, F = G + 1 := ⟨F - 1, by omega⟩
      exact br_t (nI_lt (by omega) (by omega)) h
  | succ d ih =>
    intro i hi
    have hT : ¬ nI T ≤ nI i := nI_ge (by omega) (by omega)
    have hTY : ¬ nI T < nI (i + 1) := nI_nlt (by omega) (by omega)
    have hT0 : ¬ nI T = 0 := nI_ne0 (by omega) (by omega)
    have hmod : (c + i) % T < T := Nat.mod_lt _ (by omega)
    obtain ⟨t, ht⟩ : ∃ t, t = (c + (i + 1)) % T := ⟨_, rfl⟩
    have htT : t < T := by rw [ht]; exact Nat.mod_lt _ (by omega)
    have ey : nI c + nI (i + 1) - (nI c + nI (i + 1)) / nI T * nI T = nI t := by
      rw [nI_add, pk_rem (by omega) (by omega) (by omega), ht]
    have ex1 : nI T ≤ nI ((c + i) % T) + 1 → (0 : Int32) = nI t := by
      intro z
      rw [nI_1, nI_leI (by omega) (by omega)] at z
      rw [ht, md_0 hc (by omega) z]
      rfl
    have ex0 : ¬ nI T ≤ nI ((c + i) % T) + 1 → nI ((c + i) % T) + 1 = nI t := by
      intro z
      rw [nI_1, nI_leI (by omega) (by omega)] at z
      rw [nI_1, ht, md_1 hc (by omega) (by omega)]
    have h8 : vp_in (nI t) 8 := vp_in_nI (by omega) (by omega)
    have hc8 : (nI t).toNatClampNeg = t := nI_clamp (by omega)
    have hX32 : ∀ (post : Int32 → Prop) (F : Nat), wX_nextToAct_32 post (wX_nextToAct_7 post po (nI R) (nI T) nt cc (nI c) lt lw va ok oo oa ln st ts pc ac ab rk wr wm ur uv ul he qu qs bl F) (nI i) (nI t) po (nI R) (nI T) nt cc (nI c) lt lw va ok oo oa ln st ts pc ac ab rk wr wm ur uv ul he qu qs bl → wX_nextToAct_7 post po (nI R) (nI T) nt cc (nI c) lt lw va ok oo oa ln st ts pc ac ab rk wr wm ur uv ul he qu qs bl (F + 1) (nI ((c + i) % T)) (nI i) := by
      intro post F G
      refine br_f hT (br_c (fun z => ?_) (fun z => ?_))
      · rw [ex1 z]
        exact G
      · rw [ex0 z]
        exact G
    by_cases s1 : st t = 1
    · have e1 : st (nI t).toNatClampNeg = 1 := by rw [hc8]; exact s1
      refine Or.inl ⟨t, htT, Or.inl s1, ?_, ?_⟩
      · intro post F hF h
        obtain ⟨F, rfl⟩ : ∃ G, F = G + 1 := ⟨F - 1, by omega⟩
        exact hX32 post F ⟨h8, br_t e1 h⟩
      · intro post F hF h
        obtain ⟨F, rfl⟩ : ∃ G, F = G + 1 := ⟨F - 1, by omega⟩
        exact br_f hTY ⟨hT0, nm_r ey ⟨h8, br_t e1 h⟩⟩
    · have e1 : ¬ st (nI t).toNatClampNeg = 1 := by rw [hc8]; exact s1
      by_cases s3 : st t = 3
      · have e3 : st (nI t).toNatClampNeg = 3 := by rw [hc8]; exact s3
        refine Or.inl ⟨t, htT, Or.inr s3, ?_, ?_⟩
        · intro post F hF h
          obtain ⟨F, rfl⟩ : ∃ G, F = G + 1 := ⟨F - 1, by omega⟩
          exact hX32 post F ⟨h8, br_f e1 ⟨h8, br_t e3 h⟩⟩
        · intro post F hF h
          obtain ⟨F, rfl⟩ : ∃ G, F = G + 1 := ⟨F - 1, by omega⟩
          exact br_f hTY ⟨hT0, nm_r ey ⟨h8, br_f e1 ⟨h8, br_t e3 h⟩⟩⟩
      · have e3 : ¬ st (nI t).toNatClampNeg = 3 := by rw [hc8]; exact s3
        have hxk : ∀ (post : Int32 → Prop) (F : Nat), wX_nextToAct_7 post po (nI R) (nI T) nt cc (nI c) lt lw va ok oo oa ln st ts pc ac ab rk wr wm ur uv ul he qu qs bl F (nI ((c + (i + 1)) % T)) (nI (i + 1)) → wX_nextToAct_7 post po (nI R) (nI T) nt cc (nI c) lt lw va ok oo oa ln st ts pc ac ab rk wr wm ur uv ul he qu qs bl (F + 1) (nI ((c + i) % T)) (nI i) := by
          intro post F G
          rw [← ht] at G
          exact hX32 post F ⟨h8, br_f e1 ⟨h8, br_f e3 (nm_r (nI_1 i) G)⟩⟩
        cases ih (i + 1) (by omega) with
        | inl a =>
          obtain ⟨t', a1, a2, hX, hY⟩ := a
          refine Or.inl ⟨t', a1, a2, ?_, ?_⟩
          · intro post F hF h
            obtain ⟨F, rfl⟩ : ∃ G, F = G + 1 := ⟨F - 1, by omega⟩
            exact hxk post F (hX post F (by omega) h)
          · intro post F hF h
            obtain ⟨F, rfl⟩ : ∃ G, F = G + 1 := ⟨F - 1, by omega⟩
            exact br_f hTY ⟨hT0, nm_r ey ⟨h8, br_f e1 ⟨h8, br_f e3 (nm_r (nI_1 (i + 1)) (hY post F (by omega) h))⟩⟩⟩
        | inr a =>
          obtain ⟨hX, hY⟩ := a
          refine Or.inr ⟨?_, ?_⟩
          · intro post F hF h
            obtain ⟨F, rfl⟩ : ∃ G, F = G + 1 := ⟨F - 1, by omega⟩
            exact hxk post F (hX post F (by omega) h)
          · intro post F hF h
            obtain ⟨F, rfl⟩ : ∃ G, F = G + 1 := ⟨F - 1, by omega⟩
            exact br_f hTY ⟨hT0, nm_r ey ⟨h8, br_f e1 ⟨h8, br_f e3 (nm_r (nI_1 (i + 1)) (hY post F (by omega) h))⟩⟩⟩
end
end
section
/-! a step whole, and a run -/
section
variable {M : Nat}
set_option maxHeartbeats 1000000 in
theorem sp_L {u : SX} {v : SY} (h : rl_R M u v) (hM31 : M + 1 < 2 ^ 31) : ∃ (ev : Int32) (u' : SX) (v' : SY), rl_R (M + 1) u' v' ∧ (∀ P : Int32 → SX → Prop, P ev u' → wpX_step P u) ∧ (∀ P : Int32 → SY → Prop, P ev v' → wpY_step P v) := by
  obtain ⟨R, T, N, c, tk, po, nt, cc, lt, lw, va, ok, oo, oa, ln, st, ts, pc, ac, ab, rk, wr, wm, ur, uv, ul, he, qu, qs, bl, ib, tc, rfl, rfl, hB, hpo, hc, hN, hK, hI, hM⟩ := h
  have hb := hB
  obtain ⟨hB1, hB2, hB3, hB4⟩ := hb
  have e0 : (c + 0) % T = c := by rw [Nat.add_zero, Nat.mod_eq_of_lt hc]
  cases na_l (po := po) (nt := nt) (cc := cc) (lt := lt) (lw := lw) (ly := lw) (nx := lN N) (va := va) (ok := ok) (oo := oo) (oa := oa) (ln := ln) (st := st) (ts := ts) (pc := pc) (ac := ac) (ab := ab) (rk := rk) (wr := wr) (wm := wm) (ur := ur) (uv := uv) (ul := ul) (he := he) (qu := qu) (qs := qs) (bl := bl) (ib := ib) (tc := tc) hB hc T 0 (by omega) with
  | inr a =>
    obtain ⟨hX, hY⟩ := a
    refine ⟨0, (po, nI R, nI T, nt, cc, nI c, (-1), 0, va, ok, oo, oa, ln, st, ts, pc, ac, ab, rk, wr, wm, ur, uv, ul, he, qu, qs, bl), (po, nI R, nI T, lN N, nt, cc, nI c, (-1), 0, va, ok, oo, oa, ln, st, ts, pc, ac, ab, rk, wr, wm, tc, ur, uv, ul, he, ib), rl_mk hB hpo hc (by omega) hK hI hM, ?_, ?_⟩
    · intro P h
      have hX' : ∀ post : Int32 → Prop, post (-1) → wpX_nextToAct post (po, nI R, nI T, nt, cc, nI c, lt, lw, va, ok, oo, oa, ln, st, ts, pc, ac, ab, rk, wr, wm, ur, uv, ul, he, qu, qs, bl) := by
        intro post h
        have h1 := hX post (T + 1) (by omega) h
        rw [e0] at h1
        exact ⟨T + 1, h1⟩
      unfold wpX_step
      exact hX' _ (br_t rfl h)
    · intro P h
      exact ⟨T + 1, hY P (T + 1) (by omega) h⟩
  | inl a =>
    obtain ⟨t, ht, hst, hX, hY⟩ := a
    have hX' : ∀ post : Int32 → Prop, post (nI t) → wpX_nextToAct post (po, nI R, nI T, nt, cc, nI c, lt, lw, va, ok, oo, oa, ln, st, ts, pc, ac, ab, rk, wr, wm, ur, uv, ul, he, qu, qs, bl) := by
      intro post h
      have h1 := hX post (T + 1) (by omega) h
      rw [e0] at h1
      exact ⟨T + 1, h1⟩
    have h8 : vp_in (nI t) 8 := vp_in_nI (by omega) (by omega)
    have hct : (nI t).toNatClampNeg = t := nI_clamp (by omega)
    have hne : ¬ nI t = -1 := ux_ne1 (by omega)
    by_cases s3 : st t = 3
    · have e3 : st (nI t).toNatClampNeg = 3 := by rw [hct]; exact s3
      have hI2 := hv_st hI ht (by rw [s3]; decide) (s := 1) (by decide)
      have hM2 : mn_M R T oo ln (upd st t 1) pc ur ul := by
        refine mn_st hM ?_
        intro x hx e
        by_cases e4 : x = t
        · rw [ux_e e4] at e
          exact absurd e (by decide)
        · rw [pk_un e4] at e
          exact e
      refine ⟨1, (po, nI R, nI T, nt, cc, nI t, nI t, 0, va, ok, oo, oa, ln, upd st t 1, ts, pc, ac, ab, rk, wr, wm, ur, uv, ul, he, qu, qs, bl), (po, nI R, nI T, lN N, nt, cc, nI t, nI t, 0, va, ok, oo, oa, ln, upd st t 1, ts, pc, ac, ab, rk, wr, wm, tc, ur, uv, ul, he, ib), rl_mk hB hpo ht (by omega) hK hI2 hM2, ?_, ?_⟩
      · intro P h
        unfold wpX_step
        exact hX' _ (br_f hne ⟨h8, br_t e3 ⟨h8, nm_r (s8 (by omega)) h⟩⟩)
      · intro P h
        refine ⟨T + 1, hY P (T + 1) (by omega) ?_⟩
        exact ⟨h8, br_t e3 ⟨h8, nm_r (s8 (by omega)) h⟩⟩
    · have e3 : ¬ st (nI t).toNatClampNeg = 3 := by rw [hct]; exact s3
      have s1 : st t = 1 := by
        cases hst with
        | inl z => exact z
        | inr z => exact absurd z s3
      obtain ⟨l, p, z, m1, m2, m3, m4, m5, m6, m7, m8, m9⟩ := hM t ht
      by_cases hpl : p < l
      · have hlt : pc (nI t).toNatClampNeg < ln (nI t).toNatClampNeg := by
          rw [hct, m1, m3]
          exact nI_lt hpl (by omega)
        obtain ⟨r, hr, er⟩ := m8 p hpl
        have h64 : vp_in (nI (t * 8 + p)) 64 := vp_in_nI (by omega) (by omega)
        have hco : (nI (t * 8 + p)).toNatClampNeg = t * 8 + p := nI_clamp (by omega)
        have eo : oo (nI (t * 8 + p)).toNatClampNeg = nI r := by rw [hco]; exact er
        have eop : nI t * 8 + pc (nI t).toNatClampNeg = nI (t * 8 + p) := by rw [hct, m3, ix_8]
        have key : ∃ m : Int32, (m = 1 ∨ m = 2) ∧ (∀ K : Int32 → Prop, K m → ((ok (nI (t * 8 + p)).toNatClampNeg = 1 → K 1) ∧ (¬ ok (nI (t * 8 + p)).toNatClampNeg = 1 → K 2))) := by
          by_cases hk : ok (nI (t * 8 + p)).toNatClampNeg = 1
          · exact ⟨1, Or.inl rfl, fun K h => br_t hk h⟩
          · exact ⟨2, Or.inr rfl, fun K h => br_f hk h⟩
        obtain ⟨m, hm, hk⟩ := key
        obtain ⟨ev, u', v', hR, hX3, hY3⟩ := ot_34 (po := po) (nt := nt) (cc := cc) (lt := nI t) (va := va) (ok := ok) (oa := oa) (ts := ts) (ac := ac) (ab := ab) (rk := rk) (uv := uv) (bl := bl) (ib := ib) hB hpo hN hM31 hK hI hM ht s1 m1 m2 m3 hpl hr hm
        refine ⟨ev, u', v', hR, ?_, ?_⟩
        · intro P h
          unfold wpX_step
          refine hX' _ (br_f hne ⟨h8, br_f e3 ⟨h8, h8, br_t hlt ?_⟩⟩)
          exact ⟨h8, nm_r eop ⟨h64, nm_r eo ⟨h64, hk (fun z => wX_operationTurn_34 (fun r u => P r u) (nI t) (nI (t * 8 + p)) (nI r) z po (nI R) (nI T) nt cc (nI t) (nI t) 0 va ok oo oa ln st ts pc ac ab rk wr wm ur uv ul he qu qs bl) (hX3 (fun r u => P r u) h)⟩⟩⟩
        · intro P h
          refine ⟨T + 1, hY P (T + 1) (by omega) ?_⟩
          exact ⟨h8, br_f e3 ⟨h8, h8, br_t hlt ⟨h8, nm_r eop ⟨h64, nm_r eo ⟨h64, hk (fun z => wY_turn_109 (fun r u => P r u) (nI t) (nI r) z po (nI R) (nI T) (lN N) nt cc (nI t) (nI t) 0 va ok oo oa ln st ts pc ac ab rk wr wm tc ur uv ul he ib) (hY3 (fun r u => P r u) h)⟩⟩⟩⟩⟩
      · have hlt : ¬ pc (nI t).toNatClampNeg < ln (nI t).toNatClampNeg := by
          rw [hct, m1, m3]
          exact nI_nlt (by omega) (by omega)
        obtain ⟨st1, wr1, wm1, he1, qu1, qs1, hI1, hM1, hX3, hY3⟩ := cm_L (po := po) (nt := nt) (cc := cc) (cu := nI t) (lt := nI t) (lw := 0) (ly := 0) (nx := lN N) (va := va) (ok := ok) (oa := oa) (ts := ts) (ac := ac) (ab := ab) (rk := rk) (uv := uv) (bl := bl) (ib := ib) hB hK hI hM ht (by rw [s1]; decide)
        refine ⟨5, _, _, rl_mk (M := M + 1) (po := po) (nt := nt) (cc := cc + 1) (lt := nI t) (lw := 0) (va := va) (ok := ok) (oa := oa) (ts := ts) (ac := ac) (ab := ab) (rk := upd rk t (cc + 1)) (uv := uv) (bl := bl) (ib := ib) hB hpo ht (by omega) hK hI1 hM1, ?_, ?_⟩
        · intro P h
          unfold wpX_step
          exact hX' _ (br_f hne ⟨h8, br_f e3 ⟨h8, h8, br_f hlt (hX3 (fun u => P 5 u) h)⟩⟩)
        · intro P h
          refine ⟨T + 1, hY P (T + 1) (by omega) ?_⟩
          exact ⟨h8, br_f e3 ⟨h8, h8, br_f hlt ⟨h8, nm_r (s8 (by omega)) (nm_e ⟨h8, nm_r (s8 (by omega)) ⟨h8, nm_r (s8 (by omega)) (hY3 (fun u => P 5 u) h)⟩⟩)⟩⟩⟩
theorem rn_l {K : Nat} (hK : K ≤ 64) (hM : M + K < 2 ^ 31) : ∀ d i (cnt : Int32) (x1 x2 x3 x4 x5 x6 x7 x8 : Int32) (x9 x10 x11 x12 x13 x14 x15 x16 x17 x18 x19 x20 x21 x22 x23 x24 x25 x26 x27 x28 : Nat → Int32) (y1 y2 y3 : Int32) (y4 : Int64) (y5 y6 y7 y8 y9 : Int32) (y10 y11 y12 y13 y14 y15 y16 y17 y18 y19 y20 y21 y22 : Nat → Int32) (y23 : Nat → Int64) (y24 y25 y26 y27 y28 : Nat → Int32), i + d = K → rl_R (M + i) (x1, x2, x3, x4, x5, x6, x7, x8, x9, x10, x11, x12, x13, x14, x15, x16, x17, x18, x19, x20, x21, x22, x23, x24, x25, x26, x27, x28) (y1, y2, y3, y4, y5, y6, y7, y8, y9, y10, y11, y12, y13, y14, y15, y16, y17, y18, y19, y20, y21, y22, y23, y24, y25, y26, y27, y28) →
    ∃ (r : Int32) (u' : SX) (v' : SY), rl_R (M + K) u' v' ∧ (∀ (P : Int32 → SX → Prop) (F : Nat), d < F → P r u' → wX_run_13 P (nI K) F cnt (nI i) x1 x2 x3 x4 x5 x6 x7 x8 x9 x10 x11 x12 x13 x14 x15 x16 x17 x18 x19 x20 x21 x22 x23 x24 x25 x26 x27 x28) ∧ (∀ (P : Int32 → SY → Prop) (F : Nat), d < F → P r v' → wY_run_27 P (nI K) F cnt (nI i) y1 y2 y3 y4 y5 y6 y7 y8 y9 y10 y11 y12 y13 y14 y15 y16 y17 y18 y19 y20 y21 y22 y23 y24 y25 y26 y27 y28) := by
  intro d
  induction d with
  | zero =>
    intro i cnt x1 x2 x3 x4 x5 x6 x7 x8 x9 x10 x11 x12 x13 x14 x15 x16 x17 x18 x19 x20 x21 x22 x23 x24 x25 x26 x27 x28 y1 y2 y3 y4 y5 y6 y7 y8 y9 y10 y11 y12 y13 y14 y15 y16 y17 y18 y19 y20 y21 y22 y23 y24 y25 y26 y27 y28 hi h
    have e : i = K := by omega
    subst e
    refine ⟨cnt, _, _, h, ?_, ?_⟩
    · intro P F hF h
      obtain ⟨F, rfl⟩ : ∃ G, F = G + 1 := ⟨F - 1, by omega⟩
      exact br_t (nI_le (by omega) (by omega)) h
    · intro P F hF h
      obtain ⟨F, rfl⟩ : ∃ G, F = G + 1 := ⟨F - 1, by omega⟩
      exact br_t (nI_le (by omega) (by omega)) h
  | succ d ih =>
    intro i cnt x1 x2 x3 x4 x5 x6 x7 x8 x9 x10 x11 x12 x13 x14 x15 x16 x17 x18 x19 x20 x21 x22 x23 x24 x25 x26 x27 x28 y1 y2 y3 y4 y5 y6 y7 y8 y9 y10 y11 y12 y13 y14 y15 y16 y17 y18 y19 y20 y21 y22 y23 y24 y25 y26 y27 y28 hi h
    have hT : ¬ nI K ≤ nI i := nI_ge (by omega) (by omega)
    obtain ⟨ev, u', v', hR, hX, hY⟩ := sp_L h (by omega)
    obtain ⟨a1, a2, a3, a4, a5, a6, a7, a8, a9, a10, a11, a12, a13, a14, a15, a16, a17, a18, a19, a20, a21, a22, a23, a24, a25, a26, a27, a28⟩ := u'
    obtain ⟨b1, b2, b3, b4, b5, b6, b7, b8, b9, b10, b11, b12, b13, b14, b15, b16, b17, b18, b19, b20, b21, b22, b23, b24, b25, b26, b27, b28⟩ := v'
    by_cases e : ev = 0
    · refine ⟨cnt, _, _, rl_up hR (by omega), ?_, ?_⟩
      · intro P F hF h
        obtain ⟨F, rfl⟩ : ∃ G, F = G + 1 := ⟨F - 1, by omega⟩
        exact br_f hT (hX _ (br_t e h))
      · intro P F hF h
        obtain ⟨F, rfl⟩ : ∃ G, F = G + 1 := ⟨F - 1, by omega⟩
        exact br_f hT (hY _ (br_t e h))
    · obtain ⟨r, u2, v2, hR2, hX2, hY2⟩ := ih (i + 1) (cnt + 1) a1 a2 a3 a4 a5 a6 a7 a8 a9 a10 a11 a12 a13 a14 a15 a16 a17 a18 a19 a20 a21 a22 a23 a24 a25 a26 a27 a28 b1 b2 b3 b4 b5 b6 b7 b8 b9 b10 b11 b12 b13 b14 b15 b16 b17 b18 b19 b20 b21 b22 b23 b24 b25 b26 b27 b28 (by omega) hR
      refine ⟨r, u2, v2, hR2, ?_, ?_⟩
      · intro P F hF h
        obtain ⟨F, rfl⟩ : ∃ G, F = G + 1 := ⟨F - 1, by omega⟩
        exact br_f hT (hX _ (br_f e (nm_e (nm_r (nI_1 i) (hX2 P F (by omega) h)))))
      · intro P F hF h
        obtain ⟨F, rfl⟩ : ∃ G, F = G + 1 := ⟨F - 1, by omega⟩
        exact br_f hT (hY _ (br_f e (nm_e (nm_r (nI_1 i) (hY2 P F (by omega) h)))))
theorem cl_E (x : Int32) (lo hi : Nat) (h : lo ≤ hi) (hh : hi < 2 ^ 31) : ∃ K, lo ≤ K ∧ K ≤ hi ∧ ∀ A : Int32 → Prop, A (nI K) → ((nI lo ≤ x → ((x ≤ nI hi → A x) ∧ (¬ x ≤ nI hi → A (nI hi)))) ∧ (¬ nI lo ≤ x → A (nI lo))) := by
  by_cases h1 : nI lo ≤ x
  · by_cases h2 : x ≤ nI hi
    · have h3 : (0 : Int32) ≤ x := Int32.le_trans (nI_pos' (n := lo) (by omega)) h1
      obtain ⟨j, hj, e⟩ := nI_of (Int32.not_lt.mpr h3)
      subst e
      have h4 := (nI_leI (by omega) (by omega)).mp h1
      have h5 := (nI_leI (by omega) (by omega)).mp h2
      exact ⟨j, h4, h5, fun A a => br_t h1 (br_t h2 a)⟩
    · exact ⟨hi, h, Nat.le_refl hi, fun A a => br_t h1 (br_f h2 a)⟩
  · exact ⟨lo, Nat.le_refl lo, h, fun A a => br_f h1 a⟩
end
end
section
/-! what is owed -/
section
variable {po nt cc cu lt lw ly : Int32} {R T : Nat} {va ok oo oa ln st ts pc ac ab rk wr wm ur uv ul he qu qs bl : Nat → Int32}
theorem ix_2 (x : Int32) {n : Nat} (hn : n < 2 ^ 31) : (x < 0 ∨ nI n ≤ x) ∨ ∃ j, j < n ∧ x = nI j := by
  cases pk_ix x hn with
  | inl h => exact Or.inl (Or.inl h)
  | inr h =>
    cases h with
    | inl h => exact Or.inl (Or.inr h)
    | inr h => exact Or.inr h
theorem ir_0 {x : Int32} {post : Int32 → Prop} (h : x < 0 ∨ nI R ≤ x) (hp : post 0) : wpX_isRow post (po, nI R, nI T, nt, cc, cu, lt, lw, va, ok, oo, oa, ln, st, ts, pc, ac, ab, rk, wr, wm, ur, uv, ul, he, qu, qs, bl) x := by
  cases h with
  | inl h => exact br_t h hp
  | inr h => exact br_c (fun _ => hp) (fun _ => br_t h hp)
theorem ir_1 {j : Nat} {post : Int32 → Prop} (hj : j < R) (hR : R ≤ 16) (hp : post 1) : wpX_isRow post (po, nI R, nI T, nt, cc, cu, lt, lw, va, ok, oo, oa, ln, st, ts, pc, ac, ab, rk, wr, wm, ur, uv, ul, he, qu, qs, bl) (nI j) :=
  br_f (nI_pos (by omega)) (br_f (nI_ge hj (by omega)) hp)
theorem it_0 {x : Int32} {post : Int32 → Prop} (h : x < 0 ∨ nI T ≤ x) (hp : post 0) : wpX_isTx post (po, nI R, nI T, nt, cc, cu, lt, lw, va, ok, oo, oa, ln, st, ts, pc, ac, ab, rk, wr, wm, ur, uv, ul, he, qu, qs, bl) x := by
  cases h with
  | inl h => exact br_t h hp
  | inr h => exact br_c (fun _ => hp) (fun _ => br_t h hp)
theorem it_1 {j : Nat} {post : Int32 → Prop} (hj : j < T) (hT : T ≤ 8) (hp : post 1) : wpX_isTx post (po, nI R, nI T, nt, cc, cu, lt, lw, va, ok, oo, oa, ln, st, ts, pc, ac, ab, rk, wr, wm, ur, uv, ul, he, qu, qs, bl) (nI j) :=
  br_f (nI_pos (by omega)) (br_f (nI_ge hj (by omega)) hp)
theorem ny_0 {x : Int32} {n : Nat} {A B : Prop} (h : x < 0 ∨ nI n ≤ x) (b : B) : (x < 0 → B) ∧ (¬ x < 0 → ((x < nI n → A) ∧ (¬ x < nI n → B))) := by
  cases h with
  | inl h => exact br_t h b
  | inr h => exact br_c (fun _ => b) (fun _ => br_f (Int32.not_lt.mpr h) b)
theorem ny_1 {j n : Nat} {A B C : Prop} (hj : j < n) (hn : n < 2 ^ 31) (a : A) : (nI j < 0 → B) ∧ (¬ nI j < 0 → ((nI j < nI n → A) ∧ (¬ nI j < nI n → C))) :=
  br_f (nI_pos (by omega)) (br_t (nI_lt hj hn) a)
theorem nz_0 {x : Int32} {n : Nat} {A B : Prop} (h : x < 0 ∨ nI n ≤ x) (b : B) : (x < 0 → B) ∧ (¬ x < 0 → ((nI n ≤ x → B) ∧ (¬ nI n ≤ x → A))) := by
  cases h with
  | inl h => exact br_t h b
  | inr h => exact br_c (fun _ => b) (fun _ => br_t h b)
theorem nz_1 {j n : Nat} {A B C : Prop} (hj : j < n) (hn : n < 2 ^ 31) (a : A) : (nI j < 0 → B) ∧ (¬ nI j < 0 → ((nI n ≤ nI j → C) ∧ (¬ nI n ≤ nI j → A))) :=
  br_f (nI_pos (by omega)) (br_f (nI_ge hj hn) a)
end
def i_Rel (k : Nat) (u : SX) (v : SY) : Prop := rl_R (64 * k) u v
theorem i_up {k : Nat} {u : SX} {v : SY} (h : i_Rel k u v) : i_Rel (k + 5) u v := rl_up h (by omega)
/-- the waiting rows while the constructors fill them -/
def in_f (i : Nat) : Nat → Int32 := fun j => if j < i then -1 else 0
theorem in_0 : in_f 0 = fun _ => 0 := by
  funext j
  exact if_neg (by omega)
theorem in_s (i : Nat) : upd (in_f i) i (-1) = in_f (i + 1) := by
  funext j
  show (if j = i then (-1 : Int32) else if j < i then -1 else 0) = if j < i + 1 then -1 else 0
  by_cases e : j = i
  · rw [if_pos e, if_pos (by omega)]
  · rw [if_neg e]
    by_cases e2 : j < i
    · rw [if_pos e2, if_pos (by omega)]
    · rw [if_neg e2, if_neg (by omega)]
theorem in_X {po R T cu : Int32} {post : SX → Prop} (h : post (po, R, T, 1, 0, cu, -1, 0, fun _ => 0, fun _ => 0, fun _ => 0, fun _ => 0, fun _ => 0, fun _ => 0, fun _ => 0, fun _ => 0, fun _ => 0, fun _ => 0, fun _ => 0, in_f 8, fun _ => 0, fun _ => 0, fun _ => 0, fun _ => 0, fun _ => 0, fun _ => 0, fun _ => 0, fun _ => 0)) :
    ∀ d i F, i + d = 8 → d < F → wX_init_231 post po R T 1 0 cu (-1) 0 F (nI i) (fun _ => 0) (fun _ => 0) (fun _ => 0) (fun _ => 0) (fun _ => 0) (fun _ => 0) (fun _ => 0) (fun _ => 0) (fun _ => 0) (fun _ => 0) (fun _ => 0) (in_f i) (fun _ => 0) (fun _ => 0) (fun _ => 0) (fun _ => 0) (fun _ => 0) (fun _ => 0) (fun _ => 0) (fun _ => 0) := by
  intro d
  induction d with
  | zero =>
    intro i F hi hF
    obtain ⟨F, rfl⟩ : ∃ G, F = G + 1 := ⟨F - 1, by omega⟩
    have e : i = 8 := by omega
    subst e
    exact br_t (by decide) h
  | succ d ih =>
    intro i F hi hF
    obtain ⟨F, rfl⟩ : ∃ G, F = G + 1 := ⟨F - 1, by omega⟩
    have hT : ¬ (8 : Int32) ≤ nI i := nI_ge (b := 8) (by omega) (by omega)
    exact br_f hT ⟨vp_in_nI (by omega) (by omega), nm_r ((s8 (by omega)).trans (in_s i)) (nm_r (nI_1 i) (ih (i + 1) F (by omega) (by omega)))⟩
theorem in_Y {po R T : Int32} {post : SY → Prop} (h : post (po, R, T, 0, 1, 0, T - 1, -1, 0, fun _ => 0, fun _ => 0, fun _ => 0, fun _ => 0, fun _ => 0, fun _ => 0, fun _ => 0, fun _ => 0, fun _ => 0, fun _ => 0, fun _ => 0, in_f 8, fun _ => 0, fun _ => 0, fun _ => 0, fun _ => 0, fun _ => 0, fun _ => 0, fun _ => 0)) :
    ∀ d i F, i + d = 8 → d < F → wY_init_232 post po R T 0 0 0 0 0 0 F (nI i) (fun _ => 0) (fun _ => 0) (fun _ => 0) (fun _ => 0) (fun _ => 0) (fun _ => 0) (fun _ => 0) (fun _ => 0) (fun _ => 0) (fun _ => 0) (fun _ => 0) (in_f i) (fun _ => 0) (fun _ => 0) (fun _ => 0) (fun _ => 0) (fun _ => 0) (fun _ => 0) (fun _ => 0) := by
  intro d
  induction d with
  | zero =>
    intro i F hi hF
    obtain ⟨F, rfl⟩ : ∃ G, F = G + 1 := ⟨F - 1, by omega⟩
    have e : i = 8 := by omega
    subst e
    exact br_t (by decide) (nm_e h)
  | succ d ih =>
    intro i F hi hF
    obtain ⟨F, rfl⟩ : ∃ G, F = G + 1 := ⟨F - 1, by omega⟩
    have hT : ¬ (8 : Int32) ≤ nI i := nI_ge (b := 8) (by omega) (by omega)
    exact br_f hT ⟨vp_in_nI (by omega) (by omega), nm_r ((s8 (by omega)).trans (in_s i)) (nm_r (nI_1 i) (ih (i + 1) F (by omega) (by omega)))⟩
theorem in_R {P R T : Nat} (hP : P ≤ 1) (hB : rt_B R T) : i_Rel 3 (nI P, nI R, nI T, 1, 0, nI T - 1, -1, 0, fun _ => 0, fun _ => 0, fun _ => 0, fun _ => 0, fun _ => 0, fun _ => 0, fun _ => 0, fun _ => 0, fun _ => 0, fun _ => 0, fun _ => 0, in_f 8, fun _ => 0, fun _ => 0, fun _ => 0, fun _ => 0, fun _ => 0, fun _ => 0, fun _ => 0, fun _ => 0) (nI P, nI R, nI T, 0, 1, 0, nI T - 1, -1, 0, fun _ => 0, fun _ => 0, fun _ => 0, fun _ => 0, fun _ => 0, fun _ => 0, fun _ => 0, fun _ => 0, fun _ => 0, fun _ => 0, fun _ => 0, in_f 8, fun _ => 0, fun _ => 0, fun _ => 0, fun _ => 0, fun _ => 0, fun _ => 0, fun _ => 0) := by
  have hb := hB
  obtain ⟨hB1, hB2, hB3, hB4⟩ := hb
  obtain ⟨S, rfl⟩ : ∃ S, T = S + 1 := ⟨T - 1, by omega⟩
  have hpo : nI P = 0 ∨ nI P = 1 := by
    by_cases e : P = 0
    · subst e
      exact Or.inl rfl
    · have e : P = 1 := by omega
      subst e
      exact Or.inr rfl
  have hw : ∀ t, t < S + 1 → in_f 8 t = -1 := fun t ht => if_pos (by omega)
  rw [nI_pred]
  have hI : hv_I R (S + 1) 0 (fun _ => 0) (fun _ => 0) (in_f 8) (fun _ => 0) (fun _ => 0) (fun _ => 0) (fun _ => 0) := by
    refine ⟨?_, ?_, ?_, ?_⟩
    · intro t ht
      exact Or.inr ⟨by show (0 : Int32) ≠ 2; decide, hw t ht, rfl⟩
    · intro t ht r hr
      exact Or.inl rfl
    · intro r hr
      refine ⟨0, fun _ => 0, rfl, fun i hi => absurd hi (by omega), fun i hi => absurd hi (by omega), ?_, fun i j _ hj => absurd hj (by omega)⟩
      intro u hu e
      rw [hw u hu] at e
      exact absurd e.symm (ux_ne1 (by omega))
    · intro u hu e
      exact absurd (hw u hu) e
  have hM : mn_M R (S + 1) (fun _ => 0) (fun _ => 0) (fun _ => 0) (fun _ => 0) (fun _ => 0) (fun _ => 0) := by
    intro t ht
    exact ⟨0, 0, 0, rfl, by omega, rfl, by omega, rfl, by omega, fun _ => rfl, fun i hi => absurd hi (by omega), fun i hi => absurd hi (by omega)⟩
  have hK : tb_B (S + 1) 0 (fun _ => 0) (fun _ => 0) := ⟨by omega, fun u hu => ⟨rfl, Nat.le_refl 0⟩⟩
  exact rl_mk (M := 64 * 3) (N := 0) hB hpo (show S < S + 1 by omega) (Nat.zero_le _) hK hI hM
set_option maxHeartbeats 1000000 in
theorem i_vc0 (k0 : Int32) (k1 : Int32) (k2 : Int32) : wpX_init (fun u => wpY_init (fun v => i_Rel 3 u v) k0 k1 k2) k0 k1 k2 := by
  obtain ⟨P, p1, p2, hP⟩ := cl_E k0 0 1 (by omega) (by omega)
  obtain ⟨R, r1, r2, hR⟩ := cl_E k1 1 16 (by omega) (by omega)
  obtain ⟨T, t1, t2, hT⟩ := cl_E k2 2 8 (by omega) (by omega)
  have xP : ∀ A : Int32 → Prop, A (nI P) → wpX_clamp A k0 0 1 := hP
  have xR : ∀ A : Int32 → Prop, A (nI R) → wpX_clamp A k1 1 16 := hR
  have xT : ∀ A : Int32 → Prop, A (nI T) → wpX_clamp A k2 2 8 := hT
  have fin := in_R (P := P) (R := R) (T := T) p2 ⟨r1, r2, t1, t2⟩
  unfold wpX_init
  refine xP _ (xR _ (xT _ (nm_e ⟨9, ?_⟩)))
  have hY : wpY_init (fun v => i_Rel 3 (nI P, nI R, nI T, 1, 0, nI T - 1, -1, 0, fun _ => 0, fun _ => 0, fun _ => 0, fun _ => 0, fun _ => 0, fun _ => 0, fun _ => 0, fun _ => 0, fun _ => 0, fun _ => 0, fun _ => 0, in_f 8, fun _ => 0, fun _ => 0, fun _ => 0, fun _ => 0, fun _ => 0, fun _ => 0, fun _ => 0, fun _ => 0) v) k0 k1 k2 := by
    refine hP (fun z => wY_init_176 (fun v => i_Rel 3 (nI P, nI R, nI T, 1, 0, nI T - 1, -1, 0, fun _ => 0, fun _ => 0, fun _ => 0, fun _ => 0, fun _ => 0, fun _ => 0, fun _ => 0, fun _ => 0, fun _ => 0, fun _ => 0, fun _ => 0, in_f 8, fun _ => 0, fun _ => 0, fun _ => 0, fun _ => 0, fun _ => 0, fun _ => 0, fun _ => 0, fun _ => 0) v) k1 k2 z 0 0 0 0 0 0 0 0 0 (fun _ => 0) (fun _ => 0) (fun _ => 0) (fun _ => 0) (fun _ => 0) (fun _ => 0) (fun _ => 0) (fun _ => 0) (fun _ => 0) (fun _ => 0) (fun _ => 0) (fun _ => 0) (fun _ => 0) (fun _ => 0) (fun _ => 0) (fun _ => 0) (fun _ => 0) (fun _ => 0) (fun _ => 0)) ?_
    refine hR (fun z => wY_init_201 (fun v => i_Rel 3 (nI P, nI R, nI T, 1, 0, nI T - 1, -1, 0, fun _ => 0, fun _ => 0, fun _ => 0, fun _ => 0, fun _ => 0, fun _ => 0, fun _ => 0, fun _ => 0, fun _ => 0, fun _ => 0, fun _ => 0, in_f 8, fun _ => 0, fun _ => 0, fun _ => 0, fun _ => 0, fun _ => 0, fun _ => 0, fun _ => 0, fun _ => 0) v) k2 z (nI P) 0 0 0 0 0 0 0 0 (fun _ => 0) (fun _ => 0) (fun _ => 0) (fun _ => 0) (fun _ => 0) (fun _ => 0) (fun _ => 0) (fun _ => 0) (fun _ => 0) (fun _ => 0) (fun _ => 0) (fun _ => 0) (fun _ => 0) (fun _ => 0) (fun _ => 0) (fun _ => 0) (fun _ => 0) (fun _ => 0) (fun _ => 0)) ?_
    refine hT (fun z => ∃ n232 : Nat, wY_init_232 (fun v => i_Rel 3 (nI P, nI R, nI T, 1, 0, nI T - 1, -1, 0, fun _ => 0, fun _ => 0, fun _ => 0, fun _ => 0, fun _ => 0, fun _ => 0, fun _ => 0, fun _ => 0, fun _ => 0, fun _ => 0, fun _ => 0, in_f 8, fun _ => 0, fun _ => 0, fun _ => 0, fun _ => 0, fun _ => 0, fun _ => 0, fun _ => 0, fun _ => 0) v) (nI P) (nI R) z 0 0 0 0 0 0 n232 0 (fun _ => 0) (fun _ => 0) (fun _ => 0) (fun _ => 0) (fun _ => 0) (fun _ => 0) (fun _ => 0) (fun _ => 0) (fun _ => 0) (fun _ => 0) (fun _ => 0) (fun _ => 0) (fun _ => 0) (fun _ => 0) (fun _ => 0) (fun _ => 0) (fun _ => 0) (fun _ => 0) (fun _ => 0)) ?_
    have h1 := in_Y (po := nI P) (R := nI R) (T := nI T) (post := fun v => i_Rel 3 (nI P, nI R, nI T, 1, 0, nI T - 1, -1, 0, fun _ => 0, fun _ => 0, fun _ => 0, fun _ => 0, fun _ => 0, fun _ => 0, fun _ => 0, fun _ => 0, fun _ => 0, fun _ => 0, fun _ => 0, in_f 8, fun _ => 0, fun _ => 0, fun _ => 0, fun _ => 0, fun _ => 0, fun _ => 0, fun _ => 0, fun _ => 0) v) fin 8 0 9 (by omega) (by omega)
    rw [in_0] at h1
    exact ⟨9, h1⟩
  have h2 := in_X (po := nI P) (R := nI R) (T := nI T) (cu := nI T - 1) (post := fun u => wpY_init (fun v => i_Rel 3 u v) k0 k1 k2) hY 8 0 9 (by omega) (by omega)
  rw [in_0] at h2
  exact h2
theorem i_vc_setRow {k : Nat} {u : SX} {v : SY} (I : i_Rel k u v) (hk : k + 5 ≤ 2563) (v1 : Int32) (v2 : Int32) : wpX_setRow (fun r u' => wpY_setRow (fun r' v' => r' = r ∧ i_Rel (k + 5) u' v') v v1 v2) u v1 v2 := by
  have J := i_up I
  obtain ⟨R, T, N, c, tk, po, nt, cc, lt, lw, va, ok, oo, oa, ln, st, ts, pc, ac, ab, rk, wr, wm, ur, uv, ul, he, qu, qs, bl, ib, tc, rfl, rfl, hB, hpo, hc, hN, hK, hI, hM⟩ := I
  have hb := hB
  obtain ⟨hB1, hB2, hB3, hB4⟩ := hb
  unfold wpX_setRow
  cases ix_2 v1 (n := R) (by omega) with
  | inl h => exact ir_0 h (br_t rfl (ny_0 h ⟨rfl, J⟩))
  | inr h =>
    obtain ⟨j, hj, rfl⟩ := h
    have h16 : vp_in (nI j) 16 := vp_in_nI (by omega) (by omega)
    refine ir_1 hj hB2 (br_f one0 (br_c (fun e => ⟨h16, nm_r (s8 (by omega)) (ny_1 hj (by omega) (br_t e ⟨h16, nm_r (s8 (by omega)) ⟨rfl, ?_⟩⟩))⟩) (fun e => ny_1 hj (by omega) (br_f e ⟨rfl, J⟩))))
    exact rl_mk hB hpo hc (by omega) hK hI hM
set_option maxHeartbeats 1000000 in
theorem i_vc_addOp {k : Nat} {u : SX} {v : SY} (I : i_Rel k u v) (hk : k + 5 ≤ 2563) (v1 : Int32) (v2 : Int32) (v3 : Int32) (v4 : Int32) : wpX_addOp (fun r u' => wpY_addOp (fun r' v' => r' = r ∧ i_Rel (k + 5) u' v') v v1 v2 v3 v4) u v1 v2 v3 v4 := by
  have J := i_up I
  obtain ⟨R, T, N, c, tk, po, nt, cc, lt, lw, va, ok, oo, oa, ln, st, ts, pc, ac, ab, rk, wr, wm, ur, uv, ul, he, qu, qs, bl, ib, tc, rfl, rfl, hB, hpo, hc, hN, hK, hI, hM⟩ := I
  have hb := hB
  obtain ⟨hB1, hB2, hB3, hB4⟩ := hb
  cases ix_2 v1 (n := T) (by omega) with
  | inl h =>
    unfold wpX_addOp
    exact it_0 h (br_t rfl (ny_0 h ⟨rfl, J⟩))
  | inr h =>
    obtain ⟨t, ht, rfl⟩ := h
    have h8 : vp_in (nI t) 8 := vp_in_nI (by omega) (by omega)
    have hct : (nI t).toNatClampNeg = t := nI_clamp (by omega)
    obtain ⟨l, p, z, m1, m2, m3, m4, m5, m6, m7, m8, m9⟩ := hM t ht
    by_cases s0 : st (nI t).toNatClampNeg = 0
    · by_cases hl : ln (nI t).toNatClampNeg < 8
      · have hl8 : l < 8 := by
          rw [hct, m1] at hl
          exact (nI_ltI (b := 8) (by omega) (by omega)).mp hl
        by_cases hk : v2 = 1 ∨ v2 = 2
        · have hX : ∀ Q : Int32 → SX → Prop, wX_addOp_40 Q (nI t) v2 v3 v4 po (nI R) (nI T) nt cc (nI c) lt lw va ok oo oa ln st ts pc ac ab rk wr wm ur uv ul he qu qs bl → wpX_addOp Q (po, nI R, nI T, nt, cc, nI c, lt, lw, va, ok, oo, oa, ln, st, ts, pc, ac, ab, rk, wr, wm, ur, uv, ul, he, qu, qs, bl) (nI t) v2 v3 v4 := by
            intro Q G
            unfold wpX_addOp
            refine it_1 ht hB4 (br_f one0 ⟨h8, br_t s0 ⟨h8, br_t hl (br_c (fun _ => G) (fun k1 => ?_))⟩⟩)
            cases hk with
            | inl k => exact absurd k k1
            | inr k => exact br_t k G
          have hY : ∀ Q : Int32 → SY → Prop, wY_addOp_50 Q (nI t) v2 v3 v4 po (nI R) (nI T) (lN N) nt cc (nI c) lt lw va ok oo oa ln st ts pc ac ab rk wr wm tc ur uv ul he ib → wpY_addOp Q (po, nI R, nI T, lN N, nt, cc, nI c, lt, lw, va, ok, oo, oa, ln, st, ts, pc, ac, ab, rk, wr, wm, tc, ur, uv, ul, he, ib) (nI t) v2 v3 v4 := by
            intro Q G
            refine ny_1 ht (by omega) ⟨h8, br_t s0 ⟨h8, br_t hl (br_c (fun _ => G) (fun k1 => ?_))⟩⟩
            cases hk with
            | inl k => exact absurd k k1
            | inr k => exact br_t k G
          refine hX _ ?_
          unfold wX_addOp_40
          cases ix_2 v3 (n := R) (by omega) with
          | inl h => exact ir_0 h (br_t rfl (hY _ (ny_0 h ⟨rfl, J⟩)))
          | inr h =>
            obtain ⟨r, hr, rfl⟩ := h
            have e5 : nI t * 8 + ln (nI t).toNatClampNeg = nI (t * 8 + l) := by rw [hct, m1, ix_8]
            have h64 : vp_in (nI (t * 8 + l)) 64 := vp_in_nI (by omega) (by omega)
            have eln : upd ln (nI t).toNatClampNeg (ln (nI t).toNatClampNeg + 1) = upd ln t (nI (l + 1)) := by rw [hct, m1, nI_1]
            refine ir_1 hr hB2 (br_f one0 ⟨h8, nm_r e5 ⟨h64, nm_r (s8 (by omega)) ⟨h64, nm_r (s8 (by omega)) ⟨h64, nm_r (s8 (by omega)) ⟨h8, h8, nm_r eln (hY _ (ny_1 hr (by omega) ⟨h8, nm_r e5 ⟨h64, nm_r (s8 (by omega)) ⟨h64, nm_r (s8 (by omega)) ⟨h64, nm_r (s8 (by omega)) ⟨h8, h8, nm_r eln ⟨rfl, ?_⟩⟩⟩⟩⟩⟩))⟩⟩⟩⟩⟩)
            exact rl_mk hB hpo hc (by omega) hK hI (mn_add hM m1 hl8 hr)
        · have k1 : ¬ v2 = 1 := fun z => hk (Or.inl z)
          have k2 : ¬ v2 = 2 := fun z => hk (Or.inr z)
          unfold wpX_addOp
          exact it_1 ht hB4 (br_f one0 ⟨h8, br_t s0 ⟨h8, br_t hl (br_f k1 (br_f k2 (ny_1 ht (by omega) ⟨h8, br_t s0 ⟨h8, br_t hl (br_f k1 (br_f k2 ⟨rfl, J⟩))⟩⟩)))⟩⟩)
      · unfold wpX_addOp
        exact it_1 ht hB4 (br_f one0 ⟨h8, br_t s0 ⟨h8, br_f hl (ny_1 ht (by omega) ⟨h8, br_t s0 ⟨h8, br_f hl ⟨rfl, J⟩⟩⟩)⟩⟩)
    · unfold wpX_addOp
      exact it_1 ht hB4 (br_f one0 ⟨h8, br_f s0 (ny_1 ht (by omega) ⟨h8, br_f s0 ⟨rfl, J⟩⟩)⟩)
theorem i_vc_begin {k : Nat} {u : SX} {v : SY} (I : i_Rel k u v) (hk : k + 5 ≤ 2563) (v1 : Int32) : wpX_begin (fun r u' => wpY_begin (fun r' v' => r' = r ∧ i_Rel (k + 5) u' v') v v1) u v1 := by
  have J := i_up I
  obtain ⟨R, T, N, c, tk, po, nt, cc, lt, lw, va, ok, oo, oa, ln, st, ts, pc, ac, ab, rk, wr, wm, ur, uv, ul, he, qu, qs, bl, ib, tc, rfl, rfl, hB, hpo, hc, hN, hK, hI, hM⟩ := I
  have hb := hB
  obtain ⟨hB1, hB2, hB3, hB4⟩ := hb
  unfold wpX_begin
  cases ix_2 v1 (n := T) (by omega) with
  | inl h => exact it_0 h (br_t rfl (ny_0 h ⟨rfl, J⟩))
  | inr h =>
    obtain ⟨t, ht, rfl⟩ := h
    have h8 : vp_in (nI t) 8 := vp_in_nI (by omega) (by omega)
    have hct : (nI t).toNatClampNeg = t := nI_clamp (by omega)
    by_cases s0 : st (nI t).toNatClampNeg = 0
    · have s0' : st t = 0 := by rw [← hct]; exact s0
      refine it_1 ht hB4 (br_f one0 ⟨h8, br_t s0 ⟨h8, nm_r (s8 (by omega)) (nm_e ⟨h8, nm_r (s8 (by omega)) ⟨h8, nm_r (s8 (by omega)) ⟨h8, nm_r (s8 (by omega)) ⟨h8, ny_1 ht (by omega) ⟨h8, br_t s0 ⟨h8, nm_r (s8 (by omega)) (nm_e ⟨h8, nm_r (s8 (by omega)) ⟨h8, nm_r (s8 (by omega)) ⟨h8, nm_r (s8 (by omega)) ⟨h8, rfl, ?_⟩⟩⟩⟩)⟩⟩⟩⟩⟩⟩)⟩⟩)
      exact rl_mk hB hpo hc (by omega) hK (hv_st hI ht (by rw [s0']; decide) (by decide)) (mn_bg hM ht s0')
    · exact it_1 ht hB4 (br_f one0 ⟨h8, br_f s0 (ny_1 ht (by omega) ⟨h8, br_f s0 ⟨rfl, J⟩⟩)⟩)
theorem i_vc_step {k : Nat} {u : SX} {v : SY} (I : i_Rel k u v) (hk : k + 5 ≤ 2563) : wpX_step (fun r u' => wpY_step (fun r' v' => r' = r ∧ i_Rel (k + 5) u' v') v) u := by
  obtain ⟨ev, u', v', hR, hX, hY⟩ := sp_L I (by omega)
  exact hX _ (hY _ ⟨rfl, rl_up hR (by omega)⟩)
theorem i_vc_run {k : Nat} {u : SX} {v : SY} (I : i_Rel k u v) (hk : k + 5 ≤ 2563) (v1 : Int32) : wpX_run (fun r u' => wpY_run (fun r' v' => r' = r ∧ i_Rel (k + 5) u' v') v v1) u v1 := by
  obtain ⟨K, k1, k2, hC⟩ := cl_E v1 1 64 (by omega) (by omega)
  obtain ⟨a1, a2, a3, a4, a5, a6, a7, a8, a9, a10, a11, a12, a13, a14, a15, a16, a17, a18, a19, a20, a21, a22, a23, a24, a25, a26, a27, a28⟩ := u
  obtain ⟨b1, b2, b3, b4, b5, b6, b7, b8, b9, b10, b11, b12, b13, b14, b15, b16, b17, b18, b19, b20, b21, b22, b23, b24, b25, b26, b27, b28⟩ := v
  obtain ⟨r, u', v', hR, hX, hY⟩ := rn_l (M := 64 * k) k2 (by omega) K 0 0 a1 a2 a3 a4 a5 a6 a7 a8 a9 a10 a11 a12 a13 a14 a15 a16 a17 a18 a19 a20 a21 a22 a23 a24 a25 a26 a27 a28 b1 b2 b3 b4 b5 b6 b7 b8 b9 b10 b11 b12 b13 b14 b15 b16 b17 b18 b19 b20 b21 b22 b23 b24 b25 b26 b27 b28 (by omega) I
  have xC : ∀ A : Int32 → Prop, A (nI K) → wpX_clamp A v1 1 64 := hC
  unfold wpX_run
  refine xC _ ⟨K + 1, hX _ (K + 1) (by omega) ?_⟩
  exact hC (fun z => ∃ n27 : Nat, wY_run_27 (fun r' v' => r' = r ∧ i_Rel (k + 5) u' v') z n27 0 0 b1 b2 b3 b4 b5 b6 b7 b8 b9 b10 b11 b12 b13 b14 b15 b16 b17 b18 b19 b20 b21 b22 b23 b24 b25 b26 b27 b28) ⟨K + 1, hY _ (K + 1) (by omega) ⟨rfl, rl_up hR (by omega)⟩⟩
theorem i_vc_txInfo {k : Nat} {u : SX} {v : SY} (I : i_Rel k u v) (hk : k + 5 ≤ 2563) (v1 : Int32) (v2 : Int32) : wpX_txInfo (fun r => wpY_txInfo (fun r' => r' = r ∧ i_Rel (k + 5) u v) v v1 v2) u v1 v2 := by
  have J := i_up I
  obtain ⟨R, T, N, c, tk, po, nt, cc, lt, lw, va, ok, oo, oa, ln, st, ts, pc, ac, ab, rk, wr, wm, ur, uv, ul, he, qu, qs, bl, ib, tc, rfl, rfl, hB, hpo, hc, hN, hK, hI, hM⟩ := I
  have hb := hB
  obtain ⟨hB1, hB2, hB3, hB4⟩ := hb
  unfold wpX_txInfo
  cases ix_2 v1 (n := T) (by omega) with
  | inl h => exact it_0 h (br_t rfl (ny_0 h ⟨rfl, J⟩))
  | inr h =>
    obtain ⟨t, ht, rfl⟩ := h
    have h8 : vp_in (nI t) 8 := vp_in_nI (by omega) (by omega)
    by_cases n0 : v2 = 0
    · subst n0
      exact it_1 ht hB4 (br_f one0 (br_f (by decide) (br_f (by decide) (br_t rfl ⟨h8, ny_1 ht (by omega) (br_t rfl ⟨h8, rfl, J⟩)⟩))))
    by_cases n1 : v2 = 1
    · subst n1
      exact it_1 ht hB4 (br_f one0 (br_f (by decide) (br_f (by decide) (br_f (by decide) (br_t rfl ⟨h8, ny_1 ht (by omega) (br_f (by decide) (br_t rfl ⟨h8, rfl, J⟩))⟩)))))
    by_cases n2 : v2 = 2
    · subst n2
      exact it_1 ht hB4 (br_f one0 (br_f (by decide) (br_f (by decide) (br_f (by decide) (br_f (by decide) (br_t rfl ⟨h8, ny_1 ht (by omega) (br_f (by decide) (br_f (by decide) (br_t rfl ⟨h8, rfl, J⟩)))⟩))))))
    by_cases n3 : v2 = 3
    · subst n3
      exact it_1 ht hB4 (br_f one0 (br_f (by decide) (br_f (by decide) (br_f (by decide) (br_f (by decide) (br_f (by decide) (br_t rfl ⟨h8, ny_1 ht (by omega) (br_f (by decide) (br_f (by decide) (br_f (by decide) (br_t rfl ⟨h8, rfl, J⟩))))⟩)))))))
    by_cases n4 : v2 = 4
    · subst n4
      exact it_1 ht hB4 (br_f one0 (br_f (by decide) (br_f (by decide) (br_f (by decide) (br_f (by decide) (br_f (by decide) (br_f (by decide) (br_t rfl ⟨h8, ny_1 ht (by omega) (br_f (by decide) (br_f (by decide) (br_f (by decide) (br_f (by decide) (br_t rfl ⟨h8, rfl, J⟩)))))⟩))))))))
    by_cases n5 : v2 = 5
    · subst n5
      exact it_1 ht hB4 (br_f one0 (br_f (by decide) (br_f (by decide) (br_f (by decide) (br_f (by decide) (br_f (by decide) (br_f (by decide) (br_f (by decide) (br_t rfl ⟨h8, ny_1 ht (by omega) (br_f (by decide) (br_f (by decide) (br_f (by decide) (br_f (by decide) (br_f (by decide) (br_t rfl ⟨h8, rfl, J⟩))))))⟩)))))))))
    by_cases n6 : v2 = 6
    · subst n6
      exact it_1 ht hB4 (br_f one0 (br_f (by decide) (br_f (by decide) (br_f (by decide) (br_f (by decide) (br_f (by decide) (br_f (by decide) (br_f (by decide) (br_f (by decide) (br_t rfl ⟨h8, ny_1 ht (by omega) (br_f (by decide) (br_f (by decide) (br_f (by decide) (br_f (by decide) (br_f (by decide) (br_f (by decide) (br_t rfl ⟨h8, rfl, J⟩)))))))⟩))))))))))
    by_cases n7 : v2 = 7
    · subst n7
      exact it_1 ht hB4 (br_f one0 (br_f (by decide) (br_f (by decide) (br_f (by decide) (br_f (by decide) (br_f (by decide) (br_f (by decide) (br_f (by decide) (br_f (by decide) (br_f (by decide) (br_t rfl ⟨h8, ny_1 ht (by omega) (br_f (by decide) (br_f (by decide) (br_f (by decide) (br_f (by decide) (br_f (by decide) (br_f (by decide) (br_f (by decide) (br_t rfl ⟨h8, rfl, J⟩))))))))⟩)))))))))))
    by_cases n8 : v2 = 8
    · subst n8
      exact it_1 ht hB4 (br_f one0 (br_f (by decide) (br_f (by decide) (br_f (by decide) (br_f (by decide) (br_f (by decide) (br_f (by decide) (br_f (by decide) (br_f (by decide) (br_f (by decide) (br_f (by decide) (br_t rfl ⟨h8, ny_1 ht (by omega) (br_f (by decide) (br_f (by decide) (br_f (by decide) (br_f (by decide) (br_f (by decide) (br_f (by decide) (br_f (by decide) (br_f (by decide) (br_t rfl ⟨h8, rfl, J⟩)))))))))⟩))))))))))))
    exact it_1 ht hB4 (br_f one0 (br_c (fun _ => ny_1 ht (by omega) (br_f n0 (br_f n1 (br_f n2 (br_f n3 (br_f n4 (br_f n5 (br_f n6 (br_f n7 (br_f n8 (⟨rfl, J⟩))))))))))) (fun _ => br_c (fun _ => ny_1 ht (by omega) (br_f n0 (br_f n1 (br_f n2 (br_f n3 (br_f n4 (br_f n5 (br_f n6 (br_f n7 (br_f n8 (⟨rfl, J⟩))))))))))) (fun _ => br_f n0 (br_f n1 (br_f n2 (br_f n3 (br_f n4 (br_f n5 (br_f n6 (br_f n7 (br_f n8 (trivial)))))))))))))
theorem i_vc_holdMode {k : Nat} {u : SX} {v : SY} (I : i_Rel k u v) (hk : k + 5 ≤ 2563) (v1 : Int32) (v2 : Int32) : wpX_holdMode (fun r => wpY_holdMode (fun r' => r' = r ∧ i_Rel (k + 5) u v) v v1 v2) u v1 v2 := by
  have J := i_up I
  obtain ⟨R, T, N, c, tk, po, nt, cc, lt, lw, va, ok, oo, oa, ln, st, ts, pc, ac, ab, rk, wr, wm, ur, uv, ul, he, qu, qs, bl, ib, tc, rfl, rfl, hB, hpo, hc, hN, hK, hI, hM⟩ := I
  have hb := hB
  obtain ⟨hB1, hB2, hB3, hB4⟩ := hb
  unfold wpX_holdMode
  cases ix_2 v1 (n := T) (by omega) with
  | inl h => exact it_0 h (br_t rfl (nz_0 h ⟨rfl, J⟩))
  | inr h =>
    obtain ⟨t, ht, rfl⟩ := h
    refine it_1 ht hB4 (br_f one0 ?_)
    cases ix_2 v2 (n := R) (by omega) with
    | inl h => exact ir_0 h (br_t rfl (nz_1 ht (by omega) (ny_0 h ⟨rfl, J⟩)))
    | inr h =>
      obtain ⟨r, hr, rfl⟩ := h
      have hin := vi_16 (u := t) (r := r) (by omega) (by omega)
      exact ir_1 hr hB2 (br_f one0 ⟨hin, nz_1 ht (by omega) (ny_1 hr (by omega) ⟨hin, rfl, J⟩)⟩)
theorem i_vc_rowValue {k : Nat} {u : SX} {v : SY} (I : i_Rel k u v) (hk : k + 5 ≤ 2563) (v1 : Int32) : wpX_rowValue (fun r => wpY_rowValue (fun r' => r' = r ∧ i_Rel (k + 5) u v) v v1) u v1 := by
  have J := i_up I
  obtain ⟨R, T, N, c, tk, po, nt, cc, lt, lw, va, ok, oo, oa, ln, st, ts, pc, ac, ab, rk, wr, wm, ur, uv, ul, he, qu, qs, bl, ib, tc, rfl, rfl, hB, hpo, hc, hN, hK, hI, hM⟩ := I
  have hb := hB
  obtain ⟨hB1, hB2, hB3, hB4⟩ := hb
  unfold wpX_rowValue
  cases ix_2 v1 (n := R) (by omega) with
  | inl h => exact ir_0 h (br_t rfl (ny_0 h ⟨rfl, J⟩))
  | inr h =>
    obtain ⟨r, hr, rfl⟩ := h
    have hin : vp_in (nI r) 16 := vp_in_nI (by omega) (by omega)
    exact ir_1 hr hB2 (br_f one0 ⟨hin, ny_1 hr (by omega) ⟨hin, rfl, J⟩⟩)
theorem i_vc_queueLength {k : Nat} {u : SX} {v : SY} (I : i_Rel k u v) (hk : k + 5 ≤ 2563) (v1 : Int32) : wpX_queueLength (fun r => wpY_queueLength (fun r' => r' = r ∧ i_Rel (k + 5) u v) v v1) u v1 := by
  have J := i_up I
  obtain ⟨R, T, N, c, tk, po, nt, cc, lt, lw, va, ok, oo, oa, ln, st, ts, pc, ac, ab, rk, wr, wm, ur, uv, ul, he, qu, qs, bl, ib, tc, rfl, rfl, hB, hpo, hc, hN, hK, hI, hM⟩ := I
  have hb := hB
  obtain ⟨hB1, hB2, hB3, hB4⟩ := hb
  unfold wpX_queueLength
  cases ix_2 v1 (n := R) (by omega) with
  | inl h => exact ir_0 h (br_t rfl (ny_0 h ⟨rfl, J⟩))
  | inr h =>
    obtain ⟨r, hr, rfl⟩ := h
    have hin : vp_in (nI r) 16 := vp_in_nI (by omega) (by omega)
    obtain ⟨n, q, e1, e2, e3⟩ := hI.2.2.1 r hr
    have es : nI n = qs (nI r).toNatClampNeg := by rw [nI_clamp (by omega)]; exact e1.symm
    exact ir_1 hr hB2 (br_f one0 ⟨hin, ql_Y hB hI.1 hr e3 ⟨es, J⟩⟩)
theorem i_vc_queueAt {k : Nat} {u : SX} {v : SY} (I : i_Rel k u v) (hk : k + 5 ≤ 2563) (v1 : Int32) (v2 : Int32) : wpX_queueAt (fun r => wpY_queueAt (fun r' => r' = r ∧ i_Rel (k + 5) u v) v v1 v2) u v1 v2 := by
  have J := i_up I
  obtain ⟨R, T, N, c, tk, po, nt, cc, lt, lw, va, ok, oo, oa, ln, st, ts, pc, ac, ab, rk, wr, wm, ur, uv, ul, he, qu, qs, bl, ib, tc, rfl, rfl, hB, hpo, hc, hN, hK, hI, hM⟩ := I
  have hb := hB
  obtain ⟨hB1, hB2, hB3, hB4⟩ := hb
  unfold wpX_queueAt
  cases ix_2 v1 (n := R) (by omega) with
  | inl h => exact ir_0 h (br_t rfl (ny_0 h ⟨rfl, J⟩))
  | inr h =>
    obtain ⟨r, hr, rfl⟩ := h
    have hin : vp_in (nI r) 16 := vp_in_nI (by omega) (by omega)
    obtain ⟨n, q, e1, e2, e3⟩ := hI.2.2.1 r hr
    have hn := qq_le e3
    have es : qs (nI r).toNatClampNeg = nI n := by rw [nI_clamp (by omega)]; exact e1
    refine ir_1 hr hB2 (br_f one0 ?_)
    cases ix_2 v2 (n := n) (by omega) with
    | inl h =>
      have hp : ∀ p, p < n → nI p ≠ v2 := by
        intro p hp e
        subst e
        cases h with
        | inl h => exact nI_pos (by omega) h
        | inr h => exact nI_ge hp (by omega) h
      refine br_c (fun _ => qa_0 hB hI.1 hK hr e3 hp ⟨rfl, J⟩) (fun z => ⟨hin, br_f ?_ (qa_0 hB hI.1 hK hr e3 hp ⟨rfl, J⟩)⟩)
      rw [es]
      cases h with
      | inl h => exact absurd h z
      | inr h => exact Int32.not_lt.mpr h
    | inr h =>
      obtain ⟨p, hp, rfl⟩ := h
      have hlt : nI p < qs (nI r).toNatClampNeg := by rw [es]; exact nI_lt hp (by omega)
      have eq : nI (q p) = qu (nI r * 8 + nI p).toNatClampNeg := by rw [ci_8 (by omega) (by omega)]; exact (e2 p hp).symm
      exact br_f (nI_pos (by omega)) ⟨hin, br_t hlt ⟨vi_8 (by omega) (by omega), qa_1 hB hI.1 hK hr e3 hp ⟨eq, J⟩⟩⟩
theorem i_vc_lastTx {k : Nat} {u : SX} {v : SY} (I : i_Rel k u v) (hk : k + 5 ≤ 2563) : wpX_lastTx (fun r => wpY_lastTx (fun r' => r' = r ∧ i_Rel (k + 5) u v) v) u := by
  have J := i_up I
  obtain ⟨R, T, N, c, tk, po, nt, cc, lt, lw, va, ok, oo, oa, ln, st, ts, pc, ac, ab, rk, wr, wm, ur, uv, ul, he, qu, qs, bl, ib, tc, rfl, rfl, hB, hpo, hc, hN, hK, hI, hM⟩ := I
  have hb := hB
  obtain ⟨hB1, hB2, hB3, hB4⟩ := hb
  exact ⟨rfl, J⟩
theorem i_vc_lastWounds {k : Nat} {u : SX} {v : SY} (I : i_Rel k u v) (hk : k + 5 ≤ 2563) : wpX_lastWounds (fun r => wpY_lastWounds (fun r' => r' = r ∧ i_Rel (k + 5) u v) v) u := by
  have J := i_up I
  obtain ⟨R, T, N, c, tk, po, nt, cc, lt, lw, va, ok, oo, oa, ln, st, ts, pc, ac, ab, rk, wr, wm, ur, uv, ul, he, qu, qs, bl, ib, tc, rfl, rfl, hB, hpo, hc, hN, hK, hI, hM⟩ := I
  have hb := hB
  obtain ⟨hB1, hB2, hB3, hB4⟩ := hb
  exact ⟨rfl, J⟩
theorem i_vc_commits {k : Nat} {u : SX} {v : SY} (I : i_Rel k u v) (hk : k + 5 ≤ 2563) : wpX_commits (fun r => wpY_commits (fun r' => r' = r ∧ i_Rel (k + 5) u v) v) u := by
  have J := i_up I
  obtain ⟨R, T, N, c, tk, po, nt, cc, lt, lw, va, ok, oo, oa, ln, st, ts, pc, ac, ab, rk, wr, wm, ur, uv, ul, he, qu, qs, bl, ib, tc, rfl, rfl, hB, hpo, hc, hN, hK, hI, hM⟩ := I
  have hb := hB
  obtain ⟨hB1, hB2, hB3, hB4⟩ := hb
  exact ⟨rfl, J⟩
end
