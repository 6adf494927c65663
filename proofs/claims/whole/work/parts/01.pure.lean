/-! rows pasted from the pure rows -/
theorem pk_us {f : Nat → Int32} {k : Nat} {x : Int32} : upd f k x k = x := if_pos rfl
theorem pk_un {f : Nat → Int32} {k j : Nat} {x : Int32} (h : j ≠ k) : upd f k x j = f j := if_neg h
theorem pk_uLs {f : Nat → Int64} {k : Nat} {x : Int64} : vp_updL f k x k = x := if_pos rfl
theorem pk_uLn {f : Nat → Int64} {k j : Nat} {x : Int64} (h : j ≠ k) : vp_updL f k x j = f j := if_neg h
theorem pk_sub {a b : Nat} (h : b ≤ a) : nI a - nI b = nI (a - b) := by
  obtain ⟨c, rfl⟩ : ∃ c, a = c + b := ⟨a - b, by omega⟩
  rw [← nI_add, Int32.add_sub_cancel, Nat.add_sub_cancel]
theorem pk_m1 (n : Nat) : nI (n + 1) + (-1) = nI n := by
  rw [← nI_1, Int32.add_assoc, show (1 : Int32) + (-1) = 0 from rfl, Int32.add_zero]
theorem pk_mul (a b : Nat) : nI a * nI b = nI (a * b) := (Int32.ofNat_mul a b).symm
theorem pk_div {a d : Nat} (ha : a < 2 ^ 31) (h0 : 0 < d) (hd : d < 2 ^ 31) : nI a / nI d = nI (a / d) := by
  apply Int32.toInt_inj.mp
  rw [lg_idiv_nonneg (by rw [nI_toInt ha]; omega) (by rw [nI_toInt hd]; omega), nI_toInt ha, nI_toInt hd, nI_toInt (Nat.lt_of_le_of_lt (Nat.div_le_self a d) ha)]
  first | rfl | exact (Int.natCast_ediv _ _).symm
theorem pk_rem {a d : Nat} (ha : a < 2 ^ 31) (h0 : 0 < d) (hd : d < 2 ^ 31) : nI a - nI a / nI d * nI d = nI (a % d) := by
  rw [pk_div ha h0 hd, pk_mul, pk_sub (Nat.div_mul_le_self a d)]
  exact congrArg nI (by have := Nat.div_add_mod' a d; omega)
theorem pk_ix (x : Int32) {n : Nat} (hn : n < 2 ^ 31) : x < 0 ∨ nI n ≤ x ∨ ∃ j : Nat, j < n ∧ x = nI j := by
  by_cases h : x < 0
  · exact Or.inl h
  · obtain ⟨j, hj, rfl⟩ := nI_of h
    by_cases h2 : j < n
    · exact Or.inr (Or.inr ⟨j, h2, rfl⟩)
    · exact Or.inr (Or.inl (nI_le (by omega) hj))
theorem pk_le {x y : Int32} {A B : Prop} (a b : Nat) (f : a ≤ b → A) (g : b < a → B) (hx : x = nI a := by rfl) (hy : y = nI b := by rfl) (ha : a < 2 ^ 31 := by omega) (hb : b < 2 ^ 31 := by omega) : (x ≤ y → A) ∧ (¬ x ≤ y → B) := by
  subst hx hy
  rw [nI_leI ha hb]
  exact ⟨f, fun z => g (by omega)⟩
theorem pk_lt {x y : Int32} {A B : Prop} (a b : Nat) (f : a < b → A) (g : b ≤ a → B) (hx : x = nI a := by rfl) (hy : y = nI b := by rfl) (ha : a < 2 ^ 31 := by omega) (hb : b < 2 ^ 31 := by omega) : (x < y → A) ∧ (¬ x < y → B) := by
  subst hx hy
  rw [nI_ltI ha hb]
  exact ⟨f, fun z => g (by omega)⟩
theorem pk_eq {x y : Int32} {A B : Prop} (a b : Nat) (f : a = b → A) (g : a ≠ b → B) (hx : x = nI a := by rfl) (hy : y = nI b := by rfl) (ha : a < 2 ^ 31 := by omega) (hb : b < 2 ^ 31 := by omega) : (x = y → A) ∧ (¬ x = y → B) := by
  subst hx hy
  rw [nI_eq ha hb]
  exact ⟨f, g⟩
theorem pk_in {x : Int32} (n N : Nat) (h : n < N) (hx : x = nI n := by rfl) (hN : N < 2 ^ 31 := by omega) : vp_in x N := by
  subst hx
  exact vp_in_nI h hN
theorem pk_cl {x : Int32} (n : Nat) (hx : x = nI n := by rfl) (h : n < 2 ^ 31 := by omega) : x.toNatClampNeg = n := by
  subst hx
  exact nI_clamp h
theorem pk_lT {n : Nat} (h : n < 2 ^ 63) : (lN n).toInt = (n : Int) := lg_ofNat_toInt h
theorem pk_lLT {a b : Nat} (ha : a < 2 ^ 63) (hb : b < 2 ^ 63) : lN a < lN b ↔ a < b := by
  rw [Int64.lt_iff_toInt_lt, pk_lT ha, pk_lT hb]; omega
theorem pk_lLE {a b : Nat} (ha : a < 2 ^ 63) (hb : b < 2 ^ 63) : lN a ≤ lN b ↔ a ≤ b := by
  rw [Int64.le_iff_toInt_le, pk_lT ha, pk_lT hb]; omega
theorem pk_lEQ {a b : Nat} (ha : a < 2 ^ 63) (hb : b < 2 ^ 63) : lN a = lN b ↔ a = b := by
  rw [← Int64.toInt_inj, pk_lT ha, pk_lT hb]; omega
theorem pk_loop {σ : Type} (W : Nat → Nat → σ → Prop) (I : Nat → σ → Prop) (e i0 : Nat) (s : σ) (hi : i0 ≤ e) (h0 : I i0 s) (hx : ∀ n s, I e s → W (n + 1) e s)
    (hs : ∀ n i s, i < e → I i s → (∀ s', I (i + 1) s' → W n (i + 1) s') → W (n + 1) i s) : ∃ n, W n i0 s :=
  ⟨e + 1, loop_i W I e hx hs (e + 1) i0 s hi (by omega) h0⟩
/-! small facts on stores -/
theorem ux_e {f : Nat → Int32} {k j : Nat} {x : Int32} (h : j = k) : upd f k x j = x := if_pos h
theorem ux_id {f : Nat → Int32} {k : Nat} {x : Int32} (h : f k = x) : upd f k x = f := by
  funext j
  by_cases e : j = k
  · rw [ux_e e, e, h]
  · rw [pk_un e]
theorem ux_uu {f : Nat → Int32} {k : Nat} {x y : Int32} : upd (upd f k x) k y = upd f k y := by
  funext j
  by_cases e : j = k
  · rw [ux_e e, ux_e e]
  · rw [pk_un e, pk_un e, pk_un e]
theorem ux_ne1 {n : Nat} (h : n < 2 ^ 31) : nI n ≠ -1 := by
  intro e
  have := nI_pos h
  rw [e] at this
  exact this (by decide)
theorem ux_ne {a b : Nat} (h : a ≠ b) (ha : a < 2 ^ 31) (hb : b < 2 ^ 31) : nI a ≠ nI b := fun e => h ((nI_eq ha hb).mp e)
theorem ix_8 (u i : Nat) : nI u * 8 + nI i = nI (u * 8 + i) := by
  rw [show (8 : Int32) = nI 8 from rfl, pk_mul, nI_add]
theorem ix_16 (u i : Nat) : nI u * 16 + nI i = nI (u * 16 + i) := by
  rw [show (16 : Int32) = nI 16 from rfl, pk_mul, nI_add]
theorem ix_8z (u : Nat) : nI u * 8 = nI (u * 8) := by
  rw [show (8 : Int32) = nI 8 from rfl, pk_mul]
theorem ix_16z (u : Nat) : nI u * 16 = nI (u * 16) := by
  rw [show (16 : Int32) = nI 16 from rfl, pk_mul]
/-! counting -/
def wc_n (P : Nat → Bool) : Nat → Nat
  | 0 => 0
  | T + 1 => wc_n P T + (if P T = true then 1 else 0)
theorem wc_ext {P Q : Nat → Bool} : ∀ T, (∀ u, u < T → P u = Q u) → wc_n P T = wc_n Q T := by
  intro T
  induction T with
  | zero => intro _; rfl
  | succ T ih =>
    intro h
    show wc_n P T + (if P T = true then 1 else 0) = wc_n Q T + (if Q T = true then 1 else 0)
    rw [ih (fun u hu => h u (by omega)), h T (by omega)]
theorem wc_zero {P : Nat → Bool} : ∀ T, (∀ u, u < T → P u = false) → wc_n P T = 0 := by
  intro T
  induction T with
  | zero => intro _; rfl
  | succ T ih =>
    intro h
    show wc_n P T + (if P T = true then 1 else 0) = 0
    rw [ih (fun u hu => h u (by omega)), h T (by omega)]
    simp
theorem wc_ins {P Q : Nat → Bool} (v : Nat) : ∀ T, v < T → P v = false → (∀ u, u < T → Q u = (P u || decide (u = v))) → wc_n Q T = wc_n P T + 1 := by
  intro T
  induction T with
  | zero => intro h; omega
  | succ T ih =>
    intro hv hP hQ
    show wc_n Q T + (if Q T = true then 1 else 0) = wc_n P T + (if P T = true then 1 else 0) + 1
    by_cases e : v = T
    · subst e
      have h1 : wc_n Q v = wc_n P v := wc_ext v (fun u hu => by
        rw [hQ u (by omega)]
        have h2 : decide (u = v) = false := decide_eq_false (by omega)
        rw [h2, Bool.or_false])
      rw [h1, hQ v (by omega), hP]
      simp
    · rw [ih (by omega) hP (fun u hu => hQ u (by omega)), hQ T (by omega)]
      have h2 : decide (T = v) = false := decide_eq_false (by omega)
      rw [h2, Bool.or_false]
      exact Nat.add_right_comm _ _ _
theorem wc_le (P : Nat → Bool) : ∀ T, wc_n P T ≤ T := by
  intro T
  induction T with
  | zero => exact Nat.le_refl 0
  | succ T ih =>
    show wc_n P T + (if P T = true then 1 else 0) ≤ T + 1
    by_cases e : P T = true
    · rw [if_pos e]; omega
    · rw [if_neg e]; omega
theorem wc_lt {P : Nat → Bool} {T v : Nat} (hv : v < T) (h : P v = false) : wc_n P T < T := by
  have h1 := wc_ins (P := P) (Q := fun u => P u || decide (u = v)) v T hv h (fun u _ => rfl)
  have h2 := wc_le (fun u => P u || decide (u = v)) T
  omega
def wc_m (q : Nat → Nat) : Nat → Nat → Bool
  | 0, _ => false
  | p + 1, v => wc_m q p v || decide (v = q p)
theorem wc_mem (q : Nat → Nat) (v : Nat) : ∀ p, wc_m q p v = true ↔ ∃ i, i < p ∧ q i = v := by
  intro p
  induction p with
  | zero =>
    constructor
    · intro h
      exact absurd h (by simp [wc_m])
    · intro ⟨i, hi, _⟩
      omega
  | succ p ih =>
    show (wc_m q p v || decide (v = q p)) = true ↔ _
    rw [Bool.or_eq_true, ih, decide_eq_true_eq]
    constructor
    · intro h
      cases h with
      | inl h =>
        obtain ⟨i, hi, e⟩ := h
        exact ⟨i, by omega, e⟩
      | inr e => exact ⟨p, by omega, e.symm⟩
    · intro ⟨i, hi, e⟩
      by_cases h : i = p
      · subst h
        exact Or.inr e.symm
      · exact Or.inl ⟨i, by omega, e⟩
theorem wc_cnt (q : Nat → Nat) (T n : Nat) (hT : ∀ i, i < n → q i < T) (hi : ∀ i j, i < j → j < n → q i ≠ q j) : ∀ p, p ≤ n → wc_n (wc_m q p) T = p := by
  intro p
  induction p with
  | zero => intro _; exact wc_zero T (fun u _ => rfl)
  | succ p ih =>
    intro hp
    have h0 : wc_m q p (q p) = false := by
      by_cases h : wc_m q p (q p) = true
      · obtain ⟨i, h1, h2⟩ := (wc_mem q (q p) p).mp h
        exact absurd h2 (hi i p h1 (by omega))
      · simpa using h
    rw [wc_ins (P := wc_m q p) (Q := wc_m q (p + 1)) (q p) T (hT p (by omega)) h0 (fun u _ => rfl), ih (by omega)]
/-! a row's queue: n members q 0, q 1, .. in the order of their tickets tk, just those u < T with wr u = r -/
def qq_R (T r n : Nat) (wr : Nat → Int32) (tk q : Nat → Nat) : Prop :=
  (∀ i, i < n → q i < T ∧ wr (q i) = nI r) ∧ (∀ u, u < T → wr u = nI r → ∃ i, i < n ∧ q i = u) ∧ (∀ i j, i < j → j < n → tk (q i) < tk (q j))
theorem qq_inj {T r n : Nat} {wr : Nat → Int32} {tk q : Nat → Nat} (h : qq_R T r n wr tk q) : ∀ i j, i < j → j < n → q i ≠ q j := by
  intro i j h1 h2 e
  have h3 := h.2.2 i j h1 h2
  rw [e] at h3
  omega
theorem qq_len {T r n : Nat} {wr : Nat → Int32} {tk q : Nat → Nat} (h : qq_R T r n wr tk q) : wc_n (fun u => decide (wr u = nI r)) T = n := by
  have h1 := wc_cnt q T n (fun i hi => (h.1 i hi).1) (qq_inj h) n (Nat.le_refl n)
  have h2 : wc_n (fun u => decide (wr u = nI r)) T = wc_n (wc_m q n) T := wc_ext T (fun u hu => by
    rw [Bool.eq_iff_iff, decide_eq_true_eq, wc_mem]
    constructor
    · exact h.2.1 u hu
    · intro ⟨i, hi, e⟩
      rw [← e]
      exact (h.1 i hi).2)
  rw [h2, h1]
theorem qq_rank {T r n : Nat} {wr : Nat → Int32} {tk q : Nat → Nat} (h : qq_R T r n wr tk q) {p : Nat} (hp : p < n) : wc_n (fun v => decide (wr v = nI r) && decide (tk v < tk (q p))) T = p := by
  have h1 := wc_cnt q T n (fun i hi => (h.1 i hi).1) (qq_inj h) p (by omega)
  have h2 : wc_n (fun v => decide (wr v = nI r) && decide (tk v < tk (q p))) T = wc_n (wc_m q p) T := wc_ext T (fun u hu => by
    rw [Bool.eq_iff_iff, Bool.and_eq_true, decide_eq_true_eq, decide_eq_true_eq, wc_mem]
    constructor
    · intro ⟨h3, h4⟩
      obtain ⟨i, hi, e⟩ := h.2.1 u hu h3
      refine ⟨i, ?_, e⟩
      by_cases h5 : i < p
      · exact h5
      · by_cases h6 : i = p
        · rw [← e, h6] at h4
          omega
        · have h7 := h.2.2 p i (by omega) hi
          rw [e] at h7
          omega
    · intro ⟨i, hi, e⟩
      rw [← e]
      exact ⟨(h.1 i (by omega)).2, h.2.2 i p hi hp⟩)
  rw [h2, h1]
theorem qq_le {T r n : Nat} {wr : Nat → Int32} {tk q : Nat → Nat} (h : qq_R T r n wr tk q) : n ≤ T := by
  have h1 := wc_le (fun u => decide (wr u = nI r)) T
  rw [qq_len h] at h1
  exact h1
theorem qq_lt {T r n : Nat} {wr : Nat → Int32} {tk q : Nat → Nat} (h : qq_R T r n wr tk q) {v : Nat} (hv : v < T) (hw : wr v ≠ nI r) : n < T := by
  have h1 := wc_lt (P := fun u => decide (wr u = nI r)) hv (decide_eq_false hw)
  rw [qq_len h] at h1
  exact h1
theorem qq_rem {T r n : Nat} {wr : Nat → Int32} {tk q : Nat → Nat} (h : qq_R T r n wr tk q) (hr : r < 16) {p : Nat} (hp : p < n) : qq_R T r (n - 1) (upd wr (q p) (-1)) tk (fun i => if i < p then q i else q (i + 1)) := by
  have hij := qq_inj h
  have hne : ∀ i, i < n → i ≠ p → q i ≠ q p := by
    intro i hi hip
    by_cases h1 : i < p
    · exact hij i p h1 hp
    · exact fun e => hij p i (by omega) hi e.symm
  refine ⟨?_, ?_, ?_⟩
  · intro i hi
    by_cases h1 : i < p
    · have h2 := h.1 i (by omega)
      simp only [if_pos h1]
      rw [pk_un (hne i (by omega) (by omega))]
      exact h2
    · have h2 := h.1 (i + 1) (by omega)
      simp only [if_neg h1]
      rw [pk_un (hne (i + 1) (by omega) (by omega))]
      exact h2
  · intro u hu hw
    by_cases e : u = q p
    · rw [ux_e e] at hw
      exact absurd hw.symm (ux_ne1 (by omega))
    · rw [pk_un e] at hw
      obtain ⟨i, hi, e2⟩ := h.2.1 u hu hw
      by_cases h1 : i < p
      · exact ⟨i, by omega, by simp only [if_pos h1]; exact e2⟩
      · by_cases h3 : i = p
        · rw [h3] at e2
          exact absurd e2.symm e
        · refine ⟨i - 1, by omega, ?_⟩
          have h4 : ¬ (i - 1 < p) := by omega
          have h5 : i - 1 + 1 = i := by omega
          simp only [if_neg h4, h5]
          exact e2
  · intro i j h1 h2
    by_cases hi : i < p
    · by_cases hj : j < p
      · simp only [if_pos hi, if_pos hj]
        exact h.2.2 i j h1 (by omega)
      · simp only [if_pos hi, if_neg hj]
        exact h.2.2 i (j + 1) (by omega) (by omega)
    · have hj : ¬ j < p := by omega
      simp only [if_neg hi, if_neg hj]
      exact h.2.2 (i + 1) (j + 1) (by omega) (by omega)
/-- tk with v's ticket nt -/
def qq_t (tk : Nat → Nat) (v nt : Nat) : Nat → Nat := fun u => if u = v then nt else tk u
theorem qq_t1 {tk : Nat → Nat} {v nt u : Nat} (h : u = v) : qq_t tk v nt u = nt := if_pos h
theorem qq_t0 {tk : Nat → Nat} {v nt u : Nat} (h : u ≠ v) : qq_t tk v nt u = tk u := if_neg h
theorem qq_oth {T r n : Nat} {wr : Nat → Int32} {tk q : Nat → Nat} (h : qq_R T r n wr tk q) {v : Nat} {x : Int32} (hv : wr v ≠ nI r) (hx : x ≠ nI r) : qq_R T r n (upd wr v x) tk q := by
  have hne : ∀ i, i < n → q i ≠ v := fun i hi e => hv (by rw [← e]; exact (h.1 i hi).2)
  refine ⟨?_, ?_, h.2.2⟩
  · intro i hi
    rw [pk_un (hne i hi)]
    exact h.1 i hi
  · intro u hu hw
    by_cases e : u = v
    · rw [ux_e e] at hw
      exact absurd hw hx
    · rw [pk_un e] at hw
      exact h.2.1 u hu hw
theorem qq_tk {T r n : Nat} {wr : Nat → Int32} {tk q : Nat → Nat} (h : qq_R T r n wr tk q) {v nt : Nat} (hv : wr v ≠ nI r) : qq_R T r n wr (qq_t tk v nt) q := by
  have hne : ∀ i, i < n → q i ≠ v := fun i hi e => hv (by rw [← e]; exact (h.1 i hi).2)
  refine ⟨h.1, h.2.1, ?_⟩
  intro i j h1 h2
  rw [qq_t0 (hne i (by omega)), qq_t0 (hne j h2)]
  exact h.2.2 i j h1 h2
theorem qq_add {T r n : Nat} {wr : Nat → Int32} {tk q : Nat → Nat} (h : qq_R T r n wr tk q) {v nt : Nat} (hvT : v < T) (hv : wr v ≠ nI r) (ht : ∀ i, i < n → tk (q i) < nt) : qq_R T r (n + 1) (upd wr v (nI r)) (qq_t tk v nt) (fun i => if i < n then q i else v) := by
  have hne : ∀ i, i < n → q i ≠ v := fun i hi e => hv (by rw [← e]; exact (h.1 i hi).2)
  refine ⟨?_, ?_, ?_⟩
  · intro i hi
    by_cases h1 : i < n
    · simp only [if_pos h1]
      rw [pk_un (hne i h1)]
      exact h.1 i h1
    · simp only [if_neg h1]
      exact ⟨hvT, pk_us⟩
  · intro u hu hw
    by_cases e : u = v
    · refine ⟨n, by omega, ?_⟩
      have h1 : ¬ n < n := by omega
      simp only [if_neg h1]
      exact e.symm
    · rw [pk_un e] at hw
      obtain ⟨i, hi, e2⟩ := h.2.1 u hu hw
      exact ⟨i, by omega, by simp only [if_pos hi]; exact e2⟩
  · intro i j h1 h2
    have hi : i < n := by omega
    by_cases hj : j < n
    · simp only [if_pos hi, if_pos hj]
      rw [qq_t0 (hne i hi), qq_t0 (hne j hj)]
      exact h.2.2 i j h1 hj
    · simp only [if_pos hi, if_neg hj]
      rw [qq_t0 (hne i hi), qq_t1 rfl]
      exact ht i hi
