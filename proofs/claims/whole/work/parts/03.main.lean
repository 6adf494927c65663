/-! scripts, counters and undo logs -/
def mn_M (R T : Nat) (oo ln st pc ur ul : Nat → Int32) : Prop :=
  ∀ t, t < T → ∃ l p z : Nat, ln t = nI l ∧ l ≤ 8 ∧ pc t = nI p ∧ p ≤ l ∧ ul t = nI z ∧ z ≤ p ∧ (st t = 0 → p = 0) ∧ (∀ i, i < l → ∃ r, r < R ∧ oo (t * 8 + i) = nI r) ∧ (∀ i, i < z → ∃ r, r < R ∧ ur (t * 8 + i) = nI r)
theorem mn_st {R T : Nat} {oo ln st st' pc ur ul : Nat → Int32} (h : mn_M R T oo ln st pc ur ul) (hs : ∀ t, t < T → st' t = 0 → st t = 0) : mn_M R T oo ln st' pc ur ul := by
  intro t ht
  obtain ⟨l, p, z, h1, h2, h3, h4, h5, h6, h7, h8, h9⟩ := h t ht
  exact ⟨l, p, z, h1, h2, h3, h4, h5, h6, fun e => h7 (hs t ht e), h8, h9⟩
theorem mn_ab {R T : Nat} {oo ln st pc ur ul : Nat → Int32} (h : mn_M R T oo ln st pc ur ul) (v : Nat) : mn_M R T oo ln st (upd pc v 0) ur (upd ul v 0) := by
  intro t ht
  obtain ⟨l, p, z, h1, h2, h3, h4, h5, h6, h7, h8, h9⟩ := h t ht
  by_cases e : t = v
  · refine ⟨l, 0, 0, h1, h2, ?_, by omega, ?_, by omega, fun _ => rfl, h8, fun i hi => by omega⟩
    · rw [ux_e e]; rfl
    · rw [ux_e e]; rfl
  · refine ⟨l, p, z, h1, h2, ?_, h4, ?_, h6, h7, h8, h9⟩
    · rw [pk_un e]; exact h3
    · rw [pk_un e]; exact h5
theorem mn_cm {R T : Nat} {oo ln st pc ur ul : Nat → Int32} (h : mn_M R T oo ln st pc ur ul) (v : Nat) : mn_M R T oo ln st pc ur (upd ul v 0) := by
  intro t ht
  obtain ⟨l, p, z, h1, h2, h3, h4, h5, h6, h7, h8, h9⟩ := h t ht
  by_cases e : t = v
  · refine ⟨l, p, 0, h1, h2, h3, h4, ?_, by omega, h7, h8, fun i hi => by omega⟩
    rw [ux_e e]; rfl
  · refine ⟨l, p, z, h1, h2, h3, h4, ?_, h6, h7, h8, h9⟩
    rw [pk_un e]; exact h5
theorem mn_bg {R T : Nat} {oo ln st pc ur ul : Nat → Int32} (h : mn_M R T oo ln st pc ur ul) {v : Nat} (hv : v < T) (hs : st v = 0) : mn_M R T oo ln (upd st v 1) (upd pc v 0) ur ul := by
  intro t ht
  obtain ⟨l, p, z, h1, h2, h3, h4, h5, h6, h7, h8, h9⟩ := h t ht
  by_cases e : t = v
  · have h10 : p = 0 := h7 (by rw [e]; exact hs)
    refine ⟨l, 0, z, h1, h2, ?_, by omega, h5, by omega, fun _ => rfl, h8, h9⟩
    rw [ux_e e]; rfl
  · refine ⟨l, p, z, h1, h2, ?_, h4, h5, h6, ?_, h8, h9⟩
    · rw [pk_un e]; exact h3
    · rw [pk_un e]; exact h7
theorem mn_pr {R T : Nat} {oo ln st pc ur ul : Nat → Int32} (h : mn_M R T oo ln st pc ur ul) {v l p : Nat} (hl : ln v = nI l) (hp : pc v = nI p) (hpl : p < l) (hl8 : l ≤ 8) (hs : st v ≠ 0) : mn_M R T oo ln st (upd pc v (nI (p + 1))) ur ul := by
  intro t ht
  obtain ⟨l', p', z, h1, h2, h3, h4, h5, h6, h7, h8, h9⟩ := h t ht
  by_cases e : t = v
  · subst e
    have e1 : l' = l := (nI_eq (by omega) (by omega)).mp (h1.symm.trans hl)
    have e2 : p' = p := (nI_eq (by omega) (by omega)).mp (h3.symm.trans hp)
    refine ⟨l', p + 1, z, h1, h2, pk_us, by omega, h5, by omega, fun z => absurd z hs, h8, h9⟩
  · refine ⟨l', p', z, h1, h2, ?_, h4, h5, h6, h7, h8, h9⟩
    rw [pk_un e]; exact h3
theorem mn_pw {R T : Nat} {oo ln st pc ur ul : Nat → Int32} (h : mn_M R T oo ln st pc ur ul) {v l p z r : Nat} (hl : ln v = nI l) (hp : pc v = nI p) (hz : ul v = nI z) (hpl : p < l) (hl8 : l ≤ 8) (hzp : z ≤ p) (hr : r < R) (hs : st v ≠ 0) : mn_M R T oo ln st (upd pc v (nI (p + 1))) (upd ur (v * 8 + z) (nI r)) (upd ul v (nI (z + 1))) := by
  intro t ht
  obtain ⟨l', p', z', h1, h2, h3, h4, h5, h6, h7, h8, h9⟩ := h t ht
  by_cases e : t = v
  · subst e
    have e1 : l' = l := (nI_eq (by omega) (by omega)).mp (h1.symm.trans hl)
    have e2 : p' = p := (nI_eq (by omega) (by omega)).mp (h3.symm.trans hp)
    have e3 : z' = z := (nI_eq (by omega) (by omega)).mp (h5.symm.trans hz)
    refine ⟨l', p + 1, z + 1, h1, h2, pk_us, by omega, pk_us, by omega, fun z => absurd z hs, h8, ?_⟩
    intro i hi
    by_cases e4 : i = z
    · exact ⟨r, hr, ux_e (by omega)⟩
    · rw [pk_un (by omega)]
      exact h9 i (by omega)
  · refine ⟨l', p', z', h1, h2, ?_, h4, ?_, h6, h7, h8, ?_⟩
    · rw [pk_un e]; exact h3
    · rw [pk_un e]; exact h5
    · intro i hi
      rw [pk_un (by omega)]
      exact h9 i hi
theorem mn_add {R T : Nat} {oo ln st pc ur ul : Nat → Int32} (h : mn_M R T oo ln st pc ur ul) {v l r : Nat} (hl : ln v = nI l) (hl8 : l < 8) (hr : r < R) : mn_M R T (upd oo (v * 8 + l) (nI r)) (upd ln v (nI (l + 1))) st pc ur ul := by
  intro t ht
  obtain ⟨l', p', z', h1, h2, h3, h4, h5, h6, h7, h8, h9⟩ := h t ht
  by_cases e : t = v
  · subst e
    have e1 : l' = l := (nI_eq (by omega) (by omega)).mp (h1.symm.trans hl)
    refine ⟨l + 1, p', z', pk_us, by omega, h3, by omega, h5, h6, h7, ?_, h9⟩
    intro i hi
    by_cases e4 : i = l
    · exact ⟨r, hr, ux_e (by omega)⟩
    · rw [pk_un (by omega)]
      exact h8 i (by omega)
  · refine ⟨l', p', z', ?_, h2, h3, h4, h5, h6, h7, ?_, h9⟩
    · rw [pk_un e]; exact h1
    · intro i hi
      rw [pk_un (by omega)]
      exact h8 i hi
/-- the values with the undo entries b + i - 1, .., b put back -/
def un_f (ur uv : Nat → Int32) (b : Nat) : Nat → (Nat → Int32) → (Nat → Int32)
  | 0, va => va
  | i + 1, va => un_f ur uv b i (upd va (ur (b + i)).toNatClampNeg (uv (b + i)))
/-! round the table -/
theorem md_e {a T : Nat} (h : a < 2 * T) : (a < T ∧ a % T = a) ∨ (T ≤ a ∧ a % T = a - T) := by
  by_cases h1 : a < T
  · exact Or.inl ⟨h1, Nat.mod_eq_of_lt h1⟩
  · exact Or.inr ⟨by omega, by rw [Nat.mod_eq_sub_mod (by omega), Nat.mod_eq_of_lt (by omega)]⟩
theorem md_1 {c i T : Nat} (hc : c < T) (hi : i < T) (h : (c + i) % T + 1 < T) : (c + (i + 1)) % T = (c + i) % T + 1 := by
  have h1 := md_e (a := c + i) (T := T) (by omega)
  have h2 := md_e (a := c + (i + 1)) (T := T) (by omega)
  omega
theorem md_0 {c i T : Nat} (hc : c < T) (hi : i < T) (h : T ≤ (c + i) % T + 1) : (c + (i + 1)) % T = 0 := by
  have h1 := md_e (a := c + i) (T := T) (by omega)
  have h2 := md_e (a := c + (i + 1)) (T := T) (by omega)
  omega
