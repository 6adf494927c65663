/-! what is owed -/
section
variable {po nt cc cu lt lw ly : Int32} {R T : Nat} {va ok oo oa ln st ts pc ac ab rk wr wm ur uv ul he qu qs bl : Nat → Int32}
theorem ix_2 (x : Int32) {n : Nat} (hn : n < 2 ^ 31) : (x < 0 ∨ nI n ≤ x) ∨ ∃ j, j < n ∧ x = nI j := by
  cases pk_ix x hn with
  | inl h => exact Or.inl (Or.inl h)
  | inr h =>
    cases h with
    | inl h => exact Or.inl (Or.inr h)
    | inr h => exact Or.inr h
theorem ir_0 {x : Int32} {post : Int32 → Prop} (h : x < 0 ∨ nI R ≤ x) (hp : post 0) : wpX_isRow post (po, nI R, nI T, nt, cc, cu, lt, lw, va, ok, oo, oa, ln, st, ts, pc, ac, ab, rk, wr, wm, ur, uv, ul, he, qu, qs, bl) x := by
  cases h with
  | inl h => exact br_t h hp
  | inr h => exact br_c (fun _ => hp) (fun _ => br_t h hp)
theorem ir_1 {j : Nat} {post : Int32 → Prop} (hj : j < R) (hR : R ≤ 16) (hp : post 1) : wpX_isRow post (po, nI R, nI T, nt, cc, cu, lt, lw, va, ok, oo, oa, ln, st, ts, pc, ac, ab, rk, wr, wm, ur, uv, ul, he, qu, qs, bl) (nI j) :=
  br_f (nI_pos (by omega)) (br_f (nI_ge hj (by omega)) hp)
theorem it_0 {x : Int32} {post : Int32 → Prop} (h : x < 0 ∨ nI T ≤ x) (hp : post 0) : wpX_isTx post (po, nI R, nI T, nt, cc, cu, lt, lw, va, ok, oo, oa, ln, st, ts, pc, ac, ab, rk, wr, wm, ur, uv, ul, he, qu, qs, bl) x := by
  cases h with
  | inl h => exact br_t h hp
  | inr h => exact br_c (fun _ => hp) (fun _ => br_t h hp)
theorem it_1 {j : Nat} {post : Int32 → Prop} (hj : j < T) (hT : T ≤ 8) (hp : post 1) : wpX_isTx post (po, nI R, nI T, nt, cc, cu, lt, lw, va, ok, oo, oa, ln, st, ts, pc, ac, ab, rk, wr, wm, ur, uv, ul, he, qu, qs, bl) (nI j) :=
  br_f (nI_pos (by omega)) (br_f (nI_ge hj (by omega)) hp)
theorem ny_0 {x : Int32} {n : Nat} {A B : Prop} (h : x < 0 ∨ nI n ≤ x) (b : B) : (x < 0 → B) ∧ (¬ x < 0 → ((x < nI n → A) ∧ (¬ x < nI n → B))) := by
  cases h with
  | inl h => exact br_t h b
  | inr h => exact br_c (fun _ => b) (fun _ => br_f (Int32.not_lt.mpr h) b)
theorem ny_1 {j n : Nat} {A B C : Prop} (hj : j < n) (hn : n < 2 ^ 31) (a : A) : (nI j < 0 → B) ∧ (¬ nI j < 0 → ((nI j < nI n → A) ∧ (¬ nI j < nI n → C))) :=
  br_f (nI_pos (by omega)) (br_t (nI_lt hj hn) a)
theorem nz_0 {x : Int32} {n : Nat} {A B : Prop} (h : x < 0 ∨ nI n ≤ x) (b : B) : (x < 0 → B) ∧ (¬ x < 0 → ((nI n ≤ x → B) ∧ (¬ nI n ≤ x → A))) := by
  cases h with
  | inl h => exact br_t h b
  | inr h => exact br_c (fun _ => b) (fun _ => br_t h b)
theorem nz_1 {j n : Nat} {A B C : Prop} (hj : j < n) (hn : n < 2 ^ 31) (a : A) : (nI j < 0 → B) ∧ (¬ nI j < 0 → ((nI n ≤ nI j → C) ∧ (¬ nI n ≤ nI j → A))) :=
  br_f (nI_pos (by omega)) (br_f (nI_ge hj hn) a)
end
def i_Rel (k : Nat) (u : SX) (v : SY) : Prop := rl_R (64 * k) u v
theorem i_up {k : Nat} {u : SX} {v : SY} (h : i_Rel k u v) : i_Rel (k + 5) u v := rl_up h (by omega)
/-- the waiting rows while the constructors fill them -/
def in_f (i : Nat) : Nat → Int32 := fun j => if j < i then -1 else 0
theorem in_0 : in_f 0 = fun _ => 0 := by
  funext j
  exact if_neg (by omega)
theorem in_s (i : Nat) : upd (in_f i) i (-1) = in_f (i + 1) := by
  funext j
  show (if j = i then (-1 : Int32) else if j < i then -1 else 0) = if j < i + 1 then -1 else 0
  by_cases e : j = i
  · rw [if_pos e, if_pos (by omega)]
  · rw [if_neg e]
    by_cases e2 : j < i
    · rw [if_pos e2, if_pos (by omega)]
    · rw [if_neg e2, if_neg (by omega)]
theorem in_X {po R T cu : Int32} {post : SX → Prop} (h : post (po, R, T, 1, 0, cu, -1, 0, fun _ => 0, fun _ => 0, fun _ => 0, fun _ => 0, fun _ => 0, fun _ => 0, fun _ => 0, fun _ => 0, fun _ => 0, fun _ => 0, fun _ => 0, in_f 8, fun _ => 0, fun _ => 0, fun _ => 0, fun _ => 0, fun _ => 0, fun _ => 0, fun _ => 0, fun _ => 0)) :
    ∀ d i F, i + d = 8 → d < F → wX_init_231 post po R T 1 0 cu (-1) 0 F (nI i) (fun _ => 0) (fun _ => 0) (fun _ => 0) (fun _ => 0) (fun _ => 0) (fun _ => 0) (fun _ => 0) (fun _ => 0) (fun _ => 0) (fun _ => 0) (fun _ => 0) (in_f i) (fun _ => 0) (fun _ => 0) (fun _ => 0) (fun _ => 0) (fun _ => 0) (fun _ => 0) (fun _ => 0) (fun _ => 0) := by
  intro d
  induction d with
  | zero =>
    intro i F hi hF
    obtain ⟨F, rfl⟩ : ∃ G, F = G + 1 := ⟨F - 1, by omega⟩
    have e : i = 8 := by omega
    subst e
    exact br_t (by decide) h
  | succ d ih =>
    intro i F hi hF
    obtain ⟨F, rfl⟩ : ∃ G, F = G + 1 := ⟨F - 1, by omega⟩
    have hT : ¬ (8 : Int32) ≤ nI i := nI_ge (b := 8) (by omega) (by omega)
    exact br_f hT ⟨vp_in_nI (by omega) (by omega), nm_r ((s8 (by omega)).trans (in_s i)) (nm_r (nI_1 i) (ih (i + 1) F (by omega) (by omega)))⟩
theorem in_Y {po R T : Int32} {post : SY → Prop} (h : post (po, R, T, 0, 1, 0, T - 1, -1, 0, fun _ => 0, fun _ => 0, fun _ => 0, fun _ => 0, fun _ => 0, fun _ => 0, fun _ => 0, fun _ => 0, fun _ => 0, fun _ => 0, fun _ => 0, in_f 8, fun _ => 0, fun _ => 0, fun _ => 0, fun _ => 0, fun _ => 0, fun _ => 0, fun _ => 0)) :
    ∀ d i F, i + d = 8 → d < F → wY_init_232 post po R T 0 0 0 0 0 0 F (nI i) (fun _ => 0) (fun _ => 0) (fun _ => 0) (fun _ => 0) (fun _ => 0) (fun _ => 0) (fun _ => 0) (fun _ => 0) (fun _ => 0) (fun _ => 0) (fun _ => 0) (in_f i) (fun _ => 0) (fun _ => 0) (fun _ => 0) (fun _ => 0) (fun _ => 0) (fun _ => 0) (fun _ => 0) := by
  intro d
  induction d with
  | zero =>
    intro i F hi hF
    obtain ⟨F, rfl⟩ : ∃ G, F = G + 1 := ⟨F - 1, by omega⟩
    have e : i = 8 := by omega
    subst e
    exact br_t (by decide) (nm_e h)
  | succ d ih =>
    intro i F hi hF
    obtain ⟨F, rfl⟩ : ∃ G, F = G + 1 := ⟨F - 1, by omega⟩
    have hT : ¬ (8 : Int32) ≤ nI i := nI_ge (b := 8) (by omega) (by omega)
    exact br_f hT ⟨vp_in_nI (by omega) (by omega), nm_r ((s8 (by omega)).trans (in_s i)) (nm_r (nI_1 i) (ih (i + 1) F (by omega) (by omega)))⟩
theorem in_R {P R T : Nat} (hP : P ≤ 1) (hB : rt_B R T) : i_Rel 3 (nI P, nI R, nI T, 1, 0, nI T - 1, -1, 0, fun _ => 0, fun _ => 0, fun _ => 0, fun _ => 0, fun _ => 0, fun _ => 0, fun _ => 0, fun _ => 0, fun _ => 0, fun _ => 0, fun _ => 0, in_f 8, fun _ => 0, fun _ => 0, fun _ => 0, fun _ => 0, fun _ => 0, fun _ => 0, fun _ => 0, fun _ => 0) (nI P, nI R, nI T, 0, 1, 0, nI T - 1, -1, 0, fun _ => 0, fun _ => 0, fun _ => 0, fun _ => 0, fun _ => 0, fun _ => 0, fun _ => 0, fun _ => 0, fun _ => 0, fun _ => 0, fun _ => 0, in_f 8, fun _ => 0, fun _ => 0, fun _ => 0, fun _ => 0, fun _ => 0, fun _ => 0, fun _ => 0) := by
  have hb := hB
  obtain ⟨hB1, hB2, hB3, hB4⟩ := hb
  obtain ⟨S, rfl⟩ : ∃ S, T = S + 1 := ⟨T - 1, by omega⟩
  have hpo : nI P = 0 ∨ nI P = 1 := by
    by_cases e : P = 0
    · subst e
      exact Or.inl rfl
    · have e : P = 1 := by omega
      subst e
      exact Or.inr rfl
  have hw : ∀ t, t < S + 1 → in_f 8 t = -1 := fun t ht => if_pos (by omega)
  rw [nI_pred]
  have hI : hv_I R (S + 1) 0 (fun _ => 0) (fun _ => 0) (in_f 8) (fun _ => 0) (fun _ => 0) (fun _ => 0) (fun _ => 0) := by
    refine ⟨?_, ?_, ?_, ?_⟩
    · intro t ht
      exact Or.inr ⟨by show (0 : Int32) ≠ 2; decide, hw t ht, rfl⟩
    · intro t ht r hr
      exact Or.inl rfl
    · intro r hr
      refine ⟨0, fun _ => 0, rfl, fun i hi => absurd hi (by omega), fun i hi => absurd hi (by omega), ?_, fun i j _ hj => absurd hj (by omega)⟩
      intro u hu e
      rw [hw u hu] at e
      exact absurd e.symm (ux_ne1 (by omega))
    · intro u hu e
      exact absurd (hw u hu) e
  have hM : mn_M R (S + 1) (fun _ => 0) (fun _ => 0) (fun _ => 0) (fun _ => 0) (fun _ => 0) (fun _ => 0) := by
    intro t ht
    exact ⟨0, 0, 0, rfl, by omega, rfl, by omega, rfl, by omega, fun _ => rfl, fun i hi => absurd hi (by omega), fun i hi => absurd hi (by omega)⟩
  have hK : tb_B (S + 1) 0 (fun _ => 0) (fun _ => 0) := ⟨by omega, fun u hu => ⟨rfl, Nat.le_refl 0⟩⟩
  exact rl_mk (M := 64 * 3) (N := 0) hB hpo (show S < S + 1 by omega) (Nat.zero_le _) hK hI hM
set_option maxHeartbeats 1000000 in
theorem i_vc0 (k0 : Int32) (k1 : Int32) (k2 : Int32) : wpX_init (fun u => wpY_init (fun v => i_Rel 3 u v) k0 k1 k2) k0 k1 k2 := by
  obtain ⟨P, p1, p2, hP⟩ := cl_E k0 0 1 (by omega) (by omega)
  obtain ⟨R, r1, r2, hR⟩ := cl_E k1 1 16 (by omega) (by omega)
  obtain ⟨T, t1, t2, hT⟩ := cl_E k2 2 8 (by omega) (by omega)
  have xP : ∀ A : Int32 → Prop, A (nI P) → wpX_clamp A k0 0 1 := hP
  have xR : ∀ A : Int32 → Prop, A (nI R) → wpX_clamp A k1 1 16 := hR
  have xT : ∀ A : Int32 → Prop, A (nI T) → wpX_clamp A k2 2 8 := hT
  have fin := in_R (P := P) (R := R) (T := T) p2 ⟨r1, r2, t1, t2⟩
  unfold wpX_init
  refine xP _ (xR _ (xT _ (nm_e ⟨9, ?_⟩)))
  have hY : wpY_init (fun v => i_Rel 3 (nI P, nI R, nI T, 1, 0, nI T - 1, -1, 0, fun _ => 0, fun _ => 0, fun _ => 0, fun _ => 0, fun _ => 0, fun _ => 0, fun _ => 0, fun _ => 0, fun _ => 0, fun _ => 0, fun _ => 0, in_f 8, fun _ => 0, fun _ => 0, fun _ => 0, fun _ => 0, fun _ => 0, fun _ => 0, fun _ => 0, fun _ => 0) v) k0 k1 k2 := by
    refine hP (fun z => wY_init_176 (fun v => i_Rel 3 (nI P, nI R, nI T, 1, 0, nI T - 1, -1, 0, fun _ => 0, fun _ => 0, fun _ => 0, fun _ => 0, fun _ => 0, fun _ => 0, fun _ => 0, fun _ => 0, fun _ => 0, fun _ => 0, fun _ => 0, in_f 8, fun _ => 0, fun _ => 0, fun _ => 0, fun _ => 0, fun _ => 0, fun _ => 0, fun _ => 0, fun _ => 0) v) k1 k2 z 0 0 0 0 0 0 0 0 0 (fun _ => 0) (fun _ => 0) (fun _ => 0) (fun _ => 0) (fun _ => 0) (fun _ => 0) (fun _ => 0) (fun _ => 0) (fun _ => 0) (fun _ => 0) (fun _ => 0) (fun _ => 0) (fun _ => 0) (fun _ => 0) (fun _ => 0) (fun _ => 0) (fun _ => 0) (fun _ => 0) (fun _ => 0)) ?_
    refine hR (fun z => wY_init_201 (fun v => i_Rel 3 (nI P, nI R, nI T, 1, 0, nI T - 1, -1, 0, fun _ => 0, fun _ => 0, fun _ => 0, fun _ => 0, fun _ => 0, fun _ => 0, fun _ => 0, fun _ => 0, fun _ => 0, fun _ => 0, fun _ => 0, in_f 8, fun _ => 0, fun _ => 0, fun _ => 0, fun _ => 0, fun _ => 0, fun _ => 0, fun _ => 0, fun _ => 0) v) k2 z (nI P) 0 0 0 0 0 0 0 0 (fun _ => 0) (fun _ => 0) (fun _ => 0) (fun _ => 0) (fun _ => 0) (fun _ => 0) (fun _ => 0) (fun _ => 0) (fun _ => 0) (fun _ => 0) (fun _ => 0) (fun _ => 0) (fun _ => 0) (fun _ => 0) (fun _ => 0) (fun _ => 0) (fun _ => 0) (fun _ => 0) (fun _ => 0)) ?_
    refine hT (fun z => ∃ n232 : Nat, wY_init_232 (fun v => i_Rel 3 (nI P, nI R, nI T, 1, 0, nI T - 1, -1, 0, fun _ => 0, fun _ => 0, fun _ => 0, fun _ => 0, fun _ => 0, fun _ => 0, fun _ => 0, fun _ => 0, fun _ => 0, fun _ => 0, fun _ => 0, in_f 8, fun _ => 0, fun _ => 0, fun _ => 0, fun _ => 0, fun _ => 0, fun _ => 0, fun _ => 0, fun _ => 0) v) (nI P) (nI R) z 0 0 0 0 0 0 n232 0 (fun _ => 0) (fun _ => 0) (fun _ => 0) (fun _ => 0) (fun _ => 0) (fun _ => 0) (fun _ => 0) (fun _ => 0) (fun _ => 0) (fun _ => 0) (fun _ => 0) (fun _ => 0) (fun _ => 0) (fun _ => 0) (fun _ => 0) (fun _ => 0) (fun _ => 0) (fun _ => 0) (fun _ => 0)) ?_
    have h1 := in_Y (po := nI P) (R := nI R) (T := nI T) (post := fun v => i_Rel 3 (nI P, nI R, nI T, 1, 0, nI T - 1, -1, 0, fun _ => 0, fun _ => 0, fun _ => 0, fun _ => 0, fun _ => 0, fun _ => 0, fun _ => 0, fun _ => 0, fun _ => 0, fun _ => 0, fun _ => 0, in_f 8, fun _ => 0, fun _ => 0, fun _ => 0, fun _ => 0, fun _ => 0, fun _ => 0, fun _ => 0, fun _ => 0) v) fin 8 0 9 (by omega) (by omega)
    rw [in_0] at h1
    exact ⟨9, h1⟩
  have h2 := in_X (po := nI P) (R := nI R) (T := nI T) (cu := nI T - 1) (post := fun u => wpY_init (fun v => i_Rel 3 u v) k0 k1 k2) hY 8 0 9 (by omega) (by omega)
  rw [in_0] at h2
  exact h2
theorem i_vc_setRow {k : Nat} {u : SX} {v : SY} (I : i_Rel k u v) (hk : k + 5 ≤ 2563) (v1 : Int32) (v2 : Int32) : wpX_setRow (fun r u' => wpY_setRow (fun r' v' => r' = r ∧ i_Rel (k + 5) u' v') v v1 v2) u v1 v2 := by
  have J := i_up I
  obtain ⟨R, T, N, c, tk, po, nt, cc, lt, lw, va, ok, oo, oa, ln, st, ts, pc, ac, ab, rk, wr, wm, ur, uv, ul, he, qu, qs, bl, ib, tc, rfl, rfl, hB, hpo, hc, hN, hK, hI, hM⟩ := I
  have hb := hB
  obtain ⟨hB1, hB2, hB3, hB4⟩ := hb
  unfold wpX_setRow
  cases ix_2 v1 (n := R) (by omega) with
  | inl h => exact ir_0 h (br_t rfl (ny_0 h ⟨rfl, J⟩))
  | inr h =>
    obtain ⟨j, hj, rfl⟩ := h
    have h16 : vp_in (nI j) 16 := vp_in_nI (by omega) (by omega)
    refine ir_1 hj hB2 (br_f one0 (br_c (fun e => ⟨h16, nm_r (s8 (by omega)) (ny_1 hj (by omega) (br_t e ⟨h16, nm_r (s8 (by omega)) ⟨rfl, ?_⟩⟩))⟩) (fun e => ny_1 hj (by omega) (br_f e ⟨rfl, J⟩))))
    exact rl_mk hB hpo hc (by omega) hK hI hM
set_option maxHeartbeats 1000000 in
theorem i_vc_addOp {k : Nat} {u : SX} {v : SY} (I : i_Rel k u v) (hk : k + 5 ≤ 2563) (v1 : Int32) (v2 : Int32) (v3 : Int32) (v4 : Int32) : wpX_addOp (fun r u' => wpY_addOp (fun r' v' => r' = r ∧ i_Rel (k + 5) u' v') v v1 v2 v3 v4) u v1 v2 v3 v4 := by
  have J := i_up I
  obtain ⟨R, T, N, c, tk, po, nt, cc, lt, lw, va, ok, oo, oa, ln, st, ts, pc, ac, ab, rk, wr, wm, ur, uv, ul, he, qu, qs, bl, ib, tc, rfl, rfl, hB, hpo, hc, hN, hK, hI, hM⟩ := I
  have hb := hB
  obtain ⟨hB1, hB2, hB3, hB4⟩ := hb
  cases ix_2 v1 (n := T) (by omega) with
  | inl h =>
    unfold wpX_addOp
    exact it_0 h (br_t rfl (ny_0 h ⟨rfl, J⟩))
  | inr h =>
    obtain ⟨t, ht, rfl⟩ := h
    have h8 : vp_in (nI t) 8 := vp_in_nI (by omega) (by omega)
    have hct : (nI t).toNatClampNeg = t := nI_clamp (by omega)
    obtain ⟨l, p, z, m1, m2, m3, m4, m5, m6, m7, m8, m9⟩ := hM t ht
    by_cases s0 : st (nI t).toNatClampNeg = 0
    · by_cases hl : ln (nI t).toNatClampNeg < 8
      · have hl8 : l < 8 := by
          rw [hct, m1] at hl
          exact (nI_ltI (b := 8) (by omega) (by omega)).mp hl
        by_cases hk : v2 = 1 ∨ v2 = 2
        · have hX : ∀ Q : Int32 → SX → Prop, wX_addOp_40 Q (nI t) v2 v3 v4 po (nI R) (nI T) nt cc (nI c) lt lw va ok oo oa ln st ts pc ac ab rk wr wm ur uv ul he qu qs bl → wpX_addOp Q (po, nI R, nI T, nt, cc, nI c, lt, lw, va, ok, oo, oa, ln, st, ts, pc, ac, ab, rk, wr, wm, ur, uv, ul, he, qu, qs, bl) (nI t) v2 v3 v4 := by
            intro Q G
            unfold wpX_addOp
            refine it_1 ht hB4 (br_f one0 ⟨h8, br_t s0 ⟨h8, br_t hl (br_c (fun _ => G) (fun k1 => ?_))⟩⟩)
            cases hk with
            | inl k => exact absurd k k1
            | inr k => exact br_t k G
          have hY : ∀ Q : Int32 → SY → Prop, wY_addOp_50 Q (nI t) v2 v3 v4 po (nI R) (nI T) (lN N) nt cc (nI c) lt lw va ok oo oa ln st ts pc ac ab rk wr wm tc ur uv ul he ib → wpY_addOp Q (po, nI R, nI T, lN N, nt, cc, nI c, lt, lw, va, ok, oo, oa, ln, st, ts, pc, ac, ab, rk, wr, wm, tc, ur, uv, ul, he, ib) (nI t) v2 v3 v4 := by
            intro Q G
            refine ny_1 ht (by omega) ⟨h8, br_t s0 ⟨h8, br_t hl (br_c (fun _ => G) (fun k1 => ?_))⟩⟩
            cases hk with
            | inl k => exact absurd k k1
            | inr k => exact br_t k G
          refine hX _ ?_
          unfold wX_addOp_40
          cases ix_2 v3 (n := R) (by omega) with
          | inl h => exact ir_0 h (br_t rfl (hY _ (ny_0 h ⟨rfl, J⟩)))
          | inr h =>
            obtain ⟨r, hr, rfl⟩ := h
            have e5 : nI t * 8 + ln (nI t).toNatClampNeg = nI (t * 8 + l) := by rw [hct, m1, ix_8]
            have h64 : vp_in (nI (t * 8 + l)) 64 := vp_in_nI (by omega) (by omega)
            have eln : upd ln (nI t).toNatClampNeg (ln (nI t).toNatClampNeg + 1) = upd ln t (nI (l + 1)) := by rw [hct, m1, nI_1]
            refine ir_1 hr hB2 (br_f one0 ⟨h8, nm_r e5 ⟨h64, nm_r (s8 (by omega)) ⟨h64, nm_r (s8 (by omega)) ⟨h64, nm_r (s8 (by omega)) ⟨h8, h8, nm_r eln (hY _ (ny_1 hr (by omega) ⟨h8, nm_r e5 ⟨h64, nm_r (s8 (by omega)) ⟨h64, nm_r (s8 (by omega)) ⟨h64, nm_r (s8 (by omega)) ⟨h8, h8, nm_r eln ⟨rfl, ?_⟩⟩⟩⟩⟩⟩))⟩⟩⟩⟩⟩)
            exact rl_mk hB hpo hc (by omega) hK hI (mn_add hM m1 hl8 hr)
        · have k1 : ¬ v2 = 1 := fun z => hk (Or.inl z)
          have k2 : ¬ v2 = 2 := fun z => hk (Or.inr z)
          unfold wpX_addOp
          exact it_1 ht hB4 (br_f one0 ⟨h8, br_t s0 ⟨h8, br_t hl (br_f k1 (br_f k2 (ny_1 ht (by omega) ⟨h8, br_t s0 ⟨h8, br_t hl (br_f k1 (br_f k2 ⟨rfl, J⟩))⟩⟩)))⟩⟩)
      · unfold wpX_addOp
        exact it_1 ht hB4 (br_f one0 ⟨h8, br_t s0 ⟨h8, br_f hl (ny_1 ht (by omega) ⟨h8, br_t s0 ⟨h8, br_f hl ⟨rfl, J⟩⟩⟩)⟩⟩)
    · unfold wpX_addOp
      exact it_1 ht hB4 (br_f one0 ⟨h8, br_f s0 (ny_1 ht (by omega) ⟨h8, br_f s0 ⟨rfl, J⟩⟩)⟩)
theorem i_vc_begin {k : Nat} {u : SX} {v : SY} (I : i_Rel k u v) (hk : k + 5 ≤ 2563) (v1 : Int32) : wpX_begin (fun r u' => wpY_begin (fun r' v' => r' = r ∧ i_Rel (k + 5) u' v') v v1) u v1 := by
  have J := i_up I
  obtain ⟨R, T, N, c, tk, po, nt, cc, lt, lw, va, ok, oo, oa, ln, st, ts, pc, ac, ab, rk, wr, wm, ur, uv, ul, he, qu, qs, bl, ib, tc, rfl, rfl, hB, hpo, hc, hN, hK, hI, hM⟩ := I
  have hb := hB
  obtain ⟨hB1, hB2, hB3, hB4⟩ := hb
  unfold wpX_begin
  cases ix_2 v1 (n := T) (by omega) with
  | inl h => exact it_0 h (br_t rfl (ny_0 h ⟨rfl, J⟩))
  | inr h =>
    obtain ⟨t, ht, rfl⟩ := h
    have h8 : vp_in (nI t) 8 := vp_in_nI (by omega) (by omega)
    have hct : (nI t).toNatClampNeg = t := nI_clamp (by omega)
    by_cases s0 : st (nI t).toNatClampNeg = 0
    · have s0' : st t = 0 := by rw [← hct]; exact s0
      refine it_1 ht hB4 (br_f one0 ⟨h8, br_t s0 ⟨h8, nm_r (s8 (by omega)) (nm_e ⟨h8, nm_r (s8 (by omega)) ⟨h8, nm_r (s8 (by omega)) ⟨h8, nm_r (s8 (by omega)) ⟨h8, ny_1 ht (by omega) ⟨h8, br_t s0 ⟨h8, nm_r (s8 (by omega)) (nm_e ⟨h8, nm_r (s8 (by omega)) ⟨h8, nm_r (s8 (by omega)) ⟨h8, nm_r (s8 (by omega)) ⟨h8, rfl, ?_⟩⟩⟩⟩)⟩⟩⟩⟩⟩⟩)⟩⟩)
      exact rl_mk hB hpo hc (by omega) hK (hv_st hI ht (by rw [s0']; decide) (by decide)) (mn_bg hM ht s0')
    · exact it_1 ht hB4 (br_f one0 ⟨h8, br_f s0 (ny_1 ht (by omega) ⟨h8, br_f s0 ⟨rfl, J⟩⟩)⟩)
theorem i_vc_step {k : Nat} {u : SX} {v : SY} (I : i_Rel k u v) (hk : k + 5 ≤ 2563) : wpX_step (fun r u' => wpY_step (fun r' v' => r' = r ∧ i_Rel (k + 5) u' v') v) u := by
  obtain ⟨ev, u', v', hR, hX, hY⟩ := sp_L I (by omega)
  exact hX _ (hY _ ⟨rfl, rl_up hR (by omega)⟩)
theorem i_vc_run {k : Nat} {u : SX} {v : SY} (I : i_Rel k u v) (hk : k + 5 ≤ 2563) (v1 : Int32) : wpX_run (fun r u' => wpY_run (fun r' v' => r' = r ∧ i_Rel (k + 5) u' v') v v1) u v1 := by
  obtain ⟨K, k1, k2, hC⟩ := cl_E v1 1 64 (by omega) (by omega)
  obtain ⟨a1, a2, a3, a4, a5, a6, a7, a8, a9, a10, a11, a12, a13, a14, a15, a16, a17, a18, a19, a20, a21, a22, a23, a24, a25, a26, a27, a28⟩ := u
  obtain ⟨b1, b2, b3, b4, b5, b6, b7, b8, b9, b10, b11, b12, b13, b14, b15, b16, b17, b18, b19, b20, b21, b22, b23, b24, b25, b26, b27, b28⟩ := v
  obtain ⟨r, u', v', hR, hX, hY⟩ := rn_l (M := 64 * k) k2 (by omega) K 0 0 a1 a2 a3 a4 a5 a6 a7 a8 a9 a10 a11 a12 a13 a14 a15 a16 a17 a18 a19 a20 a21 a22 a23 a24 a25 a26 a27 a28 b1 b2 b3 b4 b5 b6 b7 b8 b9 b10 b11 b12 b13 b14 b15 b16 b17 b18 b19 b20 b21 b22 b23 b24 b25 b26 b27 b28 (by omega) I
  have xC : ∀ A : Int32 → Prop, A (nI K) → wpX_clamp A v1 1 64 := hC
  unfold wpX_run
  refine xC _ ⟨K + 1, hX _ (K + 1) (by omega) ?_⟩
  exact hC (fun z => ∃ n27 : Nat, wY_run_27 (fun r' v' => r' = r ∧ i_Rel (k + 5) u' v') z n27 0 0 b1 b2 b3 b4 b5 b6 b7 b8 b9 b10 b11 b12 b13 b14 b15 b16 b17 b18 b19 b20 b21 b22 b23 b24 b25 b26 b27 b28) ⟨K + 1, hY _ (K + 1) (by omega) ⟨rfl, rl_up hR (by omega)⟩⟩
theorem i_vc_txInfo {k : Nat} {u : SX} {v : SY} (I : i_Rel k u v) (hk : k + 5 ≤ 2563) (v1 : Int32) (v2 : Int32) : wpX_txInfo (fun r => wpY_txInfo (fun r' => r' = r ∧ i_Rel (k + 5) u v) v v1 v2) u v1 v2 := by
  have J := i_up I
  obtain ⟨R, T, N, c, tk, po, nt, cc, lt, lw, va, ok, oo, oa, ln, st, ts, pc, ac, ab, rk, wr, wm, ur, uv, ul, he, qu, qs, bl, ib, tc, rfl, rfl, hB, hpo, hc, hN, hK, hI, hM⟩ := I
  have hb := hB
  obtain ⟨hB1, hB2, hB3, hB4⟩ := hb
  unfold wpX_txInfo
  cases ix_2 v1 (n := T) (by omega) with
  | inl h => exact it_0 h (br_t rfl (ny_0 h ⟨rfl, J⟩))
  | inr h =>
    obtain ⟨t, ht, rfl⟩ := h
    have h8 : vp_in (nI t) 8 := vp_in_nI (by omega) (by omega)
    by_cases n0 : v2 = 0
    · subst n0
      exact it_1 ht hB4 (br_f one0 (br_f (by decide) (br_f (by decide) (br_t rfl ⟨h8, ny_1 ht (by omega) (br_t rfl ⟨h8, rfl, J⟩)⟩))))
    by_cases n1 : v2 = 1
    · subst n1
      exact it_1 ht hB4 (br_f one0 (br_f (by decide) (br_f (by decide) (br_f (by decide) (br_t rfl ⟨h8, ny_1 ht (by omega) (br_f (by decide) (br_t rfl ⟨h8, rfl, J⟩))⟩)))))
    by_cases n2 : v2 = 2
    · subst n2
      exact it_1 ht hB4 (br_f one0 (br_f (by decide) (br_f (by decide) (br_f (by decide) (br_f (by decide) (br_t rfl ⟨h8, ny_1 ht (by omega) (br_f (by decide) (br_f (by decide) (br_t rfl ⟨h8, rfl, J⟩)))⟩))))))
    by_cases n3 : v2 = 3
    · subst n3
      exact it_1 ht hB4 (br_f one0 (br_f (by decide) (br_f (by decide) (br_f (by decide) (br_f (by decide) (br_f (by decide) (br_t rfl ⟨h8, ny_1 ht (by omega) (br_f (by decide) (br_f (by decide) (br_f (by decide) (br_t rfl ⟨h8, rfl, J⟩))))⟩)))))))
    by_cases n4 : v2 = 4
    · subst n4
      exact it_1 ht hB4 (br_f one0 (br_f (by decide) (br_f (by decide) (br_f (by decide) (br_f (by decide) (br_f (by decide) (br_f (by decide) (br_t rfl ⟨h8, ny_1 ht (by omega) (br_f (by decide) (br_f (by decide) (br_f (by decide) (br_f (by decide) (br_t rfl ⟨h8, rfl, J⟩)))))⟩))))))))
    by_cases n5 : v2 = 5
    · subst n5
      exact it_1 ht hB4 (br_f one0 (br_f (by decide) (br_f (by decide) (br_f (by decide) (br_f (by decide) (br_f (by decide) (br_f (by decide) (br_f (by decide) (br_t rfl ⟨h8, ny_1 ht (by omega) (br_f (by decide) (br_f (by decide) (br_f (by decide) (br_f (by decide) (br_f (by decide) (br_t rfl ⟨h8, rfl, J⟩))))))⟩)))))))))
    by_cases n6 : v2 = 6
    · subst n6
      exact it_1 ht hB4 (br_f one0 (br_f (by decide) (br_f (by decide) (br_f (by decide) (br_f (by decide) (br_f (by decide) (br_f (by decide) (br_f (by decide) (br_f (by decide) (br_t rfl ⟨h8, ny_1 ht (by omega) (br_f (by decide) (br_f (by decide) (br_f (by decide) (br_f (by decide) (br_f (by decide) (br_f (by decide) (br_t rfl ⟨h8, rfl, J⟩)))))))⟩))))))))))
    by_cases n7 : v2 = 7
    · subst n7
      exact it_1 ht hB4 (br_f one0 (br_f (by decide) (br_f (by decide) (br_f (by decide) (br_f (by decide) (br_f (by decide) (br_f (by decide) (br_f (by decide) (br_f (by decide) (br_f (by decide) (br_t rfl ⟨h8, ny_1 ht (by omega) (br_f (by decide) (br_f (by decide) (br_f (by decide) (br_f (by decide) (br_f (by decide) (br_f (by decide) (br_f (by decide) (br_t rfl ⟨h8, rfl, J⟩))))))))⟩)))))))))))
    by_cases n8 : v2 = 8
    · subst n8
      exact it_1 ht hB4 (br_f one0 (br_f (by decide) (br_f (by decide) (br_f (by decide) (br_f (by decide) (br_f (by decide) (br_f (by decide) (br_f (by decide) (br_f (by decide) (br_f (by decide) (br_f (by decide) (br_t rfl ⟨h8, ny_1 ht (by omega) (br_f (by decide) (br_f (by decide) (br_f (by decide) (br_f (by decide) (br_f (by decide) (br_f (by decide) (br_f (by decide) (br_f (by decide) (br_t rfl ⟨h8, rfl, J⟩)))))))))⟩))))))))))))
    exact it_1 ht hB4 (br_f one0 (br_c (fun _ => ny_1 ht (by omega) (br_f n0 (br_f n1 (br_f n2 (br_f n3 (br_f n4 (br_f n5 (br_f n6 (br_f n7 (br_f n8 (⟨rfl, J⟩))))))))))) (fun _ => br_c (fun _ => ny_1 ht (by omega) (br_f n0 (br_f n1 (br_f n2 (br_f n3 (br_f n4 (br_f n5 (br_f n6 (br_f n7 (br_f n8 (⟨rfl, J⟩))))))))))) (fun _ => br_f n0 (br_f n1 (br_f n2 (br_f n3 (br_f n4 (br_f n5 (br_f n6 (br_f n7 (br_f n8 (trivial)))))))))))))
theorem i_vc_holdMode {k : Nat} {u : SX} {v : SY} (I : i_Rel k u v) (hk : k + 5 ≤ 2563) (v1 : Int32) (v2 : Int32) : wpX_holdMode (fun r => wpY_holdMode (fun r' => r' = r ∧ i_Rel (k + 5) u v) v v1 v2) u v1 v2 := by
  have J := i_up I
  obtain ⟨R, T, N, c, tk, po, nt, cc, lt, lw, va, ok, oo, oa, ln, st, ts, pc, ac, ab, rk, wr, wm, ur, uv, ul, he, qu, qs, bl, ib, tc, rfl, rfl, hB, hpo, hc, hN, hK, hI, hM⟩ := I
  have hb := hB
  obtain ⟨hB1, hB2, hB3, hB4⟩ := hb
  unfold wpX_holdMode
  cases ix_2 v1 (n := T) (by omega) with
  | inl h => exact it_0 h (br_t rfl (nz_0 h ⟨rfl, J⟩))
  | inr h =>
    obtain ⟨t, ht, rfl⟩ := h
    refine it_1 ht hB4 (br_f one0 ?_)
    cases ix_2 v2 (n := R) (by omega) with
    | inl h => exact ir_0 h (br_t rfl (nz_1 ht (by omega) (ny_0 h ⟨rfl, J⟩)))
    | inr h =>
      obtain ⟨r, hr, rfl⟩ := h
      have hin := vi_16 (u := t) (r := r) (by omega) (by omega)
      exact ir_1 hr hB2 (br_f one0 ⟨hin, nz_1 ht (by omega) (ny_1 hr (by omega) ⟨hin, rfl, J⟩)⟩)
theorem i_vc_rowValue {k : Nat} {u : SX} {v : SY} (I : i_Rel k u v) (hk : k + 5 ≤ 2563) (v1 : Int32) : wpX_rowValue (fun r => wpY_rowValue (fun r' => r' = r ∧ i_Rel (k + 5) u v) v v1) u v1 := by
  have J := i_up I
  obtain ⟨R, T, N, c, tk, po, nt, cc, lt, lw, va, ok, oo, oa, ln, st, ts, pc, ac, ab, rk, wr, wm, ur, uv, ul, he, qu, qs, bl, ib, tc, rfl, rfl, hB, hpo, hc, hN, hK, hI, hM⟩ := I
  have hb := hB
  obtain ⟨hB1, hB2, hB3, hB4⟩ := hb
  unfold wpX_rowValue
  cases ix_2 v1 (n := R) (by omega) with
  | inl h => exact ir_0 h (br_t rfl (ny_0 h ⟨rfl, J⟩))
  | inr h =>
    obtain ⟨r, hr, rfl⟩ := h
    have hin : vp_in (nI r) 16 := vp_in_nI (by omega) (by omega)
    exact ir_1 hr hB2 (br_f one0 ⟨hin, ny_1 hr (by omega) ⟨hin, rfl, J⟩⟩)
theorem i_vc_queueLength {k : Nat} {u : SX} {v : SY} (I : i_Rel k u v) (hk : k + 5 ≤ 2563) (v1 : Int32) : wpX_queueLength (fun r => wpY_queueLength (fun r' => r' = r ∧ i_Rel (k + 5) u v) v v1) u v1 := by
  have J := i_up I
  obtain ⟨R, T, N, c, tk, po, nt, cc, lt, lw, va, ok, oo, oa, ln, st, ts, pc, ac, ab, rk, wr, wm, ur, uv, ul, he, qu, qs, bl, ib, tc, rfl, rfl, hB, hpo, hc, hN, hK, hI, hM⟩ := I
  have hb := hB
  obtain ⟨hB1, hB2, hB3, hB4⟩ := hb
  unfold wpX_queueLength
  cases ix_2 v1 (n := R) (by omega) with
  | inl h => exact ir_0 h (br_t rfl (ny_0 h ⟨rfl, J⟩))
  | inr h =>
    obtain ⟨r, hr, rfl⟩ := h
    have hin : vp_in (nI r) 16 := vp_in_nI (by omega) (by omega)
    obtain ⟨n, q, e1, e2, e3⟩ := hI.2.2.1 r hr
    have es : nI n = qs (nI r).toNatClampNeg := by rw [nI_clamp (by omega)]; exact e1.symm
    exact ir_1 hr hB2 (br_f one0 ⟨hin, ql_Y hB hI.1 hr e3 ⟨es, J⟩⟩)
theorem i_vc_queueAt {k : Nat} {u : SX} {v : SY} (I : i_Rel k u v) (hk : k + 5 ≤ 2563) (v1 : Int32) (v2 : Int32) : wpX_queueAt (fun r => wpY_queueAt (fun r' => r' = r ∧ i_Rel (k + 5) u v) v v1 v2) u v1 v2 := by
  have J := i_up I
  obtain ⟨R, T, N, c, tk, po, nt, cc, lt, lw, va, ok, oo, oa, ln, st, ts, pc, ac, ab, rk, wr, wm, ur, uv, ul, he, qu, qs, bl, ib, tc, rfl, rfl, hB, hpo, hc, hN, hK, hI, hM⟩ := I
  have hb := hB
  obtain ⟨hB1, hB2, hB3, hB4⟩ := hb
  unfold wpX_queueAt
  cases ix_2 v1 (n := R) (by omega) with
  | inl h => exact ir_0 h (br_t rfl (ny_0 h ⟨rfl, J⟩))
  | inr h =>
    obtain ⟨r, hr, rfl⟩ := h
    have hin : vp_in (nI r) 16 := vp_in_nI (by omega) (by omega)
    obtain ⟨n, q, e1, e2, e3⟩ := hI.2.2.1 r hr
    have hn := qq_le e3
    have es : qs (nI r).toNatClampNeg = nI n := by rw [nI_clamp (by omega)]; exact e1
    refine ir_1 hr hB2 (br_f one0 ?_)
    cases ix_2 v2 (n := n) (by omega) with
    | inl h =>
      have hp : ∀ p, p < n → nI p ≠ v2 := by
        intro p hp e
        subst e
        cases h with
        | inl h => exact nI_pos (by omega) h
        | inr h => exact nI_ge hp (by omega) h
      refine br_c (fun _ => qa_0 hB hI.1 hK hr e3 hp ⟨rfl, J⟩) (fun z => ⟨hin, br_f ?_ (qa_0 hB hI.1 hK hr e3 hp ⟨rfl, J⟩)⟩)
      rw [es]
      cases h with
      | inl h => exact absurd h z
      | inr h => exact Int32.not_lt.mpr h
    | inr h =>
      obtain ⟨p, hp, rfl⟩ := h
      have hlt : nI p < qs (nI r).toNatClampNeg := by rw [es]; exact nI_lt hp (by omega)
      have eq : nI (q p) = qu (nI r * 8 + nI p).toNatClampNeg := by rw [ci_8 (by omega) (by omega)]; exact (e2 p hp).symm
      exact br_f (nI_pos (by omega)) ⟨hin, br_t hlt ⟨vi_8 (by omega) (by omega), qa_1 hB hI.1 hK hr e3 hp ⟨eq, J⟩⟩⟩
theorem i_vc_lastTx {k : Nat} {u : SX} {v : SY} (I : i_Rel k u v) (hk : k + 5 ≤ 2563) : wpX_lastTx (fun r => wpY_lastTx (fun r' => r' = r ∧ i_Rel (k + 5) u v) v) u := by
  have J := i_up I
  obtain ⟨R, T, N, c, tk, po, nt, cc, lt, lw, va, ok, oo, oa, ln, st, ts, pc, ac, ab, rk, wr, wm, ur, uv, ul, he, qu, qs, bl, ib, tc, rfl, rfl, hB, hpo, hc, hN, hK, hI, hM⟩ := I
  have hb := hB
  obtain ⟨hB1, hB2, hB3, hB4⟩ := hb
  exact ⟨rfl, J⟩
theorem i_vc_lastWounds {k : Nat} {u : SX} {v : SY} (I : i_Rel k u v) (hk : k + 5 ≤ 2563) : wpX_lastWounds (fun r => wpY_lastWounds (fun r' => r' = r ∧ i_Rel (k + 5) u v) v) u := by
  have J := i_up I
  obtain ⟨R, T, N, c, tk, po, nt, cc, lt, lw, va, ok, oo, oa, ln, st, ts, pc, ac, ab, rk, wr, wm, ur, uv, ul, he, qu, qs, bl, ib, tc, rfl, rfl, hB, hpo, hc, hN, hK, hI, hM⟩ := I
  have hb := hB
  obtain ⟨hB1, hB2, hB3, hB4⟩ := hb
  exact ⟨rfl, J⟩
theorem i_vc_commits {k : Nat} {u : SX} {v : SY} (I : i_Rel k u v) (hk : k + 5 ≤ 2563) : wpX_commits (fun r => wpY_commits (fun r' => r' = r ∧ i_Rel (k + 5) u v) v) u := by
  have J := i_up I
  obtain ⟨R, T, N, c, tk, po, nt, cc, lt, lw, va, ok, oo, oa, ln, st, ts, pc, ac, ab, rk, wr, wm, ur, uv, ul, he, qu, qs, bl, ib, tc, rfl, rfl, hB, hpo, hc, hN, hK, hI, hM⟩ := I
  have hb := hB
  obtain ⟨hB1, hB2, hB3, hB4⟩ := hb
  exact ⟨rfl, J⟩
