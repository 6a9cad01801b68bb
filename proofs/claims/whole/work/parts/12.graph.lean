/-! ===== from the rates to the three rows ===== -/
def cs_w (R : Nat → Nat) (t r c : Nat) : Nat := R (4 * fm_st r t + fm_st c t)
def cs_t (R : Nat → Nat) (t r : Nat) : Nat := R (4 * fm_st r t + t)
theorem fm_inj {r c t : Nat} (h : fm_st r t = fm_st c t) : r = c := by unfold fm_st at h; split at h <;> split at h <;> omega
theorem fm_ne (r t : Nat) : fm_st r t ≠ t := by unfold fm_st; split <;> omega
theorem fm_sv {i t : Nat} (h : i ≠ t) : fm_st (sv_c i t) t = i := by
  unfold sv_c
  split
  · unfold fm_st; split <;> omega
  · unfold fm_st; split <;> omega
theorem sv_lt {i t : Nat} (hi : i < 4) (ht : t < 4) (h : i ≠ t) : sv_c i t < 3 := by unfold sv_c; split <;> omega
theorem fm_o (R : Nat → Nat) {t r : Nat} (ht : t < 4) (hr : r < 3) : of_O R (fm_st r t) = cs_t R t r + cs_w R t r 0 + cs_w R t r 1 + cs_w R t r 2 := by
  rcases (by omega : t = 0 ∨ t = 1 ∨ t = 2 ∨ t = 3) with e | e | e | e <;> subst e <;> rcases (by omega : r = 0 ∨ r = 1 ∨ r = 2) with e | e | e <;> subst e
  · show 0 + R 4 + R 5 + R 6 + R 7 = R 4 + R 5 + R 6 + R 7; omega
  · show 0 + R 8 + R 9 + R 10 + R 11 = R 8 + R 9 + R 10 + R 11; omega
  · show 0 + R 12 + R 13 + R 14 + R 15 = R 12 + R 13 + R 14 + R 15; omega
  · show 0 + R 0 + R 1 + R 2 + R 3 = R 1 + R 0 + R 2 + R 3; omega
  · show 0 + R 8 + R 9 + R 10 + R 11 = R 9 + R 8 + R 10 + R 11; omega
  · show 0 + R 12 + R 13 + R 14 + R 15 = R 13 + R 12 + R 14 + R 15; omega
  · show 0 + R 0 + R 1 + R 2 + R 3 = R 2 + R 0 + R 1 + R 3; omega
  · show 0 + R 4 + R 5 + R 6 + R 7 = R 6 + R 4 + R 5 + R 7; omega
  · show 0 + R 12 + R 13 + R 14 + R 15 = R 14 + R 12 + R 13 + R 15; omega
  · show 0 + R 0 + R 1 + R 2 + R 3 = R 3 + R 0 + R 1 + R 2; omega
  · show 0 + R 4 + R 5 + R 6 + R 7 = R 7 + R 4 + R 5 + R 6; omega
  · show 0 + R 8 + R 9 + R 10 + R 11 = R 11 + R 8 + R 9 + R 10; omega
theorem fm_fa (R : Nat → Nat) {t r c : Nat} (ht : t < 4) (hr : r < 3) : fm_A R (fm_st r t) (fm_st c t) = fl_M (cs_w R t) (cs_t R t) r c := by
  unfold fm_A fl_M
  by_cases e : r = c
  · subst e
    rw [if_pos rfl, if_pos rfl, fm_o R ht hr]
  · rw [if_neg (fun z => e (fm_inj z)), if_neg e]; rfl
theorem cs_x (R : Nat → Nat) {t : Nat} (ht : t < 4) (H : Nat → Prop) (r c : Nat) (hr : r < 3) : xs_M H (fm_M R t) r c = cs_M (cs_w R t) (cs_t R t) H r c := by
  unfold xs_M cs_M fm_M
  rw [fm_fa R ht hr]
theorem cs_y (R : Nat → Nat) {t : Nat} (ht : t < 4) (H : Nat → Prop) (r c : Nat) (hr : r < 3) : yn_N R H (fm_st r t) (fm_st c t) = cs_M (cs_w R t) (cs_t R t) (fun r => H (fm_st r t)) r c := by
  unfold yn_N cs_M
  rw [fm_fa R ht hr]
  refine congrArg (fun z => ci_i _ z _) ?_
  unfold id_i
  by_cases e : r = c
  · subst e; rw [if_pos rfl, if_pos rfl]
  · rw [if_neg (fun z => e (fm_inj z).symm), if_neg e]
theorem cs_K {w : Nat → Nat → Nat} {wt : Nat → Nat} {K K' : Nat → Prop} {r : Nat} (h : K r ↔ K' r) (c : Nat) : cs_M w wt K r c = cs_M w wt K' r c := by
  unfold cs_M; exact ci_c h
theorem cs_bd {R : Nat → Nat} (hR : ∀ n, R n ≤ 9) (t : Nat) (K : Nat → Prop) (r c : Nat) : (cs_M (cs_w R t) (cs_t R t) K r c).natAbs ≤ 36 := by
  unfold cs_M
  by_cases h : K r
  · rw [ci_t h]; split <;> decide
  · rw [ci_f h]
    unfold fl_M cs_w cs_t
    have h0 := hR (4 * fm_st r t + t)
    have h1 := hR (4 * fm_st r t + fm_st 0 t)
    have h2 := hR (4 * fm_st r t + fm_st 1 t)
    have h3 := hR (4 * fm_st r t + fm_st 2 t)
    have h4 := hR (4 * fm_st r t + fm_st c t)
    split
    · omega
    · omega
theorem cs_bb {b : Nat → Nat} (hb : ∀ r, b r ≤ 9) (K : Nat → Prop) (r : Nat) : (cs_b b K r).natAbs ≤ 36 := by
  unfold cs_b
  by_cases h : K r
  · rw [ci_t h]; decide
  · rw [ci_f h]; have := hb r; omega
theorem cs_bn {R : Nat → Nat} (hR : ∀ n, R n ≤ 9) (t : Nat) (K : Nat → Prop) {b : Nat → Nat} (hb : ∀ r, b r ≤ 9) (k : Nat) : (dt_3 (xs_N k (cs_M (cs_w R t) (cs_t R t) K) (cs_b b K))).natAbs ≤ 279936 := by
  apply bd_det
  intro r c _ _
  unfold xs_N
  split
  · exact cs_bb hb K r
  · exact cs_bd hR t K r c
theorem cs_bm {R : Nat → Nat} (hR : ∀ n, R n ≤ 9) (t : Nat) (K : Nat → Prop) : (dt_3 (cs_M (cs_w R t) (cs_t R t) K)).natAbs ≤ 279936 := bd_det (fun r c _ _ => cs_bd hR t K r c)
theorem cs_z {R : Nat → Nat} (hz : ∀ a, a < 4 → R (4 * a + a) = 0) (t : Nat) (r : Nat) (hr : r < 3) : cs_w R t r r = 0 := hz _ (fm_st4 hr)
/-! graphs -/
theorem gr_m1 {a : Nat} (ha : a < 4) : ¬ nI a = -1 := by
  rcases (by omega : a = 0 ∨ a = 1 ∨ a = 2 ∨ a = 3) with h | h | h | h <;> subst h <;> decide
theorem gr_1 (R : Nat → Nat) {a b t u : Nat} (ha : a < 4) (hb : b < 4) (ht : t < 4) (hu : u < 4) (d1 : a ≠ b) (d2 : a ≠ t) (d3 : a ≠ u) (d4 : b ≠ t) (d5 : b ≠ u) (d6 : t ≠ u) :
    (¬ rt_R (xr_E R (-1)) a t ∧ ¬ rt_R (xr_E R (-1)) a u) ↔ (R (4 * a + t) = 0 ∧ R (4 * a + u) = 0 ∧ (R (4 * a + b) = 0 ∨ (R (4 * b + t) = 0 ∧ R (4 * b + u) = 0))) := by
  have na := gr_m1 ha
  have nb := gr_m1 hb
  constructor
  · rintro ⟨h1, h2⟩
    have e1 : R (4 * a + t) = 0 := Nat.eq_zero_of_not_pos (fun p => h1 (rt_edge ha ht (rt_refl a) ⟨na, p⟩))
    have e2 : R (4 * a + u) = 0 := Nat.eq_zero_of_not_pos (fun p => h2 (rt_edge ha hu (rt_refl a) ⟨na, p⟩))
    refine ⟨e1, e2, ?_⟩
    rcases Nat.eq_zero_or_pos (R (4 * a + b)) with z | z
    · exact .inl z
    · have r1 : rt_R (xr_E R (-1)) a b := rt_edge ha hb (rt_refl a) ⟨na, z⟩
      exact .inr ⟨Nat.eq_zero_of_not_pos (fun p => h1 (rt_edge hb ht r1 ⟨nb, p⟩)), Nat.eq_zero_of_not_pos (fun p => h2 (rt_edge hb hu r1 ⟨nb, p⟩))⟩
  · rintro ⟨e1, e2, e3⟩
    have cl : ∀ x y, x < 4 → y < 4 → (x = a ∨ (0 < R (4 * a + b) ∧ x = b)) → xr_E R (-1) x y → (y = a ∨ (0 < R (4 * a + b) ∧ y = b)) := by
      intro x y _ hy hx he
      rcases (by omega : y = a ∨ y = b ∨ y = t ∨ y = u) with q | q | q | q
      · exact .inl q
      · rcases hx with hx | hx
        · subst hx q; exact .inr ⟨he.2, rfl⟩
        · exact .inr ⟨hx.1, q⟩
      · exfalso
        have p := he.2
        rcases hx with hx | hx
        · subst hx q; omega
        · have x2 := hx.2; subst x2 q; omega
      · exfalso
        have p := he.2
        rcases hx with hx | hx
        · subst hx q; omega
        · have x2 := hx.2; subst x2 q; omega
    refine ⟨fun h => ?_, fun h => ?_⟩
    · have := h (fun x => x = a ∨ (0 < R (4 * a + b) ∧ x = b)) (.inl rfl) cl
      omega
    · have := h (fun x => x = a ∨ (0 < R (4 * a + b) ∧ x = b)) (.inl rfl) cl
      omega
theorem gr_tu {t u x : Nat} (ht : t < 4) (hu : u < 4) (hx : x < 4) : (2 ^ t ||| 2 ^ u).testBit x = true ↔ (x = t ∨ x = u) := by
  rw [bs_orb _ (bs_one t ht).1 u hu x hx, (bs_one t ht).2 x hx]
  simp
theorem gr_2 (R : Nat → Nat) {a b t u : Nat} (ha : a < 4) (hb : b < 4) (ht : t < 4) (hu : u < 4) (d1 : a ≠ b) (d2 : a ≠ t) (d3 : a ≠ u) (d4 : b ≠ t) (d5 : b ≠ u) (d6 : t ≠ u) :
    (¬ rt_R (yr_E R a (2 ^ t ||| 2 ^ u)) a t) ↔ (R (4 * a + t) = 0 ∧ (R (4 * a + b) = 0 ∨ R (4 * b + t) = 0)) := by
  have nb : ¬ (2 ^ t ||| 2 ^ u).testBit b = true := fun z => by have := (gr_tu ht hu hb).mp z; omega
  constructor
  · intro h1
    have e1 : R (4 * a + t) = 0 := Nat.eq_zero_of_not_pos (fun p => h1 (rt_edge ha ht (rt_refl a) ⟨.inl rfl, p⟩))
    refine ⟨e1, ?_⟩
    rcases Nat.eq_zero_or_pos (R (4 * a + b)) with z | z
    · exact .inl z
    · exact .inr (Nat.eq_zero_of_not_pos (fun p => h1 (rt_edge hb ht (rt_edge ha hb (rt_refl a) ⟨.inl rfl, z⟩) ⟨.inr nb, p⟩)))
  · rintro ⟨e1, e3⟩ h
    have cl : ∀ x y, x < 4 → y < 4 → (x = a ∨ (0 < R (4 * a + b) ∧ x = b) ∨ x = u) → yr_E R a (2 ^ t ||| 2 ^ u) x y → (y = a ∨ (0 < R (4 * a + b) ∧ y = b) ∨ y = u) := by
      intro x y x4 hy hx he
      have xu : x ≠ u := by
        intro e
        rcases he.1 with q | q
        · omega
        · exact q ((gr_tu ht hu x4).mpr (.inr e))
      rcases (by omega : y = a ∨ y = b ∨ y = t ∨ y = u) with q | q | q | q
      · exact .inl q
      · rcases hx with hx | hx | hx
        · subst hx q; exact .inr (.inl ⟨he.2, rfl⟩)
        · exact .inr (.inl ⟨hx.1, q⟩)
        · exact absurd hx xu
      · exfalso
        have p := he.2
        rcases hx with hx | hx | hx
        · subst hx q; omega
        · have x2 := hx.2; subst x2 q; omega
        · exact xu hx
      · exact .inr (.inr q)
    have := h (fun x => x = a ∨ (0 < R (4 * a + b) ∧ x = b) ∨ x = u) (.inl rfl) cl
    omega
theorem gr_ch (R : Nat → Nat) {t u : Nat} (ht : t < 4) (hu : u < 4) (htu : t ≠ u) : ch_F (cs_w R t) (cs_t R t) (sv_c u t) (ch_H R t u) (fun r => yc_D R t u (fm_st r t)) := by
  have hs : fm_st (sv_c u t) t = u := fm_sv (Ne.symm htu)
  refine ⟨.inl hs, .inl hs, ?_⟩
  intro a b ha hb hau hbu hab
  have sa := fm_st4 (out := t) ha
  have sb := fm_st4 (out := t) hb
  have d1 : fm_st a t ≠ fm_st b t := fun z => hab (fm_inj z)
  have d3 : fm_st a t ≠ u := fun z => hau (fm_inj (z.trans hs.symm))
  have d5 : fm_st b t ≠ u := fun z => hbu (fm_inj (z.trans hs.symm))
  have g1 := gr_1 R sa sb ht hu d1 (fm_ne a t) d3 (fm_ne b t) d5 htu
  have g2 := gr_2 R sa sb ht hu d1 (fm_ne a t) d3 (fm_ne b t) d5 htu
  unfold cs_w cs_t
  rw [hs]
  exact ⟨⟨fun h => g1.mp (h.resolve_left d3), fun h => .inr (g1.mpr h)⟩, ⟨fun h => g2.mp (h.resolve_left d3), fun h => .inr (g2.mpr h)⟩⟩
theorem gr_ti (R : Nat → Nat) {i t : Nat} (hi : i < 4) (ht : t < 4) (hno : ∀ s, s < 4 → rt_R (xr_E R (nI t)) i s → rt_R (xr_E R (nI t)) s t) :
    fl_H (ef_x (cs_w R t) (ti_H R i t)) (ef_t (cs_t R t) (ti_H R i t)) := by
  intro Z ⟨r0, hr0, hz0⟩
  apply Classical.byContradiction
  intro hno2
  have act : ∀ r, r < 3 → Z r → ¬ ti_H R i t r := by
    intro r hr hz hk
    refine hno2 ⟨r, hr, hz, .inl ?_⟩
    unfold ef_t; rw [cn_t hk]; decide
  have rr : rt_R (xr_E R (nI t)) i (fm_st r0 t) := Classical.byContradiction (act r0 hr0 hz0)
  have rt0 := hno _ (fm_st4 hr0) rr
  have := rt0 (fun x => ∃ q, q < 3 ∧ Z q ∧ x = fm_st q t) ⟨r0, hr0, hz0, rfl⟩ (by
    rintro a b _ hb ⟨q, q1, q2, rfl⟩ he
    have hq := act q q1 q2
    by_cases e : b = t
    · exfalso
      subst e
      refine hno2 ⟨q, q1, q2, .inl ?_⟩
      unfold ef_t; rw [cn_f hq]; exact he.2
    · by_cases zc : Z (sv_c b t)
      · exact ⟨sv_c b t, sv_lt hb ht e, zc, (fm_sv e).symm⟩
      · exfalso
        refine hno2 ⟨q, q1, q2, .inr ⟨sv_c b t, sv_lt hb ht e, zc, ?_⟩⟩
        unfold ef_x; rw [cn_f hq]; unfold cs_w; rw [fm_sv e]; exact he.2)
  obtain ⟨q, _, _, h⟩ := this
  exact fm_ne q t h.symm
theorem gr_Et (R : Nat → Nat) {i t : Nat} (ht : t < 4) (hne : i ≠ t) (a b : Nat) : rt_R (yr_E R i (2 ^ t)) a b ↔ rt_R (xr_E R (nI t)) a b := by
  apply rt_congr
  intro x y hx _
  have e : (2 ^ t).testBit x = true ↔ x = t := by rw [(bs_one t ht).2 x hx]; simp
  unfold yr_E xr_E
  rw [nI_eq (by omega) (by omega), e]
  constructor
  · rintro ⟨h1, h2⟩
    exact ⟨fun z => h1.elim (fun q => hne (q.symm.trans z)) (fun q => q z), h2⟩
  · rintro ⟨h1, h2⟩
    exact ⟨.inr h1, h2⟩
/-- to come to t it doesn't matter what leads out of t -/
theorem gr_st (R : Nat → Nat) {s t : Nat} (hs : s < 4) (ht : t < 4) : rt_R (xr_E R (nI t)) s t ↔ rt_R (xr_E R (-1)) s t := by
  constructor
  · intro h S h1 h2
    exact h S h1 (fun a b ha hb hS he => h2 a b ha hb hS ⟨gr_m1 ha, he.2⟩)
  · intro h
    apply Classical.byContradiction
    intro hn
    have := h (fun x => x < 4 ∧ ¬ rt_R (xr_E R (nI t)) x t) ⟨hs, hn⟩ (by
      rintro a b ha hb ⟨_, hS⟩ he
      refine ⟨hb, fun z => hS ?_⟩
      have e : a ≠ t := fun e => hS (by rw [e]; exact rt_refl t)
      exact rt_trans (rt_edge ha hb (rt_refl a) ⟨fun q => e ((nI_eq (by omega) (by omega)).mp q), he.2⟩) z)
    exact this.2 (rt_refl t)
theorem gr_miss (R : Nat → Nat) {i t m : Nat} (ht : t < 4) (hne : i ≠ t) (hb : ∀ j, j < 4 → (m.testBit j = true ↔ rt_R (yr_E R i (2 ^ t)) i j)) :
    mm_M (rt_R (xr_E R (nI t))) i t ↔ ym_M (rt_R (xr_E R (-1))) m t := by
  constructor
  · rintro ⟨s, h1, h2, h3⟩
    exact ⟨s, h1, (hb s h1).mpr ((gr_Et R ht hne i s).mpr h2), fun e => h3 (by rw [e]; exact rt_refl t), fun z => h3 ((gr_st R h1 ht).mpr z)⟩
  · rintro ⟨s, h1, h2, _, h4⟩
    exact ⟨s, h1, (gr_Et R ht hne i s).mp ((hb s h1).mp h2), fun z => h4 ((gr_st R h1 ht).mp z)⟩
