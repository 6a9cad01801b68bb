/-! ===== one answer for both sides ===== -/
theorem an_frac {c n d : Nat} (hc : 0 < c) : (c * n) / Nat.gcd (c * n) (c * d) = n / Nat.gcd n d := by
  rw [Nat.gcd_mul_left, Nat.mul_div_mul_left _ _ hc]
theorem an_frac2 {c n d : Nat} (hc : 0 < c) : (c * d) / Nat.gcd (c * n) (c * d) = d / Nat.gcd n d := by
  rw [Nat.gcd_mul_left, Nat.mul_div_mul_left _ _ hc]
theorem an_ref {post : Int32 → Prop} {i t u : Nat} (hi : i < 4) (ht : t < 4) (hu : u < 4) (htu : t ≠ u) (h : post 0) : wpY_refused post (nI i) (nI t) (nI u) :=
  cy_badOk hi (br_t rfl (cy_badOk ht (br_t rfl (cy_badOk hu (br_t rfl (br_f (fun z => htu ((nI_eq (by omega) (by omega)).mp z)) h))))))
theorem an_refB {post : Int32 → Prop} {v1 v2 v3 : Int32} (hb : (v1 < 0 ∨ nI 4 ≤ v1) ∨ (v2 < 0 ∨ nI 4 ≤ v2) ∨ (v3 < 0 ∨ nI 4 ≤ v3) ∨ v2 = v3) (h : post 1) : wpY_refused post v1 v2 v3 := by
  unfold wpY_refused
  rcases cx_st v1 with h1 | ⟨a, ha, rfl⟩
  · exact cy_badNo h1 (br_f (by decide) h)
  · refine cy_badOk ha (br_t rfl ?_)
    rcases cx_st v2 with h2 | ⟨b, hb2, rfl⟩
    · exact cy_badNo h2 (br_f (by decide) h)
    · refine cy_badOk hb2 (br_t rfl ?_)
      rcases cx_st v3 with h3 | ⟨c, hc, rfl⟩
      · exact cy_badNo h3 (br_f (by decide) h)
      · refine cy_badOk hc (br_t rfl ?_)
        have nb : ∀ x, x < 4 → ¬ (nI x < 0 ∨ nI 4 ≤ nI x) := fun x hx z => z.elim (nI_pos (by omega)) (nI_ge hx (by decide))
        exact br_t ((((hb.resolve_left (nb a ha)).resolve_left (nb b hb2)).resolve_left (nb c hc))) h
theorem an_fcB {post : SX → Prop} {fu fl : Int32} {ra re ma ri : Nat → Int32} {v1 v2 v3 : Int32} (hb : (v1 < 0 ∨ nI 4 ≤ v1) ∨ (v2 < 0 ∨ nI 4 ≤ v2) ∨ (v3 < 0 ∨ nI 4 ≤ v3) ∨ v2 = v3)
    (h : post (-1, -1, ra, re, ma, ri)) : wpX_findChance post (fu, fl, ra, re, ma, ri) v1 v2 v3 := by
  unfold wpX_findChance wpX_forgetFraction
  dsimp only
  rcases cx_st v1 with h1 | ⟨a, ha, rfl⟩
  · exact cx_isNo h1 (br_t rfl h)
  · refine cx_isOk ha (br_f (by decide) ?_)
    rcases cx_st v2 with h2 | ⟨b, hb2, rfl⟩
    · exact cx_isNo h2 (br_t rfl h)
    · refine cx_isOk hb2 (br_f (by decide) ?_)
      rcases cx_st v3 with h3 | ⟨c, hc, rfl⟩
      · exact cx_isNo h3 (br_t rfl h)
      · refine cx_isOk hc (br_f (by decide) ?_)
        have nb : ∀ x, x < 4 → ¬ (nI x < 0 ∨ nI 4 ≤ nI x) := fun x hx z => z.elim (nI_pos (by omega)) (nI_ge hx (by decide))
        exact br_t ((((hb.resolve_left (nb a ha)).resolve_left (nb b hb2)).resolve_left (nb c hc))) h
theorem an_fcE {post : SX → Prop} {fu fl : Int32} {ra re ma ri : Nat → Int32} {t u : Nat} (ht : t < 4) (hu : u < 4) (htu : t ≠ u)
    (h : post (nI 1, nI 1, ra, re, ma, ri)) : wpX_findChance post (fu, fl, ra, re, ma, ri) (nI t) (nI t) (nI u) := by
  unfold wpX_findChance wpX_forgetFraction
  dsimp only
  exact cx_isOk ht (br_f (by decide) (cx_isOk ht (br_f (by decide) (cx_isOk hu (br_f (by decide) (br_f (fun z => htu ((nI_eq (by omega) (by omega)).mp z)) (br_t rfl (xg_set (n := 1) (d := 1) (by decide) (by decide) (by decide) h))))))))
theorem an_fcN {post : SX → Prop} {fu fl : Int32} {R : Nat → Nat} {re ma ri : Nat → Int32} {i t u n d : Nat} (hR : ∀ n, R n ≤ 9) (hi : i < 4) (ht : t < 4) (hu : u < 4) (htu : t ≠ u) (hit : i ≠ t)
    (hd : dt_3 (xs_M (ch_H R t u) (fm_M R t)) = (d : Int)) (hn : dt_3 (xs_N (sv_c i t) (xs_M (ch_H R t u) (fm_M R t)) (xs_b (ch_H R t u) (ch_b R t))) = (n : Int)) (h0 : 0 < d) (bd : d < 2 ^ 31) (bn : n < 2 ^ 31)
    (h : ∀ re' ma' ri', post (nI (n / Nat.gcd n d), nI (d / Nat.gcd n d), (fun n => nI (R n)), re', ma', ri')) : wpX_findChance post (fu, fl, (fun n => nI (R n)), re, ma, ri) (nI i) (nI t) (nI u) := by
  unfold wpX_findChance wpX_forgetFraction
  dsimp only
  refine cx_isOk hi (br_f (by decide) (cx_isOk ht (br_f (by decide) (cx_isOk hu (br_f (by decide) (br_f (fun z => htu ((nI_eq (by omega) (by omega)).mp z)) (br_f (fun z => hit ((nI_eq (by omega) (by omega)).mp z)) (xr_find hR (fun re' hre => ?_)))))))))
  dsimp only
  refine xf_fill ht (fun ma' hm => ?_)
  dsimp only
  exact xc_56 hi ht hu hit hre hm hd hn h0 bd bn (fun m2 r2 => h re' m2 r2)
theorem an_ch {R : Nat → Nat} (hR : ∀ n, R n ≤ 9) (hz : ∀ a, a < 4 → R (4 * a + a) = 0) (v1 v2 v3 : Int32) : ∃ U L : Int32,
    (∀ (post : SX → Prop) (fu fl : Int32) (re ma ri : Nat → Int32), (∀ re' ma' ri', post (U, L, (fun n => nI (R n)), re', ma', ri')) → wpX_findChance post (fu, fl, (fun n => nI (R n)), re, ma, ri) v1 v2 v3) ∧
    (∀ (post : Int32 → SY → Prop) (su co rg : Nat → Int64), (∀ co' rg', post U ((fun n => nI (R n)), su, co', rg')) → wpY_chanceUpper post ((fun n => nI (R n)), su, co, rg) v1 v2 v3) ∧
    (∀ (post : Int32 → SY → Prop) (su co rg : Nat → Int64), (∀ co' rg', post L ((fun n => nI (R n)), su, co', rg')) → wpY_chanceLower post ((fun n => nI (R n)), su, co, rg) v1 v2 v3) := by
  by_cases hb : (v1 < 0 ∨ nI 4 ≤ v1) ∨ (v2 < 0 ∨ nI 4 ≤ v2) ∨ (v3 < 0 ∨ nI 4 ≤ v3) ∨ v2 = v3
  · refine ⟨-1, -1, fun post fu fl re ma ri h => an_fcB hb (h re ma ri), fun post su co rg h => ?_, fun post su co rg h => ?_⟩
    · unfold wpY_chanceUpper; dsimp only; exact an_refB hb (br_f (by decide) (h co rg))
    · unfold wpY_chanceLower; dsimp only; exact an_refB hb (br_f (by decide) (h co rg))
  · obtain ⟨i, hi, rfl⟩ := (cx_st v1).resolve_left (fun z => hb (.inl z))
    obtain ⟨t, ht, rfl⟩ := (cx_st v2).resolve_left (fun z => hb (.inr (.inl z)))
    obtain ⟨u, hu, rfl⟩ := (cx_st v3).resolve_left (fun z => hb (.inr (.inr (.inl z))))
    have htu : t ≠ u := fun z => hb (.inr (.inr (.inr (by rw [z]))))
    have hut : sv_c u t < 3 := sv_lt hu ht (Ne.symm htu)
    have hNt : ∀ r, r < 4 → yn_N R (yc_H R t u) t r = id_i r t := fun r _ => by unfold yn_N; exact ci_t (.inl rfl)
    have SYS := fun k hk => ch_sys (cs_w R t) (cs_t R t) (ch_H R t u) (fun r => yc_D R t u (fm_st r t)) (fun r hr => cs_z hz t r hr) (sv_c u t) hut (gr_ch R ht hu htu) k hk
    have YM : ∀ r c, r < 3 → c < 3 → yn_N R (yc_H R t u) (fm_st r t) (fm_st c t) = cs_M (cs_w R t) (cs_t R t) (fun r => yc_D R t u (fm_st r t)) r c := by
      intro r c hr _
      rw [cs_y R ht _ r c hr]
      exact cs_K ⟨fun z => z.resolve_left (fm_ne r t), .inr⟩ c
    have YD : dt_4 (yn_N R (yc_H R t u)) = dt_3 (cs_M (cs_w R t) (cs_t R t) (fun r => yc_D R t u (fm_st r t))) := by
      rw [dt_t t ht _ hNt]; exact dt_c3 YM
    by_cases hit : i = t
    · subst hit
      obtain ⟨c, d, n, hc, hd, y1, x1, y2, x2⟩ := SYS 0 (by decide)
      rw [y1] at YD
      have b1 := cs_bm hR i (fun r => yc_D R i u (fm_st r i))
      have YN : dt_4 (ye_E (yn_N R (yc_H R i u)) (fun s => id_i s i) i) = (d : Int) := by
        rw [dt_same i hi _ _ hNt (fun r _ => rfl), YD]
      have e1 : d / Nat.gcd d d = 1 := by rw [Nat.gcd_self]; exact Nat.div_self hd
      refine ⟨nI 1, nI 1, fun post fu fl re ma ri h => an_fcE hi hu htu (h re ma ri), fun post su co rg h => ?_, fun post su co rg h => ?_⟩
      · unfold wpY_chanceUpper; dsimp only
        refine an_ref hi ht hu htu (br_t rfl (yc_ch hR ht hu (fun co' rg' hs => ?_)))
        dsimp only
        refine yf_up hi hs YD YN hd (by omega) (by omega) ?_
        rw [e1, lN_i]; exact h co' rg'
      · unfold wpY_chanceLower; dsimp only
        refine an_ref hi ht hu htu (br_t rfl (yc_ch hR ht hu (fun co' rg' hs => ?_)))
        dsimp only
        refine yf_low hi hs YD YN hd (by omega) (by omega) ?_
        rw [e1, lN_i]; exact h co' rg'
    · obtain ⟨c, d, n, hc, hd, y1, x1, y2, x2⟩ := SYS (sv_c i t) (sv_lt hi ht hit)
      have bx := cs_bm hR t (ch_H R t u)
      have bxn := cs_bn hR t (ch_H R t u) (b := cs_t R t) (fun r => hR _) (sv_c i t)
      have byy := cs_bm hR t (fun r => yc_D R t u (fm_st r t))
      have byn := cs_bn hR t (fun r => yc_D R t u (fm_st r t)) (b := cs_t R t) (fun r => hR _) (sv_c i t)
      rw [x1] at bx
      rw [x2] at bxn
      rw [y1] at byy YD
      rw [y2] at byn
      have YN : dt_4 (ye_E (yn_N R (yc_H R t u)) (fun s => id_i s t) i) = (n : Int) := by
        rw [dt_n t i ht hi hit _ _ hNt, ← y2]
        apply dt_c3
        intro r k hr hk
        unfold xs_N
        by_cases e : k = sv_c i t
        · rw [if_pos e, if_pos e]
          have g1 : id_i (fm_st r t) t = 0 := if_neg (fm_ne r t)
          have g2 : id_i t t = 1 := if_pos rfl
          dsimp only
          rw [g1, g2]
          unfold yn_N cs_b
          by_cases q : yc_D R t u (fm_st r t)
          · rw [ci_t (show yc_H R t u (fm_st r t) from .inr q), ci_t q]
            have g3 : id_i t (fm_st r t) = 0 := if_neg (fun z => fm_ne r t z.symm)
            rw [g3]; rfl
          · rw [ci_f (fun z : yc_H R t u (fm_st r t) => q (z.resolve_left (fm_ne r t))), ci_f q]
            unfold fm_A
            rw [if_neg (fm_ne r t)]
            unfold cs_t
            omega
        · rw [if_neg e, if_neg e]; exact YM r k hr hk
      have XD : dt_3 (xs_M (ch_H R t u) (fm_M R t)) = ((c * d : Nat) : Int) := by
        rw [← x1]; exact dt_c3 (fun r k hr _ => cs_x R ht _ r k hr)
      have XN : dt_3 (xs_N (sv_c i t) (xs_M (ch_H R t u) (fm_M R t)) (xs_b (ch_H R t u) (ch_b R t))) = ((c * n : Nat) : Int) := by
        rw [← x2]
        apply dt_c3
        intro r k hr _
        unfold xs_N
        by_cases e : k = sv_c i t
        · rw [if_pos e, if_pos e]; rfl
        · rw [if_neg e, if_neg e]; exact cs_x R ht _ r k hr
      have hcd : 0 < c * d := Nat.mul_pos hc hd
      refine ⟨nI (n / Nat.gcd n d), nI (d / Nat.gcd n d), fun post fu fl re ma ri h => an_fcN hR hi ht hu htu hit XD XN hcd (by omega) (by omega) (fun re' ma' ri' => ?_), fun post su co rg h => ?_, fun post su co rg h => ?_⟩
      · rw [an_frac hc, an_frac2 hc]; exact h re' ma' ri'
      · unfold wpY_chanceUpper; dsimp only
        refine an_ref hi ht hu htu (br_t rfl (yc_ch hR ht hu (fun co' rg' hs => ?_)))
        dsimp only
        refine yf_up hi hs YD YN hd (by omega) (by omega) ?_
        rw [lN_i]; exact h co' rg'
      · unfold wpY_chanceLower; dsimp only
        refine an_ref hi ht hu htu (br_t rfl (yc_ch hR ht hu (fun co' rg' hs => ?_)))
        dsimp only
        refine yf_low hi hs YD YN hd (by omega) (by omega) ?_
        rw [lN_i]; exact h co' rg'
