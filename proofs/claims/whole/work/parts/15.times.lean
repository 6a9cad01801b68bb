/-! ===== times: one answer for both sides ===== -/
theorem an_ftB {post : SX → Prop} {fu fl : Int32} {ra re ma ri : Nat → Int32} {v1 v2 : Int32} (hb : (v1 < 0 ∨ nI 4 ≤ v1) ∨ (v2 < 0 ∨ nI 4 ≤ v2))
    (h : post (-1, -1, ra, re, ma, ri)) : wpX_findTime post (fu, fl, ra, re, ma, ri) v1 v2 := by
  unfold wpX_findTime wpX_forgetFraction
  dsimp only
  rcases cx_st v1 with h1 | ⟨a, ha, rfl⟩
  · exact cx_isNo h1 (br_t rfl h)
  · refine cx_isOk ha (br_f (by decide) ?_)
    have nb : ¬ (nI a < 0 ∨ nI 4 ≤ nI a) := fun z => z.elim (nI_pos (by omega)) (nI_ge ha (by decide))
    exact cx_isNo (hb.resolve_left nb) (br_t rfl h)
theorem an_ftE {post : SX → Prop} {fu fl : Int32} {ra re ma ri : Nat → Int32} {t : Nat} (ht : t < 4)
    (h : post (nI 0, nI 1, ra, re, ma, ri)) : wpX_findTime post (fu, fl, ra, re, ma, ri) (nI t) (nI t) := by
  unfold wpX_findTime wpX_forgetFraction
  dsimp only
  exact cx_isOk ht (br_f (by decide) (cx_isOk ht (br_f (by decide) (br_t rfl (xg_set (n := 0) (d := 1) (by decide) (by decide) (by decide) h)))))
theorem an_ftM {post : SX → Prop} {fu fl : Int32} {R : Nat → Nat} {re ma ri : Nat → Int32} {i t : Nat} (hR : ∀ n, R n ≤ 9) (hi : i < 4) (ht : t < 4) (hit : i ≠ t) (hm : mm_M (rt_R (xr_E R (nI t))) i t)
    (h : ∀ re', post (-1, -1, (fun n => nI (R n)), re', ma, ri)) : wpX_findTime post (fu, fl, (fun n => nI (R n)), re, ma, ri) (nI i) (nI t) := by
  unfold wpX_findTime wpX_forgetFraction
  dsimp only
  refine cx_isOk hi (br_f (by decide) (cx_isOk ht (br_f (by decide) (br_f (fun z => hit ((nI_eq (by omega) (by omega)).mp z)) (xr_find hR (fun re' hre => ?_))))))
  dsimp only
  exact xm_miss hi ht hre (cx_br0 (fun z => absurd hm z) (fun _ => h re'))
theorem an_ftN {post : SX → Prop} {fu fl : Int32} {R : Nat → Nat} {re ma ri : Nat → Int32} {i t n d : Nat} (hR : ∀ n, R n ≤ 9) (hi : i < 4) (ht : t < 4) (hit : i ≠ t) (hm : ¬ mm_M (rt_R (xr_E R (nI t))) i t)
    (hd : dt_3 (xs_M (ti_H R i t) (fm_M R t)) = (d : Int)) (hn : dt_3 (xs_N (sv_c i t) (xs_M (ti_H R i t) (fm_M R t)) (xs_b (ti_H R i t) (fun _ => 1))) = (n : Int)) (h0 : 0 < d) (bd : d < 2 ^ 31) (bn : n < 2 ^ 31)
    (h : ∀ re' ma' ri', post (nI (n / Nat.gcd n d), nI (d / Nat.gcd n d), (fun n => nI (R n)), re', ma', ri')) : wpX_findTime post (fu, fl, (fun n => nI (R n)), re, ma, ri) (nI i) (nI t) := by
  unfold wpX_findTime wpX_forgetFraction
  dsimp only
  refine cx_isOk hi (br_f (by decide) (cx_isOk ht (br_f (by decide) (br_f (fun z => hit ((nI_eq (by omega) (by omega)).mp z)) (xr_find hR (fun re' hre => ?_))))))
  dsimp only
  refine xm_miss hi ht hre (cx_br0 (fun _ => ?_) (fun z => absurd z hm))
  refine xf_fill ht (fun ma' hma => ?_)
  dsimp only
  exact xt_53 hi ht hit hre hma hd hn h0 bd bn (fun m2 r2 => h re' m2 r2)
theorem an_ti0 (R : Nat → Nat) {t : Nat} (ht : t < 4) : dt_4 (yn_N R (yt_H t 0)) = ((1 : Nat) : Int) ∧ dt_4 (ye_E (yn_N R (yt_H t 0)) (yt_g t 0) t) = ((0 : Nat) : Int) := by
  have h1 : yn_N R (yt_H t 0) = fun s r => id_i r s := by
    funext s r
    unfold yn_N
    exact ci_t (.inr (by simp))
  have h2 : yt_g t 0 = fun _ => 0 := by
    funext s
    unfold yt_g
    exact ci_t (.inr (by simp))
  rw [h1, h2]
  rcases (by omega : t = 0 ∨ t = 1 ∨ t = 2 ∨ t = 3) with e | e | e | e <;> subst e <;> exact ⟨by decide, by decide⟩
theorem an_ti {R : Nat → Nat} (hR : ∀ n, R n ≤ 9) (hz : ∀ a, a < 4 → R (4 * a + a) = 0) (v1 v2 : Int32) : ∃ U L : Int32,
    (∀ (post : SX → Prop) (fu fl : Int32) (re ma ri : Nat → Int32), (∀ re' ma' ri', post (U, L, (fun n => nI (R n)), re', ma', ri')) → wpX_findTime post (fu, fl, (fun n => nI (R n)), re, ma, ri) v1 v2) ∧
    (∀ (post : Int64 → SY → Prop) (su co rg : Nat → Int64), (∀ co' rg', post U.toInt64 ((fun n => nI (R n)), su, co', rg')) → wpY_timeUpper post ((fun n => nI (R n)), su, co, rg) v1 v2) ∧
    (∀ (post : Int64 → SY → Prop) (su co rg : Nat → Int64), (∀ co' rg', post L.toInt64 ((fun n => nI (R n)), su, co', rg')) → wpY_timeLower post ((fun n => nI (R n)), su, co, rg) v1 v2) := by
  have m1 : (-1 : Int32).toInt64 = -1 := by decide
  by_cases hb : (v1 < 0 ∨ nI 4 ≤ v1) ∨ (v2 < 0 ∨ nI 4 ≤ v2)
  · have nb : ∀ x, x < 4 → ¬ (nI x < 0 ∨ nI 4 ≤ nI x) := fun x hx z => z.elim (nI_pos (by omega)) (nI_ge hx (by decide))
    refine ⟨-1, -1, fun post fu fl re ma ri h => an_ftB hb (h re ma ri), fun post su co rg h => ?_, fun post su co rg h => ?_⟩
    · unfold wpY_timeUpper; dsimp only
      rw [m1] at h
      rcases cx_st v1 with h1 | ⟨a, ha, rfl⟩
      · exact cy_badNo h1 (br_f (by decide) (h co rg))
      · exact cy_badOk ha (br_t rfl (cy_badNo (hb.resolve_left (nb a ha)) (br_f (by decide) (h co rg))))
    · unfold wpY_timeLower; dsimp only
      rw [m1] at h
      rcases cx_st v1 with h1 | ⟨a, ha, rfl⟩
      · exact cy_badNo h1 (br_f (by decide) (h co rg))
      · exact cy_badOk ha (br_t rfl (cy_badNo (hb.resolve_left (nb a ha)) (br_f (by decide) (h co rg))))
  · obtain ⟨i, hi, rfl⟩ := (cx_st v1).resolve_left (fun z => hb (.inl z))
    obtain ⟨t, ht, rfl⟩ := (cx_st v2).resolve_left (fun z => hb (.inr z))
    by_cases hit : i = t
    · subst hit
      obtain ⟨YD, YN⟩ := an_ti0 R hi
      refine ⟨nI 0, nI 1, fun post fu fl re ma ri h => an_ftE hi (h re ma ri), fun post su co rg h => ?_, fun post su co rg h => ?_⟩
      · unfold wpY_timeUpper; dsimp only
        refine cy_badOk hi (br_t rfl (cy_badOk hi (br_t rfl (ym_eq hR hi (br_t rfl (yt_eq hR hi (fun co' rg' hs => ?_)))))))
        dsimp only
        refine yf_up hi hs YD YN (by decide) (by decide) (by decide) ?_
        exact h co' rg'
      · unfold wpY_timeLower; dsimp only
        refine cy_badOk hi (br_t rfl (cy_badOk hi (br_t rfl (ym_eq hR hi (br_t rfl (yt_eq hR hi (fun co' rg' hs => ?_)))))))
        dsimp only
        refine yf_low hi hs YD YN (by decide) (by decide) (by decide) ?_
        exact h co' rg'
    · by_cases hmm : mm_M (rt_R (xr_E R (nI t))) i t
      · refine ⟨-1, -1, fun post fu fl re ma ri h => an_ftM hR hi ht hit hmm (fun re' => h re' ma ri), fun post su co rg h => ?_, fun post su co rg h => ?_⟩
        · unfold wpY_timeUpper; dsimp only
          rw [m1] at h
          exact cy_badOk hi (br_t rfl (cy_badOk ht (br_t rfl (ym_ne hR hi ht hit (fun m hm hmb => cx_br0 (fun z => absurd ((gr_miss R ht hit hmb).mp hmm) z) (fun _ => h co rg))))))
        · unfold wpY_timeLower; dsimp only
          rw [m1] at h
          exact cy_badOk hi (br_t rfl (cy_badOk ht (br_t rfl (ym_ne hR hi ht hit (fun m hm hmb => cx_br0 (fun z => absurd ((gr_miss R ht hit hmb).mp hmm) z) (fun _ => h co rg))))))
      · have hno : ∀ s, s < 4 → rt_R (xr_E R (nI t)) i s → rt_R (xr_E R (nI t)) s t := fun s hs h => Classical.byContradiction (fun z => hmm ⟨s, hs, h, z⟩)
        obtain ⟨d, hd, x1, hn⟩ := tm_sys (cs_w R t) (cs_t R t) (fun _ => 1) (ti_H R i t) (fun r hr => cs_z hz t r hr) (gr_ti R hi ht hno)
        obtain ⟨n, x2⟩ := hn (sv_c i t) (sv_lt hi ht hit)
        have bx := cs_bm hR t (ti_H R i t)
        have bxn := cs_bn hR t (ti_H R i t) (b := fun _ => 1) (fun r => by decide) (sv_c i t)
        rw [x1] at bx
        rw [x2] at bxn
        have XD : dt_3 (xs_M (ti_H R i t) (fm_M R t)) = (d : Int) := by
          rw [← x1]; exact dt_c3 (fun r k hr _ => cs_x R ht _ r k hr)
        have XN : dt_3 (xs_N (sv_c i t) (xs_M (ti_H R i t) (fm_M R t)) (xs_b (ti_H R i t) (fun _ => 1))) = (n : Int) := by
          rw [← x2]
          apply dt_c3
          intro r k hr _
          unfold xs_N
          by_cases e : k = sv_c i t
          · rw [if_pos e, if_pos e]; rfl
          · rw [if_neg e, if_neg e]; exact cs_x R ht _ r k hr
        have YY : ∀ m, (∀ j, j < 4 → (m.testBit j = true ↔ rt_R (yr_E R i (2 ^ t)) i j)) → dt_4 (yn_N R (yt_H t m)) = (d : Int) ∧ dt_4 (ye_E (yn_N R (yt_H t m)) (yt_g t m) i) = (n : Int) := by
          intro m hmb
          have hK : ∀ r, r < 3 → (yt_H t m (fm_st r t) ↔ ti_H R i t r) := by
            intro r hr
            have e := (hmb _ (fm_st4 (out := t) hr)).trans (gr_Et R ht hit i (fm_st r t))
            unfold yt_H ti_H
            rw [e]
            exact ⟨fun z => z.resolve_left (fm_ne r t), .inr⟩
          have hNt : ∀ r, r < 4 → yn_N R (yt_H t m) t r = id_i r t := fun r _ => by unfold yn_N; exact ci_t (.inl rfl)
          have YM : ∀ r c, r < 3 → c < 3 → yn_N R (yt_H t m) (fm_st r t) (fm_st c t) = cs_M (cs_w R t) (cs_t R t) (ti_H R i t) r c := by
            intro r c hr _
            rw [cs_y R ht _ r c hr]
            exact cs_K (hK r hr) c
          refine ⟨by rw [dt_t t ht _ hNt, ← x1]; exact dt_c3 YM, ?_⟩
          rw [dt_n t i ht hi hit _ _ hNt, ← x2]
          apply dt_c3
          intro r k hr hk
          unfold xs_N
          by_cases e : k = sv_c i t
          · rw [if_pos e, if_pos e]
            dsimp only
            have g2 : yt_g t m t = 0 := by unfold yt_g; exact ci_t (.inl rfl)
            rw [g2, Int.zero_mul, Int.sub_zero]
            unfold yt_g cs_b
            exact ci_c (hK r hr)
          · rw [if_neg e, if_neg e]; exact YM r k hr hk
        have q1 : n / Nat.gcd n d ≤ n := Nat.div_le_self _ _
        have q2 : d / Nat.gcd n d ≤ d := Nat.div_le_self _ _
        refine ⟨nI (n / Nat.gcd n d), nI (d / Nat.gcd n d), fun post fu fl re ma ri h => an_ftN hR hi ht hit hmm XD XN hd (by omega) (by omega) h, fun post su co rg h => ?_, fun post su co rg h => ?_⟩
        · unfold wpY_timeUpper; dsimp only
          rw [nI_l (by omega)] at h
          refine cy_badOk hi (br_t rfl (cy_badOk ht (br_t rfl (ym_ne hR hi ht hit (fun m hm hmb => cx_br0 (fun _ => yt_ne hR hi ht hit (fun m2 hm2 hmb2 co' rg' hs => ?_)) (fun z => absurd ((gr_miss R ht hit hmb).mpr z) hmm))))))
          dsimp only
          obtain ⟨YD, YN⟩ := YY m2 hmb2
          exact yf_up hi hs YD YN hd (by omega) (by omega) (h co' rg')
        · unfold wpY_timeLower; dsimp only
          rw [nI_l (by omega)] at h
          refine cy_badOk hi (br_t rfl (cy_badOk ht (br_t rfl (ym_ne hR hi ht hit (fun m hm hmb => cx_br0 (fun _ => yt_ne hR hi ht hit (fun m2 hm2 hmb2 co' rg' hs => ?_)) (fun z => absurd ((gr_miss R ht hit hmb).mpr z) hmm))))))
          dsimp only
          obtain ⟨YD, YN⟩ := YY m2 hmb2
          exact yf_low hi hs YD YN hd (by omega) (by omega) (h co' rg')
