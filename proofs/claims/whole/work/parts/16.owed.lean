/-- both sides hold the same rates, 0 to 9, and 0 from a state to itself; all else is scratch -/
def i_Rel (k : Nat) (u : SX) (v : SY) : Prop := ∃ R : Nat → Nat, (∀ n, R n ≤ 9) ∧ (∀ a, a < 4 → R (4 * a + a) = 0) ∧ ∃ (fu fl : Int32) (re ma ri : Nat → Int32) (su co rg : Nat → Int64), u = (fu, fl, (fun n => nI (R n)), re, ma, ri) ∧ v = ((fun n => nI (R n)), su, co, rg)
theorem i_up {k : Nat} {u : SX} {v : SY} (h : i_Rel k u v) : i_Rel (k + 4) u v := h
theorem i_vc0 : wpX_init (fun u => wpY_init (fun v => i_Rel 0 u v)) :=
  ⟨fun _ => 0, fun _ => Nat.zero_le 9, fun _ _ => rfl, 0, 0, _, _, _, _, _, _, rfl, rfl⟩
theorem rl_J {R : Nat → Nat} (hR : ∀ n, R n ≤ 9) (hz : ∀ a, a < 4 → R (4 * a + a) = 0) (k : Nat) (fu fl : Int32) (re ma ri : Nat → Int32) (su co rg : Nat → Int64) : i_Rel k (fu, fl, (fun n => nI (R n)), re, ma, ri) ((fun n => nI (R n)), su, co, rg) :=
  ⟨R, hR, hz, fu, fl, re, ma, ri, su, co, rg, rfl, rfl⟩
theorem rl_u (R : Nat → Nat) (n j : Nat) : upd (fun n => nI (R n)) n (nI j) = fun m => nI (if m = n then j else R m) := by
  funext m
  unfold upd
  split <;> rfl
theorem i_vc_rate {k : Nat} {u : SX} {v : SY} (I : i_Rel k u v) (hk : k + 4 ≤ 2048) (v1 : Int32) (v2 : Int32) (v3 : Int32) : wpX_rate (fun r u' => wpY_rate (fun r' v' => r' = r ∧ i_Rel (k + 4) u' v') v v1 v2 v3) u v1 v2 v3 := by
  obtain ⟨R, hR, hz, fu, fl, re, ma, ri, su, co, rg, rfl, rfl⟩ := I
  have J := rl_J hR hz (k + 4) fu fl re ma ri su co rg
  unfold wpX_rate
  dsimp only
  rcases cx_st v1 with h1 | ⟨a, ha, rfl⟩
  · refine cx_isNo h1 (br_t rfl ?_)
    unfold wpY_rate; dsimp only
    exact cy_badNo h1 (br_f (by decide) ⟨rfl, J⟩)
  · refine cx_isOk ha (br_f (by decide) ?_)
    rcases cx_st v2 with h2 | ⟨b, hb, rfl⟩
    · refine cx_isNo h2 (br_t rfl ?_)
      unfold wpY_rate; dsimp only
      exact cy_badOk ha (br_t rfl (cy_badNo h2 (br_f (by decide) ⟨rfl, J⟩)))
    · refine cx_isOk hb (br_f (by decide) ?_)
      by_cases hab : nI a = nI b
      · refine br_t hab ?_
        unfold wpY_rate; dsimp only
        exact cy_badOk ha (br_t rfl (cy_badOk hb (br_t rfl (br_t hab ⟨rfl, J⟩))))
      · refine br_f hab ?_
        by_cases h0 : v3 < 0
        · refine br_t h0 ?_
          unfold wpY_rate; dsimp only
          exact cy_badOk ha (br_t rfl (cy_badOk hb (br_t rfl (br_f hab (br_t h0 ⟨rfl, J⟩)))))
        · refine br_f h0 ?_
          by_cases h9 : v3 ≤ 9
          · have hin : vp_in (nI (4 * a + b)) 16 := vp_in_nI (by omega) (by decide)
            refine br_t h9 ?_
            rw [bs_ix, nI_clamp (by omega)]
            refine ⟨hin, nm_e ⟨hin, nm_e ?_⟩⟩
            unfold wpY_rate; dsimp only
            refine cy_badOk ha (br_t rfl (cy_badOk hb (br_t rfl (br_f hab (br_f h0 (br_t h9 ?_))))))
            rw [bs_iy, nI_clamp (by omega)]
            refine ⟨hin, nm_e ⟨hin, nm_e ⟨rfl, ?_⟩⟩⟩
            obtain ⟨j, hj, rfl⟩ := nI_of2 (M := 9) (n := 9) (by decide) h0 h9
            rw [rl_u]
            have hne : a ≠ b := fun e => hab (by rw [e])
            refine rl_J (fun n => ?_) (fun c hc => ?_) _ _ _ _ _ _ _ _ _
            · split
              · exact hj
              · exact hR n
            · rw [if_neg (by omega)]; exact hz c hc
          · refine br_f h9 ?_
            unfold wpY_rate; dsimp only
            exact cy_badOk ha (br_t rfl (cy_badOk hb (br_t rfl (br_f hab (br_f h0 (br_f h9 ⟨rfl, J⟩))))))
theorem i_vc_closed {k : Nat} {u : SX} {v : SY} (I : i_Rel k u v) (hk : k + 4 ≤ 2048) (v1 : Int32) : wpX_closed (fun r u' => wpY_closed (fun r' => r' = r ∧ i_Rel (k + 4) u' v) v v1) u v1 := by
  obtain ⟨R, hR, hz, fu, fl, re, ma, ri, su, co, rg, rfl, rfl⟩ := I
  unfold wpX_closed
  dsimp only
  rcases cx_st v1 with h1 | ⟨a, ha, rfl⟩
  · refine cx_isNo h1 (br_t rfl ?_)
    unfold wpY_closed; dsimp only
    exact cy_badNo h1 (br_f (by decide) ⟨rfl, rl_J hR hz _ _ _ _ _ _ _ _ _⟩)
  · refine cx_isOk ha (br_f (by decide) (xr_find hR (fun re' hre => ?_)))
    dsimp only
    refine cx_isC hre ha (cx_br0 (fun q => ?_) (fun q => ?_))
    · unfold wpY_closed; dsimp only
      exact cy_badOk ha (br_t rfl (cy_isC hR ha (cx_br0 (fun _ => ⟨rfl, rl_J hR hz _ _ _ _ _ _ _ _ _⟩) (fun z => absurd z q))))
    · unfold wpY_closed; dsimp only
      exact cy_badOk ha (br_t rfl (cy_isC hR ha (cx_br0 (fun z => absurd q z) (fun _ => ⟨rfl, rl_J hR hz _ _ _ _ _ _ _ _ _⟩))))
theorem i_vc_unique {k : Nat} {u : SX} {v : SY} (I : i_Rel k u v) (hk : k + 4 ≤ 2048) : wpX_unique (fun r u' => wpY_unique (fun r' => r' = r ∧ i_Rel (k + 4) u' v) v) u := by
  obtain ⟨R, hR, hz, fu, fl, re, ma, ri, su, co, rg, rfl, rfl⟩ := I
  unfold wpX_unique
  dsimp only
  refine cx_one hR (fun re' => ?_)
  dsimp only
  refine cx_br0 (fun q => cy_un hR ?_) (fun q => cy_un hR ?_)
  · exact ⟨cx_f q, rl_J hR hz _ _ _ _ _ _ _ _ _⟩
  · exact ⟨cx_t q, rl_J hR hz _ _ _ _ _ _ _ _ _⟩
theorem i_vc_law {k : Nat} {u : SX} {v : SY} (I : i_Rel k u v) (hk : k + 4 ≤ 2048) (v1 : Int32) : wpX_law (fun r u' => wpY_law (fun r' v' => r' = r ∧ i_Rel (k + 4) u' v') v v1) u v1 := by
  obtain ⟨R, hR, hz, fu, fl, re, ma, ri, su, co, rg, rfl, rfl⟩ := I
  unfold wpX_law
  dsimp only
  rcases cx_st v1 with h1 | ⟨a, ha, rfl⟩
  · refine cx_isNo h1 (br_t rfl ?_)
    unfold wpY_law; dsimp only
    exact cy_badNo h1 (br_f (by decide) ⟨rfl, rl_J hR hz _ _ _ _ _ _ _ _ _⟩)
  · refine cx_isOk ha (br_f (by decide) (cx_one hR (fun re' => ?_)))
    dsimp only
    refine cx_br0 (fun q => ?_) (fun q => xl_23 hR hz ha (fun ma' => ?_))
    · unfold wpY_law; dsimp only
      exact cy_badOk ha (br_t rfl (cy_un hR (cx_br0 (fun _ => ⟨rfl, rl_J hR hz _ _ _ _ _ _ _ _ _⟩) (fun z => absurd z q))))
    · unfold wpY_law; dsimp only
      refine cy_badOk ha (br_t rfl (cy_un hR (cx_br0 (fun z => absurd q z) (fun _ => yu_add hR (fun su' hs => ?_)))))
      dsimp only
      have hw : ∀ k, wl_w R k < 2 ^ 31 := by
        intro k
        unfold wl_w
        split
        · rename_i hk; exact au_lt hR hz hk
        · decide
      refine yl_25 (w := wl_w R) ha hw (fun r hr => ?_) ⟨rfl, rl_J hR hz _ _ _ _ _ _ _ _ _⟩
      rw [hs r hr]
      unfold wl_w
      rw [if_pos hr]
theorem i_vc_chanceUpper {k : Nat} {u : SX} {v : SY} (I : i_Rel k u v) (hk : k + 4 ≤ 2048) (v1 : Int32) (v2 : Int32) (v3 : Int32) : wpX_chanceUpper (fun r u' => wpY_chanceUpper (fun r' v' => r' = r ∧ i_Rel (k + 4) u' v') v v1 v2 v3) u v1 v2 v3 := by
  obtain ⟨R, hR, hz, fu, fl, re, ma, ri, su, co, rg, rfl, rfl⟩ := I
  obtain ⟨U, L, hX, hU, hL⟩ := an_ch hR hz v1 v2 v3
  unfold wpX_chanceUpper
  dsimp only
  exact hX _ _ _ _ _ _ (fun re' ma' ri' => hU _ _ _ _ (fun co' rg' => ⟨rfl, rl_J hR hz _ _ _ _ _ _ _ _ _⟩))
theorem i_vc_chanceLower {k : Nat} {u : SX} {v : SY} (I : i_Rel k u v) (hk : k + 4 ≤ 2048) (v1 : Int32) (v2 : Int32) (v3 : Int32) : wpX_chanceLower (fun r u' => wpY_chanceLower (fun r' v' => r' = r ∧ i_Rel (k + 4) u' v') v v1 v2 v3) u v1 v2 v3 := by
  obtain ⟨R, hR, hz, fu, fl, re, ma, ri, su, co, rg, rfl, rfl⟩ := I
  obtain ⟨U, L, hX, hU, hL⟩ := an_ch hR hz v1 v2 v3
  unfold wpX_chanceLower
  dsimp only
  exact hX _ _ _ _ _ _ (fun re' ma' ri' => hL _ _ _ _ (fun co' rg' => ⟨rfl, rl_J hR hz _ _ _ _ _ _ _ _ _⟩))
theorem i_vc_timeUpper {k : Nat} {u : SX} {v : SY} (I : i_Rel k u v) (hk : k + 4 ≤ 2048) (v1 : Int32) (v2 : Int32) : wpX_timeUpper (fun r u' => wpY_timeUpper (fun r' v' => r' = r ∧ i_Rel (k + 4) u' v') v v1 v2) u v1 v2 := by
  obtain ⟨R, hR, hz, fu, fl, re, ma, ri, su, co, rg, rfl, rfl⟩ := I
  obtain ⟨U, L, hX, hU, hL⟩ := an_ti hR hz v1 v2
  unfold wpX_timeUpper
  dsimp only
  exact hX _ _ _ _ _ _ (fun re' ma' ri' => hU _ _ _ _ (fun co' rg' => ⟨rfl, rl_J hR hz _ _ _ _ _ _ _ _ _⟩))
theorem i_vc_timeLower {k : Nat} {u : SX} {v : SY} (I : i_Rel k u v) (hk : k + 4 ≤ 2048) (v1 : Int32) (v2 : Int32) : wpX_timeLower (fun r u' => wpY_timeLower (fun r' v' => r' = r ∧ i_Rel (k + 4) u' v') v v1 v2) u v1 v2 := by
  obtain ⟨R, hR, hz, fu, fl, re, ma, ri, su, co, rg, rfl, rfl⟩ := I
  obtain ⟨U, L, hX, hU, hL⟩ := an_ti hR hz v1 v2
  unfold wpX_timeLower
  dsimp only
  exact hX _ _ _ _ _ _ (fun re' ma' ri' => hL _ _ _ _ (fun co' rg' => ⟨rfl, rl_J hR hz _ _ _ _ _ _ _ _ _⟩))
