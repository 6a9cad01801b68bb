/-! ===== X: outflow, matrix, determinant, fraction ===== -/
def of_S (R : Nat → Nat) (i : Nat) : Nat → Nat
  | 0 => 0
  | j + 1 => of_S R i j + R (4 * i + j)
def of_O (R : Nat → Nat) (i : Nat) : Nat := of_S R i 4
theorem xo_out {post : Int32 → Prop} {fu fl : Int32} {R : Nat → Nat} {re ma ri : Nat → Int32} {i : Nat} (hi : i < 4) (h : post (nI (of_O R i))) :
    wpX_outflow post (fu, fl, (fun n => nI (R n)), re, ma, ri) (nI i) := by
  refine loop_0 (fun n j s => wX_outflow_4 post (nI i) fu fl (fun n => nI (R n)) re ma ri n (nI s) (nI j)) (fun j s => s = of_S R i j) 4 0 rfl ?_ ?_
  · intro n s hs
    subst hs
    exact br_t bs_le4 h
  · intro n j s hj hs ih
    refine br_f (bs_ge4 hj) ?_
    rw [bs_ix, nI_clamp (by omega)]
    refine ⟨vp_in_nI (by omega) (by decide), nm_r (nI_add s (R (4 * i + j))) (nm_r (nI_1 j) (ih _ ?_))⟩
    subst hs
    rfl
def fm_st (r out : Nat) : Nat := if r < out then r else r + 1
theorem fm_st4 {r out : Nat} (h : r < 3) : fm_st r out < 4 := by unfold fm_st; split <;> omega
theorem xs_st {post : Int32 → Prop} {r out : Nat} (hr : r < 3) (ho : out < 4) (h : post (nI (fm_st r out))) : wpX_stateAt post (nI r) (nI out) := by
  unfold fm_st at h
  refine pk_le out r (fun e => ?_) (fun e => ?_)
  · rw [if_neg (by omega)] at h
    rw [nI_1]; exact h
  · rw [if_pos e] at h; exact h
def fm_A (R : Nat → Nat) (s q : Nat) : Int := if s = q then (of_O R s : Int) else -(R (4 * s + q) : Int)
def fm_I (M : Nat → Nat → Int) (k : Nat) (ma : Nat → Int32) : Prop := ∀ r c, r < 3 → c < 3 → 3 * r + c < k → ma (3 * r + c) = Int32.ofInt (M r c)
def dt_Ma (M : Nat → Nat → Int) (ma : Nat → Int32) : Prop := ∀ r c, r < 3 → c < 3 → ma (3 * r + c) = Int32.ofInt (M r c)
def fm_M (R : Nat → Nat) (out : Nat) (r c : Nat) : Int := fm_A R (fm_st r out) (fm_st c out)
theorem fm_Is {M : Nat → Nat → Int} {a b : Nat} {ma : Nat → Int32} {x : Int32} (hb : b < 3) (h : fm_I M (3 * a + b) ma) (hx : x = Int32.ofInt (M a b)) :
    fm_I M (3 * a + (b + 1)) (upd ma (3 * a + b) x) := by
  intro r c hr hc hn
  by_cases e : 3 * r + c = 3 * a + b
  · have e1 : r = a := by omega
    have e2 : c = b := by omega
    subst e1 e2
    rw [pk_us, hx]
  · rw [pk_un e]; exact h r c hr hc (by omega)
theorem xf_56 {post : SX → Prop} {J2 J16 : Int32 → (Nat → Int32) → (Nat → Int32) → (Nat → Int32) → (Nat → Int32) → Prop} {x1 x3 z0 fu fl : Int32} {ra re ma ri : Nat → Int32} {r c : Nat}
    (hr : r < 3) (hc : c < 3) (h : J16 (nI (c + 1)) ra re (upd ma (3 * r + c) z0) ri) : wX_fillMatrix_56 post J2 J16 x1 (nI r) x3 (nI c) z0 fu fl ra re ma ri := by
  unfold wX_fillMatrix_56
  rw [bs_i3, nI_clamp (by omega)]
  exact ⟨vp_in_nI (by omega) (by decide), nm_e (nm_r (nI_1 c) h)⟩
theorem xf_16 {post : SX → Prop} {J2 : Int32 → (Nat → Int32) → (Nat → Int32) → (Nat → Int32) → (Nat → Int32) → Prop} {fu fl : Int32} {R : Nat → Nat} {re ma ri : Nat → Int32} {out r : Nat}
    (ho : out < 4) (hr : r < 3) (h0 : fm_I (fm_M R out) (3 * r) ma)
    (h : ∀ ma', fm_I (fm_M R out) (3 * (r + 1)) ma' → J2 (nI (r + 1)) (fun n => nI (R n)) re ma' ri) :
    ∃ n, wX_fillMatrix_16 post J2 (nI out) (nI r) (nI (fm_st r out)) fu fl n 0 (fun n => nI (R n)) re ma ri := by
  refine loop_0 (fun n i s => wX_fillMatrix_16 post J2 (nI out) (nI r) (nI (fm_st r out)) fu fl n (nI i) (fun n => nI (R n)) re s ri) (fun i s => fm_I (fm_M R out) (3 * r + i) s) 3 ma h0 ?_ ?_
  · intro n s hs
    exact br_t bs_le3 (nm_r (nI_1 r) (h s hs))
  · intro n c s hc hs ih
    have h1 := fm_st4 (out := out) hr
    have h2 := fm_st4 (out := out) hc
    refine br_f (bs_ge3 hc) (xs_st hc ho (pk_eq (fm_st r out) (fm_st c out) (fun e => xo_out h1 (xf_56 hr hc (ih _ (fm_Is hc hs ?_)))) (fun e => ⟨?_, xf_56 hr hc (ih _ (fm_Is hc hs ?_))⟩)))
    · unfold fm_M fm_A; rw [if_pos e]; rfl
    · rw [bs_ix]; exact vp_in_nI (by omega) (by decide)
    · rw [bs_ix, nI_clamp (by omega)]
      unfold fm_M fm_A; rw [if_neg e, Int32.ofInt_neg]; rfl
theorem xf_fill {post : SX → Prop} {fu fl : Int32} {R : Nat → Nat} {re ma ri : Nat → Int32} {out : Nat} (ho : out < 4)
    (h : ∀ ma', dt_Ma (fm_M R out) ma' → post (fu, fl, (fun n => nI (R n)), re, ma', ri)) :
    wpX_fillMatrix post (fu, fl, (fun n => nI (R n)), re, ma, ri) (nI out) := by
  refine loop_0 (fun n i s => wX_fillMatrix_2 post (nI out) fu fl n (nI i) (fun n => nI (R n)) re s ri) (fun i s => fm_I (fm_M R out) (3 * i) s) 3 ma (fun r c _ _ hn => by omega) ?_ ?_
  · intro n s hs
    exact br_t bs_le3 (h s (fun r c hr hc => hs r c hr hc (by omega)))
  · intro n r s hr hs ih
    exact br_f (bs_ge3 hr) (xs_st hr ho (xf_16 ho hr hs ih))
def dt_3 (M : Nat → Nat → Int) : Int := M 0 0 * (M 1 1 * M 2 2 - M 1 2 * M 2 1) - M 0 1 * (M 1 0 * M 2 2 - M 1 2 * M 2 0) + M 0 2 * (M 1 0 * M 2 1 - M 1 1 * M 2 0)
theorem xd_det {post : Int32 → Prop} {fu fl : Int32} {ra re ma ri : Nat → Int32} {M : Nat → Nat → Int} (hM : dt_Ma M ma) (h : post (Int32.ofInt (dt_3 M))) :
    wpX_determinant post (fu, fl, ra, re, ma, ri) := by
  have e0 : ma 0 = _ := hM 0 0 (by decide) (by decide)
  have e1 : ma 1 = _ := hM 0 1 (by decide) (by decide)
  have e2 : ma 2 = _ := hM 0 2 (by decide) (by decide)
  have e3 : ma 3 = _ := hM 1 0 (by decide) (by decide)
  have e4 : ma 4 = _ := hM 1 1 (by decide) (by decide)
  have e5 : ma 5 = _ := hM 1 2 (by decide) (by decide)
  have e6 : ma 6 = _ := hM 2 0 (by decide) (by decide)
  have e7 : ma 7 = _ := hM 2 1 (by decide) (by decide)
  have e8 : ma 8 = _ := hM 2 2 (by decide) (by decide)
  intro x1 h1 x2 h2 x3 h3
  rw [h1, h2, h3, e0, e1, e2, e3, e4, e5, e6, e7, e8]
  unfold dt_3 at h
  simp only [Int32.ofInt_add, Int32.ofInt_sub, Int32.ofInt_mul] at h
  exact h
/-! Euclid -/
theorem eu_half {s r : Nat} (h0 : 0 < r) (h : r < s) {k : Nat} (hs : s < 2 ^ (k + 1)) : s % r < 2 ^ k := by
  have hp : 2 ^ (k + 1) = 2 * 2 ^ k := by rw [Nat.pow_succ]; omega
  have h1 : s % r < r := Nat.mod_lt _ h0
  by_cases q : r ≤ 2 ^ k
  · omega
  · have h2 : s % r ≤ s - r := by
      rw [Nat.mod_eq_sub_mod (by omega)]
      exact Nat.mod_le _ _
    omega
theorem eu_7 {post : Int32 → Prop} : ∀ k s b j n, s < 2 ^ k → b < 2 ^ 31 → s < 2 ^ 31 → j + 2 * k ≤ 64 → 2 * k < n → post (nI (Nat.gcd b s)) → wX_commonDivisor_7 post n (nI b) (nI s) (nI j) := by
  intro k
  induction k with
  | zero =>
    intro s b j n hs _ _ _ hn h
    have e : s = 0 := by omega
    subst e
    rw [Nat.gcd_zero_right] at h
    cases n with
    | zero => omega
    | succ n => exact br_c (fun _ => h) (fun _ => br_t rfl h)
  | succ k ih =>
    intro s b j n hs hb hs2 hj hn h
    match n, hn with
    | n + 2, hn =>
      refine br_f (bs_ge64 (by omega)) (pk_eq s 0 (fun e => ?_) (fun e => ⟨nI_ne0 (by omega) hs2, nm_r (pk_rem hb (by omega) hs2) (nm_r (nI_1 j) ?_)⟩))
      · rw [e, Nat.gcd_zero_right] at h; exact h
      · have hr : b % s < s := Nat.mod_lt _ (by omega)
        have g1 : Nat.gcd b s = Nat.gcd s (b % s) := by rw [Nat.gcd_comm b s, Nat.gcd_rec s b, Nat.gcd_comm]
        rw [g1] at h
        refine br_f (bs_ge64 (by omega)) (pk_eq (b % s) 0 (fun e => ?_) (fun e => ⟨nI_ne0 (by omega) (by omega), nm_r (pk_rem hs2 (by omega) (by omega)) (nm_r (nI_1 (j + 1)) ?_)⟩))
        · rw [e, Nat.gcd_zero_right] at h; exact h
        · have g2 : Nat.gcd s (b % s) = Nat.gcd (b % s) (s % (b % s)) := by rw [Nat.gcd_comm s (b % s), Nat.gcd_rec (b % s) s, Nat.gcd_comm]
          rw [g2] at h
          have hl := Nat.mod_lt s (y := b % s) (by omega)
          exact ih (s % (b % s)) (b % s) (j + 1 + 1) n (eu_half (by omega) hr hs) (by omega) (by omega) (by omega) (by omega) h
theorem xg_gcd {post : Int32 → Prop} {a b : Nat} (ha : a < 2 ^ 31) (hb : b < 2 ^ 31) (h : post (nI (Nat.gcd a b))) : wpX_commonDivisor post (nI a) (nI b) :=
  ⟨65, eu_7 31 b a 0 65 hb ha hb (by omega) (by omega) h⟩
theorem xg_set {post : SX → Prop} {fu fl : Int32} {ra re ma ri : Nat → Int32} {n d : Nat} (hn : n < 2 ^ 31) (hd : d < 2 ^ 31) (h0 : 0 < d)
    (h : post (nI (n / Nat.gcd n d), nI (d / Nat.gcd n d), ra, re, ma, ri)) : wpX_setFraction post (fu, fl, ra, re, ma, ri) (nI n) (nI d) := by
  have hg : 0 < Nat.gcd n d := Nat.gcd_pos_of_pos_right n h0
  have hg2 : Nat.gcd n d ≤ d := Nat.gcd_le_right n h0
  refine xg_gcd hn hd (br_t (nI_le (a := 1) (by omega) (by omega)) ⟨nI_ne0 hg (by omega), nm_r (pk_div hn hg (by omega)) ⟨nI_ne0 hg (by omega), nm_r (pk_div hd hg (by omega)) h⟩⟩)
