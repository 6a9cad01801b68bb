/-! ===== Y: outflow, divisor, equations ===== -/
theorem of_le {R : Nat → Nat} (hR : ∀ n, R n ≤ 9) (i : Nat) : of_O R i ≤ 36 := by
  have h0 := hR (4 * i + 0)
  have h1 := hR (4 * i + 1)
  have h2 := hR (4 * i + 2)
  have h3 := hR (4 * i + 3)
  show of_S R i 4 ≤ 36
  simp only [of_S]
  omega
theorem yo_out {post : Int32 → Prop} {R : Nat → Nat} {su co rg : Nat → Int64} {i : Nat} (hi : i < 4) (h : post (nI (of_O R i))) :
    wpY_outflow post ((fun n => nI (R n)), su, co, rg) (nI i) := by
  refine loop_0 (fun n j s => wY_outflow_4 post (nI i) (fun n => nI (R n)) su co rg n (nI s) (nI j)) (fun j s => s = of_S R i j) 4 0 rfl ?_ ?_
  · intro n s hs
    subst hs
    exact br_t bs_le4 h
  · intro n j s hj hs ih
    refine br_f (bs_ge4 hj) ?_
    rw [bs_iy, nI_clamp (by omega)]
    refine ⟨vp_in_nI (by omega) (by decide), nm_r (nI_add s (R (4 * i + j))) (nm_r (nI_1 j) (ih _ ?_))⟩
    subst hs
    rfl
theorem yn_neg : ∀ n, n < 10 → (-(nI n)).toInt64 = Int64.ofInt (-(n : Int)) := by decide +kernel
theorem yg_28 {post : Int64 → Prop} : ∀ f b s, s < f → b < 2 ^ 63 → s < 2 ^ 63 → post (lN (Nat.gcd b s)) → wY_divisor_28 post f (lN b) (lN s) := by
  intro f
  induction f with
  | zero => intro b s h; exact absurd h (Nat.not_lt_zero s)
  | succ f ih =>
    intro b s hf hb hs h
    by_cases e : s = 0
    · subst e
      rw [Nat.gcd_zero_right] at h
      exact br_t rfl h
    · have hne : ¬ lN s = 0 := fun z => e ((pk_lEQ (b := 0) hs (by decide)).mp z)
      have hr : b % s < s := Nat.mod_lt _ (by omega)
      have g1 : Nat.gcd b s = Nat.gcd s (b % s) := by rw [Nat.gcd_comm b s, Nat.gcd_rec s b, Nat.gcd_comm]
      rw [g1] at h
      exact br_f hne ⟨hne, nm_r (pk_lRem hb (by omega) hs) (ih s (b % s) (by omega) hs (by omega) h)⟩
theorem yg_gcd {post : Int64 → Prop} {a b : Nat} (ha : a < 2 ^ 63) (hb : b < 2 ^ 63) (h : post (lN (Nat.gcd a b))) : wpY_divisor post (lN a) (lN b) := by
  have p : ∀ n, n < 2 ^ 63 → (0 : Int64) ≤ lN n := fun n hn => (pk_lLE (a := 0) (by decide) hn).mpr (Nat.zero_le n)
  exact br_t (p a ha) (br_t (p b hb) ⟨b + 1, yg_28 (b + 1) a b (by omega) ha hb h⟩)
/-! rows of the system -/
def id_i (r s : Nat) : Int := if r = s then 1 else 0
theorem ye_eq {post : SY → Prop} {ra : Nat → Int32} {su co rg : Nat → Int64} {row un : Nat} {x : Int64} (hr : row < 4) (hu : un < 4)
    (h : ∀ co', (∀ n, n < 4 * row → co' n = co n) → (∀ r, r < 4 → co' (4 * row + r) = Int64.ofInt (id_i r un)) → post (ra, su, co', vp_updL rg row x)) :
    wpY_equation post (ra, su, co, rg) (nI row) (nI un) x := by
  refine loop_0 (fun n j s => wY_equation_3 post (nI row) (nI un) x n (nI j) ra su s rg) (fun j s => (∀ n, n < 4 * row → s n = co n) ∧ ∀ r, r < j → s (4 * row + r) = Int64.ofInt (id_i r un)) 4 co ⟨fun _ _ => rfl, fun r h => by omega⟩ ?_ ?_
  · intro n s hs
    refine br_t bs_le4 ⟨vp_in_nI hr (by decide), ?_⟩
    rw [nI_clamp (by omega)]
    exact nm_e (h s hs.1 hs.2)
  · intro n j s hj hs ih
    have hin : vp_in (nI (4 * row + j)) 16 := vp_in_nI (by omega) (by decide)
    have st : ∀ y : Int64, y = Int64.ofInt (id_i j un) → (∀ n, n < 4 * row → vp_updL s (4 * row + j) y n = co n) ∧ ∀ r, r < j + 1 → vp_updL s (4 * row + j) y (4 * row + r) = Int64.ofInt (id_i r un) := by
      intro y hy
      refine ⟨fun n hn => by rw [pk_uLn (by omega)]; exact hs.1 n hn, fun r hr => ?_⟩
      by_cases e : r = j
      · subst e; rw [pk_uLs, hy]
      · rw [pk_uLn (by omega)]; exact hs.2 r (by omega)
    refine br_f (bs_ge4 hj) ?_
    rw [bs_iy, nI_clamp (by omega)]
    exact pk_eq j un (fun e => ⟨hin, nm_e (nm_r (nI_1 j) (ih _ (st _ (by unfold id_i; rw [if_pos e]; rfl))))⟩) (fun e => ⟨hin, nm_e (nm_r (nI_1 j) (ih _ (st _ (by unfold id_i; rw [if_neg e]; rfl))))⟩)
def yw_I (R : Nat → Nat) (s : Nat) (co0 : Nat → Int64) (j : Nat) (co : Nat → Int64) : Prop := (∀ n, n < 4 * s → co n = co0 n) ∧ ∀ r, r < j → co (4 * s + r) = Int64.ofInt (fm_A R s r)
theorem yw_s {R : Nat → Nat} {s : Nat} {co0 : Nat → Int64} {j : Nat} {co : Nat → Int64} {y : Int64} (h : yw_I R s co0 j co) (hy : y = Int64.ofInt (fm_A R s j)) : yw_I R s co0 (j + 1) (vp_updL co (4 * s + j) y) := by
  refine ⟨fun n hn => by rw [pk_uLn (by omega)]; exact h.1 n hn, fun r hr => ?_⟩
  by_cases e : r = j
  · subst e; rw [pk_uLs, hy]
  · rw [pk_uLn (by omega)]; exact h.2 r (by omega)
theorem yw_d {R : Nat → Nat} (hR : ∀ n, R n ≤ 9) {s j : Nat} (e : j = s) : (nI (of_O R s)).toInt64 = Int64.ofInt (fm_A R s j) := by
  have := of_le hR s
  unfold fm_A
  rw [if_pos e.symm, nI_l (by omega)]
  rfl
theorem yw_o {R : Nat → Nat} (hR : ∀ n, R n ≤ 9) {s j : Nat} (e : j ≠ s) : (-(nI (R (4 * s + j)))).toInt64 = Int64.ofInt (fm_A R s j) := by
  unfold fm_A
  rw [if_neg (fun z => e z.symm)]
  exact yn_neg _ (by have := hR (4 * s + j); omega)
theorem yc_67 {post : SY → Prop} {J2 : Int32 → (Nat → Int32) → (Nat → Int64) → (Nat → Int64) → (Nat → Int64) → Prop} {x1 x2 : Int32} {R : Nat → Nat} {su co rg : Nat → Int64} {s : Nat} (hR : ∀ n, R n ≤ 9) (hs : s < 4)
    (h : ∀ co', yw_I R s co 4 co' → J2 (nI (s + 1)) (fun n => nI (R n)) su co' rg) :
    ∃ n, wY_chances_67 post J2 x1 x2 (nI s) n 0 (fun n => nI (R n)) su co rg := by
  refine loop_0 (fun n j c => wY_chances_67 post J2 x1 x2 (nI s) n (nI j) (fun n => nI (R n)) su c rg) (fun j c => yw_I R s co j c) 4 co ⟨fun _ _ => rfl, fun r h => by omega⟩ ?_ ?_
  · intro n c hc
    exact br_t bs_le4 (nm_r (nI_1 s) (h c hc))
  · intro n j c hj hc ih
    have hin : vp_in (nI (4 * s + j)) 16 := vp_in_nI (by omega) (by decide)
    refine br_f (bs_ge4 hj) ?_
    rw [bs_iy, nI_clamp (by omega)]
    exact pk_eq j s (fun e => yo_out hs ⟨hin, nm_e (nm_r (nI_1 j) (ih _ (yw_s hc (yw_d hR e))))⟩) (fun e => ⟨hin, hin, nm_e (nm_r (nI_1 j) (ih _ (yw_s hc (yw_o hR e))))⟩)
theorem yt_55 {post : SY → Prop} {J21 : Int32 → (Nat → Int32) → (Nat → Int64) → (Nat → Int64) → (Nat → Int64) → Prop} {x2 x3 : Int32} {R : Nat → Nat} {su co rg : Nat → Int64} {s : Nat} (hR : ∀ n, R n ≤ 9) (hs : s < 4)
    (h : ∀ co', yw_I R s co 4 co' → J21 (nI (s + 1)) (fun n => nI (R n)) su co' (vp_updL rg s 1)) :
    ∃ n, wY_times_55 post J21 x2 x3 (nI s) n 0 (fun n => nI (R n)) su co rg := by
  refine loop_0 (fun n j c => wY_times_55 post J21 x2 x3 (nI s) n (nI j) (fun n => nI (R n)) su c rg) (fun j c => yw_I R s co j c) 4 co ⟨fun _ _ => rfl, fun r h => by omega⟩ ?_ ?_
  · intro n c hc
    refine br_t bs_le4 ⟨vp_in_nI hs (by decide), ?_⟩
    rw [nI_clamp (by omega)]
    exact nm_e (nm_r (nI_1 s) (h c hc))
  · intro n j c hj hc ih
    have hin : vp_in (nI (4 * s + j)) 16 := vp_in_nI (by omega) (by decide)
    refine br_f (bs_ge4 hj) ?_
    rw [bs_iy, nI_clamp (by omega)]
    exact pk_eq j s (fun e => yo_out hs ⟨hin, nm_e (nm_r (nI_1 j) (ih _ (yw_s hc (yw_d hR e))))⟩) (fun e => ⟨hin, hin, nm_e (nm_r (nI_1 j) (ih _ (yw_s hc (yw_o hR e))))⟩)
/-- rows of H are held, the others say what flows -/
noncomputable def yn_N (R : Nat → Nat) (H : Nat → Prop) (s r : Nat) : Int := ci_i (H s) (id_i r s) (fm_A R s r)
def ys_I (N : Nat → Nat → Int) (g : Nat → Int) (k : Nat) (co rg : Nat → Int64) : Prop := ∀ s, s < k → (∀ r, r < 4 → co (4 * s + r) = Int64.ofInt (N s r)) ∧ rg s = Int64.ofInt (g s)
theorem ys_s {N : Nat → Nat → Int} {g : Nat → Int} {k : Nat} {co co' rg rg' : Nat → Int64} (h : ys_I N g k co rg) (h1 : ∀ n, n < 4 * k → co' n = co n) (h2 : ∀ r, r < 4 → co' (4 * k + r) = Int64.ofInt (N k r))
    (h3 : ∀ s, s < k → rg' s = rg s) (h4 : rg' k = Int64.ofInt (g k)) : ys_I N g (k + 1) co' rg' := by
  intro s hs
  by_cases e : s = k
  · subst e; exact ⟨h2, h4⟩
  · have l : s < k := by omega
    exact ⟨fun r hr => by rw [h1 _ (by omega)]; exact (h s l).1 r hr, by rw [h3 s l]; exact (h s l).2⟩
def yc_D (R : Nat → Nat) (t u s : Nat) : Prop := s = u ∨ ¬ rt_R (yr_E R s (2 ^ t ||| 2 ^ u)) s t
def yc_H (R : Nat → Nat) (t u s : Nat) : Prop := s = t ∨ yc_D R t u s
theorem yc_ch {post : SY → Prop} {R : Nat → Nat} {su co rg : Nat → Int64} {t u : Nat} (hR : ∀ n, R n ≤ 9) (ht : t < 4) (hu : u < 4)
    (h : ∀ co' rg', ys_I (yn_N R (yc_H R t u)) (fun s => id_i s t) 4 co' rg' → post ((fun n => nI (R n)), su, co', rg')) :
    wpY_chances post ((fun n => nI (R n)), su, co, rg) (nI t) (nI u) := by
  refine loop_0 (fun n k (s : (Nat → Int64) × (Nat → Int64)) => wY_chances_2 post (nI t) (nI u) n (nI k) (fun n => nI (R n)) su s.1 s.2) (fun k s => ys_I (yn_N R (yc_H R t u)) (fun s => id_i s t) k s.1 s.2) 4 (co, rg) (fun s h => by omega) ?_ ?_
  · intro n s hs
    exact br_t bs_le4 (h s.1 s.2 hs)
  · intro n k s hk hs ih
    have EQ : ∀ (z : Int32) (x : Int64), x = Int64.ofInt (id_i k t) → (yc_D R t u k → ¬ z = 0) → (¬ yc_D R t u k → z = 0) →
        wY_chances_51 post (wY_chances_2 post (nI t) (nI u) n) (nI t) (nI u) (nI k) z x (nI k) (nI k) (fun n => nI (R n)) su s.1 s.2 := by
      intro z x hx hz1 hz2
      refine ye_eq hk hk (fun co' c1 c2 => ?_)
      have r1 : ∀ q, q < k → vp_updL s.2 k x q = s.2 q := fun q hq => pk_uLn (by omega)
      have r2 : vp_updL s.2 k x k = Int64.ofInt (id_i k t) := by rw [pk_uLs, hx]
      have HELD : yc_H R t u k → ys_I (yn_N R (yc_H R t u)) (fun s => id_i s t) (k + 1) co' (vp_updL s.2 k x) := by
        intro hH
        refine ys_s hs c1 (fun r hr => ?_) r1 r2
        rw [c2 r hr]; unfold yn_N; rw [ci_t hH]
      refine pk_eq k t (fun e => nm_r (nI_1 k) (ih (co', vp_updL s.2 k x) (HELD (.inl e)))) (fun e => ?_)
      by_cases hd : yc_D R t u k
      · exact br_f (hz1 hd) (nm_r (nI_1 k) (ih (co', vp_updL s.2 k x) (HELD (.inr hd))))
      · refine br_t (hz2 hd) (yc_67 hR hk (fun co2 hc2 => ih (co2, vp_updL s.2 k x) ?_))
        refine ys_s hs (fun q hq => (hc2.1 q hq).trans (c1 q hq)) (fun r hr => ?_) r1 r2
        dsimp only; rw [hc2.2 r hr]; unfold yn_N; rw [ci_f (fun z => z.elim e hd)]
    have E36 : ∀ z : Int32, (yc_D R t u k → ¬ z = 0) → (¬ yc_D R t u k → z = 0) → wY_chances_36 post (wY_chances_2 post (nI t) (nI u) n) (nI t) (nI u) (nI k) z (fun n => nI (R n)) su s.1 s.2 :=
      fun z h1 h2 => pk_eq k t (fun e => EQ z 1 (by unfold id_i; rw [if_pos e]; rfl) h1 h2) (fun e => EQ z 0 (by unfold id_i; rw [if_neg e]; rfl) h1 h2)
    refine br_f (bs_ge4 hk) (pk_eq k u (fun e => E36 1 (fun _ => by decide) (fun z => absurd (.inl e) z)) (fun e => ?_))
    rw [bs_shl1 t ht, bs_or (2 ^ t) (bs_one t ht).1 u hu]
    refine yr_reached hR hk (bs_or16 _ (bs_one t ht).1 u hu) (fun m hm hb => bs_br0 hm ht (fun q => E36 1 (fun _ => by decide) (fun z => absurd (.inr (fun w => q ((hb t ht).mpr w))) z)) (fun q => E36 0 (fun z => ?_) (fun _ => rfl)))
    exact absurd ((hb t ht).mp q) (z.resolve_left e)
def yt_H (t m s : Nat) : Prop := s = t ∨ ¬ m.testBit s = true
noncomputable def yt_g (t m s : Nat) : Int := ci_i (yt_H t m s) 0 1
theorem yt_21 {post : SY → Prop} {R : Nat → Nat} {su co rg : Nat → Int64} {t m : Nat} (hR : ∀ n, R n ≤ 9) (ht : t < 4) (hm : m < 16)
    (h : ∀ co' rg', ys_I (yn_N R (yt_H t m)) (yt_g t m) 4 co' rg' → post ((fun n => nI (R n)), su, co', rg')) :
    ∃ n, wY_times_21 post (nI t) (nI m) n 0 (fun n => nI (R n)) su co rg := by
  refine loop_0 (fun n k (s : (Nat → Int64) × (Nat → Int64)) => wY_times_21 post (nI t) (nI m) n (nI k) (fun n => nI (R n)) su s.1 s.2) (fun k s => ys_I (yn_N R (yt_H t m)) (yt_g t m) k s.1 s.2) 4 (co, rg) (fun s h => by omega) ?_ ?_
  · intro n s hs
    exact br_t bs_le4 (h s.1 s.2 hs)
  · intro n k s hk hs ih
    refine br_f (bs_ge4 hk) (ye_eq hk hk (fun co' c1 c2 => ?_))
    have r1 : ∀ q, q < k → vp_updL s.2 k 0 q = s.2 q := fun q hq => pk_uLn (by omega)
    have HELD : yt_H t m k → ys_I (yn_N R (yt_H t m)) (yt_g t m) (k + 1) co' (vp_updL s.2 k 0) := by
      intro hH
      refine ys_s hs c1 (fun r hr => ?_) r1 ?_
      · rw [c2 r hr]; unfold yn_N; rw [ci_t hH]
      · rw [pk_uLs]; unfold yt_g; rw [ci_t hH]; rfl
    refine pk_eq k t (fun e => nm_r (nI_1 k) (ih (co', vp_updL s.2 k 0) (HELD (.inl e)))) (fun e => bs_br1 hm hk (fun q => yt_55 hR hk (fun co2 hc2 => ih (co2, vp_updL (vp_updL s.2 k 0) k 1) ?_)) (fun q => nm_r (nI_1 k) (ih (co', vp_updL s.2 k 0) (HELD (.inr q)))))
    have hH : ¬ yt_H t m k := fun z => z.elim e (fun w => w q)
    refine ys_s hs (fun q hq => (hc2.1 q hq).trans (c1 q hq)) (fun r hr => ?_) (fun q hq => ?_) ?_
    · dsimp only; rw [hc2.2 r hr]; unfold yn_N; rw [ci_f hH]
    · dsimp only; rw [pk_uLn (by omega)]; exact r1 q hq
    · dsimp only; rw [pk_uLs]; unfold yt_g; rw [ci_f hH]; rfl
