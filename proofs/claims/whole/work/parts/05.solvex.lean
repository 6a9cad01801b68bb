/-! ===== X: held rows, Cramer ===== -/
noncomputable def ci_i (p : Prop) (a b : Int) : Int := @ite Int p (Classical.propDecidable p) a b
theorem ci_t {p : Prop} {a b : Int} (h : p) : ci_i p a b = a := by unfold ci_i; rw [if_pos h]
theorem ci_f {p : Prop} {a b : Int} (h : ¬ p) : ci_i p a b = b := by unfold ci_i; rw [if_neg h]
theorem ci_c {p q : Prop} {a b : Int} (h : p ↔ q) : ci_i p a b = ci_i q a b := by rw [propext h]
def ho_M (M : Nat → Nat → Int) (row i : Nat) (r c : Nat) : Int := if r = row ∧ c < i then (if row = c then 1 else 0) else M r c
theorem xh_put {M : Nat → Nat → Int} {row i : Nat} {ma : Nat → Int32} {x : Int32} (hr : row < 3) (hi : i < 3) (h : dt_Ma (ho_M M row i) ma) (hx : x = if row = i then 1 else 0) :
    dt_Ma (ho_M M row (i + 1)) (upd ma (3 * row + i) x) := by
  intro r c hr hc
  by_cases e : 3 * r + c = 3 * row + i
  · have e1 : r = row := by omega
    have e2 : c = i := by omega
    subst e1 e2
    have hv : ho_M M r (c + 1) r c = if r = c then 1 else 0 := if_pos ⟨rfl, by omega⟩
    rw [pk_us, hx, hv]
    split <;> rfl
  · rw [pk_un e, h r c hr hc]
    unfold ho_M
    by_cases q : r = row
    · have : c ≠ i := by omega
      by_cases l : c < i
      · have a1 : r = row ∧ c < i := ⟨q, l⟩
        have a2 : r = row ∧ c < i + 1 := ⟨q, by omega⟩
        rw [if_pos a1, if_pos a2]
      · have a1 : ¬ (r = row ∧ c < i) := fun z => l z.2
        have a2 : ¬ (r = row ∧ c < i + 1) := fun z => by have := z.2; omega
        rw [if_neg a1, if_neg a2]
    · have a1 : ¬ (r = row ∧ c < i) := fun z => q z.1
      have a2 : ¬ (r = row ∧ c < i + 1) := fun z => q z.1
      rw [if_neg a1, if_neg a2]
theorem xh_hold {post : SX → Prop} {fu fl : Int32} {ra re ma ri : Nat → Int32} {M : Nat → Nat → Int} {row : Nat} (hr : row < 3) (hM : dt_Ma M ma)
    (h : ∀ ma', dt_Ma (ho_M M row 3) ma' → post (fu, fl, ra, re, ma', upd ri row 0)) : wpX_holdAtZero post (fu, fl, ra, re, ma, ri) (nI row) := by
  refine loop_0 (fun n i s => wX_holdAtZero_2 post (nI row) fu fl n (nI i) ra re s ri) (fun i s => dt_Ma (ho_M M row i) s) 3 ma ?_ ?_ ?_
  · intro r c hr hc
    unfold ho_M
    rw [if_neg (fun z => by omega)]
    exact hM r c hr hc
  · intro n s hs
    refine br_t bs_le3 ⟨vp_in_nI hr (by decide), ?_⟩
    rw [nI_clamp (by omega)]
    exact nm_e (h s hs)
  · intro n i s hi hs ih
    refine br_f (bs_ge3 hi) ?_
    rw [bs_i3, nI_clamp (by omega)]
    have hin : vp_in (nI (3 * row + i)) 9 := vp_in_nI (by omega) (by decide)
    exact pk_eq row i (fun e => ⟨hin, nm_e (nm_r (nI_1 i) (ih _ (xh_put hr hi hs (by rw [if_pos e]))))⟩) (fun e => ⟨hin, nm_e (nm_r (nI_1 i) (ih _ (xh_put hr hi hs (by rw [if_neg e]))))⟩)
/-- the system with the rows of H held -/
noncomputable def xs_M (H : Nat → Prop) (M : Nat → Nat → Int) (r c : Nat) : Int := ci_i (H r) (if r = c then 1 else 0) (M r c)
noncomputable def xs_b (H : Nat → Prop) (b : Nat → Int) (r : Nat) : Int := ci_i (H r) 0 (b r)
def sy_I (M : Nat → Nat → Int) (H : Nat → Prop) (b : Nat → Int) (k : Nat) (ma ri : Nat → Int32) : Prop :=
  dt_Ma (fun r c => ci_i (r < k ∧ H r) (if r = c then 1 else 0) (M r c)) ma ∧ ∀ r, r < k → ri r = Int32.ofInt (xs_b H b r)
theorem sy_0 {M : Nat → Nat → Int} {H : Nat → Prop} {b : Nat → Int} {ma ri : Nat → Int32} (h : dt_Ma M ma) : sy_I M H b 0 ma ri :=
  ⟨fun r c hr hc => by dsimp only; rw [ci_f (fun z => by omega)]; exact h r c hr hc, fun r h => by omega⟩
theorem sy_no {M : Nat → Nat → Int} {H : Nat → Prop} {b : Nat → Int} {k : Nat} {ma ri : Nat → Int32} (h : sy_I M H b k ma ri) (hn : ¬ H k) : sy_I M H b (k + 1) ma (upd ri k (Int32.ofInt (b k))) := by
  refine ⟨fun r c hr hc => ?_, fun r hr => ?_⟩
  · rw [h.1 r c hr hc]
    dsimp only
    refine congrArg _ (ci_c ⟨fun z => ⟨by omega, z.2⟩, fun z => ⟨?_, z.2⟩⟩)
    have : r ≠ k := fun e => hn (e ▸ z.2)
    omega
  · by_cases e : r = k
    · subst e; rw [pk_us]; unfold xs_b; rw [ci_f hn]
    · rw [pk_un e]; exact h.2 r (by omega)
theorem sy_yes {M : Nat → Nat → Int} {H : Nat → Prop} {b : Nat → Int} {k : Nat} {ma ma' ri : Nat → Int32} {x : Int32} (h : sy_I M H b k ma ri) (hy : H k)
    (hm : dt_Ma (ho_M (fun r c => ci_i (r < k ∧ H r) (if r = c then 1 else 0) (M r c)) k 3) ma') : sy_I M H b (k + 1) ma' (upd (upd ri k x) k 0) := by
  refine ⟨fun r c hr hc => ?_, fun r hr => ?_⟩
  · rw [hm r c hr hc]
    unfold ho_M
    dsimp only
    by_cases e : r = k
    · subst e
      rw [if_pos ⟨rfl, hc⟩, ci_t ⟨by omega, hy⟩]
    · rw [if_neg (fun z => e z.1)]
      exact congrArg _ (ci_c ⟨fun z => ⟨by omega, z.2⟩, fun z => ⟨by omega, z.2⟩⟩)
  · by_cases e : r = k
    · subst e; rw [pk_us]; unfold xs_b; rw [ci_t hy]; rfl
    · rw [pk_un e, pk_un e]; exact h.2 r (by omega)
theorem sy_3 {M : Nat → Nat → Int} {H : Nat → Prop} {b : Nat → Int} {ma ri : Nat → Int32} (h : sy_I M H b 3 ma ri) : dt_Ma (xs_M H M) ma := by
  intro r c hr hc
  rw [h.1 r c hr hc]
  exact congrArg _ (ci_c ⟨fun z => z.2, fun z => ⟨hr, z⟩⟩)
def sv_c (i out : Nat) : Nat := if i < out then i else i - 1
def xs_N (col : Nat) (M : Nat → Nat → Int) (b : Nat → Int) (r c : Nat) : Int := if c = col then b r else M r c
def sv_N (col k : Nat) (M : Nat → Nat → Int) (b : Nat → Int) (r c : Nat) : Int := if c = col ∧ r < k then b r else M r c
theorem sv_put {M : Nat → Nat → Int} {b : Nat → Int} {col k : Nat} {ma : Nat → Int32} (hc0 : col < 3) (h : dt_Ma (sv_N col k M b) ma) : dt_Ma (sv_N col (k + 1) M b) (upd ma (3 * k + col) (Int32.ofInt (b k))) := by
  intro r c hr hc
  by_cases e : 3 * r + c = 3 * k + col
  · have e1 : r = k := by omega
    have e2 : c = col := by omega
    subst e1 e2
    rw [pk_us]; unfold sv_N; rw [if_pos ⟨rfl, by omega⟩]
  · rw [pk_un e, h r c hr hc]
    unfold sv_N
    by_cases q : c = col
    · have : r ≠ k := by omega
      by_cases l : r < k
      · rw [if_pos ⟨q, l⟩, if_pos ⟨q, by omega⟩]
      · rw [if_neg (fun z => l z.2), if_neg (fun z => by have := z.2; omega)]
    · rw [if_neg (fun z => q z.1), if_neg (fun z => q z.1)]
theorem sv_solve {post : SX → Prop} {fu fl : Int32} {ra re ma ri : Nat → Int32} {M : Nat → Nat → Int} {b : Nat → Int} {i out n d : Nat} (hM : dt_Ma M ma) (hb : ∀ r, r < 3 → ri r = Int32.ofInt (b r))
    (hi : i < 4) (ho : out < 4) (hne : i ≠ out) (hd : dt_3 M = (d : Int)) (hn : dt_3 (xs_N (sv_c i out) M b) = (n : Int)) (h0 : 0 < d) (bd : d < 2 ^ 31) (bn : n < 2 ^ 31)
    (h : ∀ ma', post (nI (n / Nat.gcd n d), nI (d / Nat.gcd n d), ra, re, ma', ri)) : wpX_solveFor post (fu, fl, ra, re, ma, ri) (nI i) (nI out) := by
  have hcol : sv_c i out < 3 := by unfold sv_c; split <;> omega
  have key : ∃ n15, wX_solveFor_15 post (Int32.ofInt (dt_3 M)) (nI (sv_c i out)) fu fl n15 0 ra re ma ri := by
    refine loop_0 (fun n k s => wX_solveFor_15 post (Int32.ofInt (dt_3 M)) (nI (sv_c i out)) fu fl n (nI k) ra re s ri) (fun k s => dt_Ma (sv_N (sv_c i out) k M b) s) 3 ma ?_ ?_ ?_
    · intro r c hr hc
      unfold sv_N
      rw [if_neg (fun z => by omega)]
      exact hM r c hr hc
    · intro m s hs
      refine br_t bs_le3 (xd_det (M := xs_N (sv_c i out) M b) ?_ ?_)
      · intro r c hr hc
        rw [hs r c hr hc]
        unfold sv_N xs_N
        by_cases q : c = sv_c i out
        · rw [if_pos ⟨q, hr⟩, if_pos q]
        · rw [if_neg (fun z => q z.1), if_neg q]
      · rw [hn, hd]
        exact xg_set bn bd h0 (h s)
    · intro m k s hk hs ih
      refine br_f (bs_ge3 hk) ⟨vp_in_nI hk (by decide), ?_⟩
      rw [bs_i3, nI_clamp (by omega), nI_clamp (by omega), hb k hk]
      exact ⟨vp_in_nI (by omega) (by decide), nm_e (nm_r (nI_1 k) (ih _ (sv_put hcol hs)))⟩
  unfold wpX_solveFor
  dsimp only
  refine xd_det hM ?_
  refine pk_le out i (fun e => ?_) (fun e => ?_)
  · have e2 : nI i - 1 = nI (sv_c i out) := by
      unfold sv_c; rw [if_neg (by omega)]
      exact pk_sub (b := 1) (by omega)
    rw [e2]; exact key
  · have e2 : nI i = nI (sv_c i out) := by unfold sv_c; rw [if_pos e]
    rw [e2]; exact key
/-! chances -/
def ch_H (R : Nat → Nat) (t u r : Nat) : Prop := fm_st r t = u ∨ (¬ rt_R (xr_E R (-1)) (fm_st r t) t ∧ ¬ rt_R (xr_E R (-1)) (fm_st r t) u)
def ch_b (R : Nat → Nat) (t r : Nat) : Int := (R (4 * fm_st r t + t) : Int)
theorem xc_126 {post : SX → Prop} {J56 : Int32 → Int32 → Int32 → (Nat → Int32) → (Nat → Int32) → (Nat → Int32) → (Nat → Int32) → Prop} {x1 x2 x3 fu fl : Int32} {ra re ma ri : Nat → Int32} {M : Nat → Nat → Int} {r : Nat} (hr : r < 3) (hM : dt_Ma M ma)
    (h : ∀ ma', dt_Ma (ho_M M r 3) ma' → J56 (nI (r + 1)) fu fl ra re ma' (upd ri r 0)) : wX_findChance_126 post J56 x1 x2 x3 (nI r) fu fl ra re ma ri := by
  unfold wX_findChance_126
  exact xh_hold hr hM (fun ma' hm => nm_r (nI_1 r) (h ma' hm))
theorem xc_56 {post : SX → Prop} {fu fl : Int32} {R : Nat → Nat} {re ma ri : Nat → Int32} {i t u n d : Nat} (hi : i < 4) (ht : t < 4) (hu : u < 4) (hit : i ≠ t)
    (hre : cx_Re (rt_R (xr_E R (-1))) re) (hm : dt_Ma (fm_M R t) ma)
    (hd : dt_3 (xs_M (ch_H R t u) (fm_M R t)) = (d : Int)) (hn : dt_3 (xs_N (sv_c i t) (xs_M (ch_H R t u) (fm_M R t)) (xs_b (ch_H R t u) (ch_b R t))) = (n : Int)) (h0 : 0 < d) (bd : d < 2 ^ 31) (bn : n < 2 ^ 31)
    (h : ∀ ma' ri', post (nI (n / Nat.gcd n d), nI (d / Nat.gcd n d), (fun n => nI (R n)), re, ma', ri')) :
    ∃ n56, wX_findChance_56 post (nI i) (nI t) (nI u) n56 0 fu fl (fun n => nI (R n)) re ma ri := by
  refine loop_0 (fun n k (s : (Nat → Int32) × (Nat → Int32)) => wX_findChance_56 post (nI i) (nI t) (nI u) n (nI k) fu fl (fun n => nI (R n)) re s.1 s.2) (fun k s => sy_I (fm_M R t) (ch_H R t u) (ch_b R t) k s.1 s.2) 3 (ma, ri) (sy_0 hm) ?_ ?_
  · intro m s hs
    exact br_t bs_le3 (sv_solve (sy_3 hs) (fun r hr => hs.2 r hr) hi ht hit hd hn h0 bd bn (fun ma' => h ma' s.2))
  · intro m k s hk hs ih
    have h4 := fm_st4 (out := t) hk
    refine br_f (bs_ge3 hk) (xs_st hk ht ?_)
    rw [bs_ix, nI_clamp (by omega), nI_clamp (by omega)]
    refine ⟨vp_in_nI (by omega) (by decide), vp_in_nI hk (by decide), nm_e ?_⟩
    have YES : ch_H R t u k → wX_findChance_126 post (wX_findChance_56 post (nI i) (nI t) (nI u) m) (nI i) (nI t) (nI u) (nI k) fu fl (fun n => nI (R n)) re s.1 (upd s.2 k (nI (R (4 * fm_st k t + t)))) :=
      fun hy => xc_126 hk hs.1 (fun ma' hm' => ih (ma', _) (sy_yes hs hy hm'))
    have NO : ¬ ch_H R t u k → ∀ y, y = nI k + 1 → wX_findChance_56 post (nI i) (nI t) (nI u) m y fu fl (fun n => nI (R n)) re s.1 (upd s.2 k (nI (R (4 * fm_st k t + t)))) :=
      fun hn => nm_r (nI_1 k) (ih (s.1, _) (sy_no hs hn))
    have W112 : ¬ (¬ rt_R (xr_E R (-1)) (fm_st k t) t ∧ ¬ rt_R (xr_E R (-1)) (fm_st k t) u) → wX_findChance_112 post (wX_findChance_56 post (nI i) (nI t) (nI u) m) (nI i) (nI t) (nI u) (nI k) (nI (fm_st k t)) fu fl (fun n => nI (R n)) re s.1 (upd s.2 k (nI (R (4 * fm_st k t + t)))) :=
      fun q => pk_eq (fm_st k t) u (fun e => YES (.inl e)) (fun e => br_t rfl (NO (fun z => z.elim e q)))
    refine cx_can h4 ht (hre _ _ h4 ht) (cx_br0 (fun q => cx_can h4 hu (hre _ _ h4 hu) (cx_br0 (fun q2 => ?_) (fun q2 => W112 (fun z => z.2 q2)))) (fun q => W112 (fun z => z.1 q)))
    exact pk_eq (fm_st k t) u (fun e => YES (.inl e)) (fun e => br_f (by decide) (YES (.inr ⟨q, q2⟩)))
/-! times -/
def ti_H (R : Nat → Nat) (i t r : Nat) : Prop := ¬ rt_R (xr_E R (nI t)) i (fm_st r t)
theorem xt_53 {post : SX → Prop} {fu fl : Int32} {R : Nat → Nat} {re ma ri : Nat → Int32} {i t n d : Nat} (hi : i < 4) (ht : t < 4) (hit : i ≠ t)
    (hre : cx_Re (rt_R (xr_E R (nI t))) re) (hm : dt_Ma (fm_M R t) ma)
    (hd : dt_3 (xs_M (ti_H R i t) (fm_M R t)) = (d : Int)) (hn : dt_3 (xs_N (sv_c i t) (xs_M (ti_H R i t) (fm_M R t)) (xs_b (ti_H R i t) (fun _ => 1))) = (n : Int)) (h0 : 0 < d) (bd : d < 2 ^ 31) (bn : n < 2 ^ 31)
    (h : ∀ ma' ri', post (nI (n / Nat.gcd n d), nI (d / Nat.gcd n d), (fun n => nI (R n)), re, ma', ri')) :
    ∃ n53, wX_findTime_53 post (nI i) (nI t) n53 0 fu fl (fun n => nI (R n)) re ma ri := by
  refine loop_0 (fun n k (s : (Nat → Int32) × (Nat → Int32)) => wX_findTime_53 post (nI i) (nI t) n (nI k) fu fl (fun n => nI (R n)) re s.1 s.2) (fun k s => sy_I (fm_M R t) (ti_H R i t) (fun _ => 1) k s.1 s.2) 3 (ma, ri) (sy_0 hm) ?_ ?_
  · intro m s hs
    exact br_t bs_le3 (sv_solve (sy_3 hs) (fun r hr => hs.2 r hr) hi ht hit hd hn h0 bd bn (fun ma' => h ma' s.2))
  · intro m k s hk hs ih
    have h4 := fm_st4 (out := t) hk
    refine br_f (bs_ge3 hk) (xs_st hk ht ?_)
    rw [nI_clamp (by omega)]
    refine ⟨vp_in_nI hk (by decide), nm_e ?_⟩
    refine cx_can hi h4 (hre _ _ hi h4) (cx_br0 (fun q => xh_hold hk hs.1 (fun ma' hm' => nm_r (nI_1 k) (ih (ma', _) (sy_yes hs q hm')))) (fun q => nm_r (nI_1 k) (ih (s.1, _) (sy_no (b := fun _ => 1) hs (fun z => z q)))))
def mm_M (P : Nat → Nat → Prop) (i t : Nat) : Prop := ∃ s, s < 4 ∧ P i s ∧ ¬ P s t
theorem xm_miss {post : Int32 → Prop} {fu fl : Int32} {ra re ma ri : Nat → Int32} {P : Nat → Nat → Prop} {i t : Nat} (hi : i < 4) (ht : t < 4) (hre : cx_Re P re)
    (h : post (cx_b (mm_M P i t))) : wpX_mayMiss post (fu, fl, ra, re, ma, ri) (nI i) (nI t) := by
  refine loop_0 (σ := Unit) (fun n j _ => wX_mayMiss_2 post (nI i) (nI t) fu fl ra re ma ri n (nI j)) (fun j _ => ∀ k, k < j → P i k → P k t) 4 () (fun k hk => by omega) ?_ ?_
  · intro n _ hI
    rw [cx_f (fun z : mm_M P i t => by obtain ⟨s, h1, h2, h3⟩ := z; exact h3 (hI s h1 h2))] at h
    exact br_t bs_le4 h
  · intro n j _ hj hI ih
    refine br_f (bs_ge4 hj) (cx_can hi hj (hre i j hi hj) (cx_br0 (fun q => nm_r (nI_1 j) (ih () (lt_s hI (fun z => absurd z q)))) (fun q => cx_can hj ht (hre j t hj ht) (cx_br0 (fun q2 => ?_) (fun q2 => nm_r (nI_1 j) (ih () (lt_s hI (fun _ => q2))))))))
    rw [cx_t (show mm_M P i t from ⟨j, hj, q, q2⟩)] at h
    exact h
