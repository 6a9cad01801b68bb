/-! ===== Y: the fraction, mayMiss, times, trees, law ===== -/
def ye_E (N : Nat → Nat → Int) (g : Nat → Int) (i r c : Nat) : Int := if c = i then g r else N r c
theorem ye_m1 {N : Nat → Nat → Int} {g : Nat → Int} {co rg : Nat → Int64} (h : ys_I N g 4 co rg) : dy_E N co rg (-1) := by
  intro r c hr hc
  have h1 : ¬ nI c = -1 := by
    rcases (by omega : c = 0 ∨ c = 1 ∨ c = 2 ∨ c = 3) with h | h | h | h <;> subst h <;> decide
  exact ⟨fun e => absurd e h1, fun _ => (h r hr).1 c hc⟩
theorem ye_i {N : Nat → Nat → Int} {g : Nat → Int} {co rg : Nat → Int64} {i : Nat} (hi : i < 4) (h : ys_I N g 4 co rg) : dy_E (ye_E N g i) co rg (nI i) := by
  intro r c hr hc
  unfold ye_E
  by_cases e : c = i
  · rw [if_pos e]
    exact ⟨fun _ => (h r hr).2, fun q => absurd (by rw [e]) q⟩
  · rw [if_neg e]
    exact ⟨fun q => absurd ((nI_eq (by omega) (by omega)).mp q) e, fun _ => (h r hr).1 c hc⟩
theorem yf_p {n : Nat} (hn : n < 2 ^ 63) : (0 : Int64) ≤ lN n := (pk_lLE (a := 0) (by decide) hn).mpr (Nat.zero_le n)
theorem yf_low {post : Int64 → Prop} {ra : Nat → Int32} {su co rg : Nat → Int64} {N : Nat → Nat → Int} {g : Nat → Int} {i n d : Nat} (hi : i < 4) (h : ys_I N g 4 co rg)
    (hd : dt_4 N = (d : Int)) (hn : dt_4 (ye_E N g i) = (n : Int)) (h0 : 0 < d) (bd : d < 2 ^ 31) (bn : n < 2 ^ 31) (hp : post (lN (d / Nat.gcd n d))) : wpY_lowest post (ra, su, co, rg) (nI i) := by
  have hg : 0 < Nat.gcd n d := Nat.gcd_pos_of_pos_right n h0
  have hg2 : Nat.gcd n d ≤ d := Nat.gcd_le_right n h0
  have hne : ¬ lN (Nat.gcd n d) = 0 := fun z => by have := (pk_lEQ (b := 0) (by omega) (by decide)).mp z; omega
  have hl : d / Nat.gcd n d ≤ d := Nat.div_le_self _ _
  unfold wpY_lowest
  dsimp only
  refine yd_det (ye_m1 h) (yd_det (ye_i hi h) ?_)
  rw [dy_det, dy_det, hd, hn]
  refine yg_gcd (by omega) (by omega) (br_f hne ⟨hne, ?_⟩)
  have e : Int64.ofInt (d : Int) / lN (Nat.gcd n d) = lN (d / Nat.gcd n d) := pk_lDiv (by omega) hg (by omega)
  rw [e]
  exact br_t (yf_p (by omega)) hp
theorem yf_up {post : Int64 → Prop} {ra : Nat → Int32} {su co rg : Nat → Int64} {N : Nat → Nat → Int} {g : Nat → Int} {i n d : Nat} (hi : i < 4) (h : ys_I N g 4 co rg)
    (hd : dt_4 N = (d : Int)) (hn : dt_4 (ye_E N g i) = (n : Int)) (h0 : 0 < d) (bd : d < 2 ^ 31) (bn : n < 2 ^ 31) (hp : post (lN (n / Nat.gcd n d))) : wpY_upper post (ra, su, co, rg) (nI i) := by
  have hg : 0 < Nat.gcd n d := Nat.gcd_pos_of_pos_right n h0
  have hg2 : Nat.gcd n d ≤ d := Nat.gcd_le_right n h0
  have hne : ¬ lN (Nat.gcd n d) = 0 := fun z => by have := (pk_lEQ (b := 0) (by omega) (by decide)).mp z; omega
  unfold wpY_upper
  dsimp only
  refine yd_det (ye_m1 h) (yd_det (ye_i hi h) ?_)
  rw [dy_det, dy_det, hd, hn]
  refine yg_gcd (by omega) (by omega) (br_f hne ⟨hne, ?_⟩)
  have e : Int64.ofInt (n : Int) / lN (Nat.gcd n d) = lN (n / Nat.gcd n d) := pk_lDiv (by omega) hg (by omega)
  rw [e]
  exact br_t (yf_p (n := d) (by omega)) hp
def ym_M (P : Nat → Nat → Prop) (m t : Nat) : Prop := ∃ s, s < 4 ∧ m.testBit s = true ∧ s ≠ t ∧ ¬ P s t
theorem ym_23 {post : Int32 → Prop} {R : Nat → Nat} {su co rg : Nat → Int64} {t m : Nat} (hR : ∀ n, R n ≤ 9) (ht : t < 4) (hm : m < 16)
    (h : post (cx_b (ym_M (rt_R (xr_E R (-1))) m t))) : ∃ n, wY_mayMiss_23 post (nI t) (nI m) (fun n => nI (R n)) su co rg n 0 := by
  refine loop_0 (σ := Unit) (fun n j _ => wY_mayMiss_23 post (nI t) (nI m) (fun n => nI (R n)) su co rg n (nI j)) (fun j _ => ∀ k, k < j → m.testBit k = true → k ≠ t → rt_R (xr_E R (-1)) k t) 4 () (fun k hk => by omega) ?_ ?_
  · intro n _ hI
    rw [cx_f (fun z : ym_M _ m t => by obtain ⟨s, h1, h2, h3, h4⟩ := z; exact h4 (hI s h1 h2 h3))] at h
    exact br_t bs_le4 h
  · intro n j _ hj hI ih
    refine br_f (bs_ge4 hj) (bs_br1 hm hj (fun q => pk_eq j t (fun e => nm_r (nI_1 j) (ih () (lt_s hI (fun _ z => absurd e z)))) (fun e => yr_full hR hj (fun m2 hm2 hb2 => bs_br0 hm2 ht (fun w => ?_) (fun w => nm_r (nI_1 j) (ih () (lt_s hI (fun _ _ => (hb2 t ht).mp w))))))) (fun q => nm_r (nI_1 j) (ih () (lt_s hI (fun z => absurd z q)))))
    rw [cx_t (show ym_M _ m t from ⟨j, hj, q, e, fun z => w ((hb2 t ht).mpr z)⟩)] at h
    exact h
theorem ym_eq {post : Int32 → Prop} {R : Nat → Nat} {su co rg : Nat → Int64} {t : Nat} (hR : ∀ n, R n ≤ 9) (ht : t < 4) (h : post 0) : wpY_mayMiss post ((fun n => nI (R n)), su, co, rg) (nI t) (nI t) := by
  refine br_t rfl (nm_r (bs_shl1 t ht) (ym_23 hR ht (bs_one t ht).1 ?_))
  rw [cx_f]
  · exact h
  · rintro ⟨s, h1, h2, h3, _⟩
    rw [(bs_one t ht).2 s h1] at h2
    exact h3 (by simpa using h2)
theorem ym_ne {post : Int32 → Prop} {R : Nat → Nat} {su co rg : Nat → Int64} {i t : Nat} (hR : ∀ n, R n ≤ 9) (hi : i < 4) (ht : t < 4) (hne : i ≠ t)
    (h : ∀ m, m < 16 → (∀ j, j < 4 → (m.testBit j = true ↔ rt_R (yr_E R i (2 ^ t)) i j)) → post (cx_b (ym_M (rt_R (xr_E R (-1))) m t))) : wpY_mayMiss post ((fun n => nI (R n)), su, co, rg) (nI i) (nI t) := by
  refine br_f (fun z => hne ((nI_eq (by omega) (by omega)).mp z)) ?_
  rw [bs_shl1 t ht]
  exact yr_reached hR hi (bs_one t ht).1 (fun m hm hb => ym_23 hR ht hm (h m hm hb))
theorem yt_eq {post : SY → Prop} {R : Nat → Nat} {su co rg : Nat → Int64} {t : Nat} (hR : ∀ n, R n ≤ 9) (ht : t < 4)
    (h : ∀ co' rg', ys_I (yn_N R (yt_H t 0)) (yt_g t 0) 4 co' rg' → post ((fun n => nI (R n)), su, co', rg')) :
    wpY_times post ((fun n => nI (R n)), su, co, rg) (nI t) (nI t) :=
  br_t rfl (yt_21 (m := 0) hR ht (by decide) h)
theorem yt_ne {post : SY → Prop} {R : Nat → Nat} {su co rg : Nat → Int64} {i t : Nat} (hR : ∀ n, R n ≤ 9) (hi : i < 4) (ht : t < 4) (hne : i ≠ t)
    (h : ∀ m, m < 16 → (∀ j, j < 4 → (m.testBit j = true ↔ rt_R (yr_E R i (2 ^ t)) i j)) → ∀ co' rg', ys_I (yn_N R (yt_H t m)) (yt_g t m) 4 co' rg' → post ((fun n => nI (R n)), su, co', rg')) :
    wpY_times post ((fun n => nI (R n)), su, co, rg) (nI i) (nI t) := by
  refine br_f (fun z => hne ((nI_eq (by omega) (by omega)).mp z)) ?_
  rw [bs_shl1 t ht]
  exact yr_reached hR hi (bs_one t ht).1 (fun m hm hb => yt_21 hR ht hm (h m hm hb))
/-! trees -/
def tr_w (root p : Nat) : Nat → Nat → Nat
  | 0, x => x
  | n + 1, x => if x = root then x else tr_w root p n (dg_d p x)
theorem tr_wr (root p : Nat) : ∀ n, tr_w root p n root = root
  | 0 => rfl
  | n + 1 => if_pos rfl
def tr_V (R : Nat → Nat) (root p : Nat) : Nat → Nat → Nat → Nat
  | 0, _, x => x
  | m + 1, i, x => if i = root then tr_V R root p m (i + 1) x else if tr_w root p 4 i = root then tr_V R root p m (i + 1) (x * R (4 * i + dg_d p i)) else 0
theorem yt_24 {post : Int64 → Prop} {J5 : Int64 → Int32 → Prop} {x3 : Int64} {x5 : Int32} {ra : Nat → Int32} {su co rg : Nat → Int64} {root p : Nat} (hp : p < 256) (hroot : root < 4) :
    ∀ m n x k, m + k = 4 → m < n → x < 4 → wY_tree_52 post J5 (nI root) (nI p) x3 x5 (nI (tr_w root p m x)) ra su co rg → wY_tree_24 post J5 (nI root) (nI p) x3 x5 ra su co rg n (nI x) (nI k) := by
  intro m
  induction m with
  | zero =>
    intro n x k hk hn hx h
    cases n with
    | zero => exact absurd hn (Nat.not_lt_zero _)
    | succ n =>
      have e : k = 4 := by omega
      subst e
      exact br_t bs_le4 h
  | succ m ih =>
    intro n x k hk hn hx h
    cases n with
    | zero => exact absurd hn (Nat.not_lt_zero _)
    | succ n =>
      refine br_f (bs_ge4 (by omega)) (pk_eq x root (fun e => ?_) (fun e => nm_r (dg_e p hp x hx) (nm_r (nI_1 k) (ih n (dg_d p x) (k + 1) (by omega) (by omega) (dg_lt p x) ?_))))
      · unfold tr_w at h; rw [if_pos e] at h; exact h
      · unfold tr_w at h; rw [if_neg e] at h; exact h
theorem yt_tree {post : Int64 → Prop} {R : Nat → Nat} {su co rg : Nat → Int64} {root p : Nat} (hR : ∀ n, R n ≤ 9) (hp : p < 256) (hroot : root < 4) (h : post (lN (tr_V R root p 4 0 1))) :
    wpY_tree post ((fun n => nI (R n)), su, co, rg) (nI root) (nI p) := by
  refine loop_0 (fun n i x => wY_tree_5 post (nI root) (nI p) (fun n => nI (R n)) su co rg n (lN x) (nI i)) (fun i x => tr_V R root p (4 - i) i x = tr_V R root p 4 0 1) 4 1 rfl ?_ ?_
  · intro n x hx
    have e : x = tr_V R root p 4 0 1 := hx
    rw [← e] at h
    exact br_t bs_le4 h
  · intro n i x hi hx ih
    rw [show 4 - i = (3 - i) + 1 by omega] at hx
    unfold tr_V at hx
    refine br_f (bs_ge4 hi) (pk_eq i root (fun e => nm_r (nI_1 i) (ih x ?_)) (fun e => ⟨5, yt_24 hp hroot 4 5 i 0 rfl (by omega) hi ?_⟩))
    · rw [if_pos e] at hx
      rw [show 4 - (i + 1) = 3 - i by omega]; exact hx
    · rw [if_neg e] at hx
      have hw : tr_w root p 4 i < 4 := by
        have : ∀ n x, x < 4 → tr_w root p n x < 4 := by
          intro n
          induction n with
          | zero => intro x hx; exact hx
          | succ n ihn =>
            intro x hx
            unfold tr_w
            split
            · exact hx
            · exact ihn _ (dg_lt p x)
        exact this 4 i hi
      refine pk_eq (tr_w root p 4 i) root (fun e2 => ?_) (fun e2 => ?_)
      · rw [if_pos e2] at hx
        have hd := dg_lt p i
        have hr := hR (4 * i + dg_d p i)
        rw [dg_e p hp i hi, bs_iy, nI_clamp (by omega)]
        refine ⟨vp_in_nI (by omega) (by decide), nm_r (e' := lN (x * R (4 * i + dg_d p i))) ?_ (nm_r (nI_1 i) (ih _ ?_))⟩
        · rw [nI_l (by omega), lN_mul]
        · rw [show 4 - (i + 1) = 3 - i by omega]; exact hx
      · rw [if_neg e2] at hx
        have hx2 : 0 = tr_V R root p 4 0 1 := hx
        rw [← hx2] at h
        exact h
def au_S (R : Nat → Nat) (root : Nat) : Nat → Nat
  | 0 => 0
  | p + 1 => au_S R root p + (if dg_d p root = 0 then tr_V R root p 4 0 1 else 0)
def au_I (R : Nat → Nat) (k : Nat) (su : Nat → Int64) : Prop := ∀ r, r < k → su r = lN (au_S R r 256)
theorem yu_16 {post : SY → Prop} {J2 : Int32 → (Nat → Int32) → (Nat → Int64) → (Nat → Int64) → (Nat → Int64) → Prop} {R : Nat → Nat} {su co rg : Nat → Int64} {root : Nat} (hR : ∀ n, R n ≤ 9) (hroot : root < 4) (h0 : au_I R root su) (h1 : su root = 0)
    (h : ∀ su', au_I R (root + 1) su' → J2 (nI (root + 1)) (fun n => nI (R n)) su' co rg) : ∃ n, wY_addUp_16 post J2 (nI root) n 0 (fun n => nI (R n)) su co rg := by
  refine loop_0 (fun n p s => wY_addUp_16 post J2 (nI root) n (nI p) (fun n => nI (R n)) s co rg) (fun p s => au_I R root s ∧ s root = lN (au_S R root p)) 256 su ⟨h0, h1⟩ ?_ ?_
  · intro n s hs
    refine br_t bs_le256 (nm_r (nI_1 root) (h s ?_))
    intro r hr
    by_cases e : r = root
    · subst e; exact hs.2
    · exact hs.1 r (by omega)
  · intro n p s hp hs ih
    refine br_f (bs_ge256 hp) ?_
    rw [dg_e p hp root hroot, nI_clamp (by omega)]
    have hd := dg_lt p root
    refine pk_eq (dg_d p root) 0 (fun e => ⟨vp_in_nI hroot (by decide), yt_tree hR hp hroot ⟨vp_in_nI hroot (by decide), nm_e (nm_r (nI_1 p) (ih _ ⟨?_, ?_⟩))⟩⟩) (fun e => nm_r (nI_1 p) (ih s ⟨hs.1, ?_⟩))
    · intro r hr; rw [pk_uLn (by omega)]; exact hs.1 r hr
    · rw [pk_uLs, hs.2, lN_add]
      show _ = lN (au_S R root p + _)
      rw [if_pos e]
    · rw [hs.2]
      show _ = lN (au_S R root p + _)
      rw [if_neg e]; rfl
theorem yu_add {post : SY → Prop} {R : Nat → Nat} {su co rg : Nat → Int64} (hR : ∀ n, R n ≤ 9) (h : ∀ su', au_I R 4 su' → post ((fun n => nI (R n)), su', co, rg)) : wpY_addUp post ((fun n => nI (R n)), su, co, rg) := by
  refine loop_0 (fun n k s => wY_addUp_2 post n (nI k) (fun n => nI (R n)) s co rg) (fun k s => au_I R k s) 4 su (fun r h => by omega) ?_ ?_
  · intro n s hs
    exact br_t bs_le4 (h s hs)
  · intro n k s hk hs ih
    refine br_f (bs_ge4 hk) ⟨vp_in_nI hk (by decide), ?_⟩
    rw [nI_clamp (by omega)]
    refine nm_e (yu_16 hR hk (fun r hr => ?_) pk_uLs ih)
    rw [pk_uLn (by omega)]; exact hs r hr
def la_G (w : Nat → Nat) : Nat → Nat
  | 0 => 0
  | k + 1 => Nat.gcd (la_G w k) (w k)
theorem la_lt {w : Nat → Nat} {B : Nat} (hB : 0 < B) (hw : ∀ k, w k < B) : ∀ k, la_G w k < B
  | 0 => hB
  | k + 1 => by
    show Nat.gcd (la_G w k) (w k) < B
    rcases Nat.eq_zero_or_pos (w k) with z | z
    · rw [z, Nat.gcd_zero_right]; exact la_lt hB hw k
    · exact Nat.lt_of_le_of_lt (Nat.gcd_le_right _ z) (hw k)
theorem yl_25 {post : Int32 → SY → Prop} {ra : Nat → Int32} {su co rg : Nat → Int64} {w : Nat → Nat} {i : Nat} (hi : i < 4) (hw : ∀ k, w k < 2 ^ 31) (hs : ∀ r, r < 4 → su r = lN (w r))
    (h : post (if la_G w 4 = 0 then -1 else nI (w i / la_G w 4)) (ra, su, co, rg)) : ∃ n, wY_law_25 post (nI i) ra su co rg n 0 0 := by
  have hG := la_lt (by decide) hw
  refine loop_0 (fun n k x => wY_law_25 post (nI i) ra su co rg n (lN x) (nI k)) (fun k x => x = la_G w k) 4 0 rfl ?_ ?_
  · intro n x hx
    subst hx
    have := hG 4
    have := hw i
    refine br_t bs_le4 ?_
    by_cases e : la_G w 4 = 0
    · rw [if_pos e] at h
      rw [e]
      exact br_t rfl h
    · rw [if_neg e] at h
      have hne : ¬ lN (la_G w 4) = 0 := fun z => e ((pk_lEQ (b := 0) (by omega) (by decide)).mp z)
      refine br_f hne ⟨vp_in_nI hi (by decide), hne, ?_⟩
      rw [nI_clamp (by omega), hs i hi, pk_lDiv (by omega) (by omega) (by omega), lN_i]
      exact h
  · intro n k x hk hx ih
    subst hx
    have := hG k
    have := hw k
    refine br_f (bs_ge4 hk) ⟨vp_in_nI hk (by decide), ?_⟩
    rw [nI_clamp (by omega), hs k hk]
    exact yg_gcd (by omega) (by omega) (nm_r (nI_1 k) (ih _ rfl))
