/-! ===== reachability, and how X finds it ===== -/
def rt_R (E : Nat → Nat → Prop) (i j : Nat) : Prop := ∀ S : Nat → Prop, S i → (∀ a b, a < 4 → b < 4 → S a → E a b → S b) → S j
theorem rt_refl {E : Nat → Nat → Prop} (i : Nat) : rt_R E i i := fun _ h _ => h
theorem rt_edge {E : Nat → Nat → Prop} {i a b : Nat} (ha : a < 4) (hb : b < 4) (h : rt_R E i a) (e : E a b) : rt_R E i b :=
  fun S hi hc => hc a b ha hb (h S hi hc) e
theorem rt_trans {E : Nat → Nat → Prop} {i j k : Nat} (h : rt_R E i j) (g : rt_R E j k) : rt_R E i k :=
  fun S hi hc => g S (h S hi hc) hc
theorem rt_congr {E F : Nat → Nat → Prop} (h : ∀ a b, a < 4 → b < 4 → (E a b ↔ F a b)) (i j : Nat) : rt_R E i j ↔ rt_R F i j :=
  ⟨fun r S hi hc => r S hi (fun a b ha hb s e => hc a b ha hb s ((h a b ha hb).mp e)),
   fun r S hi hc => r S hi (fun a b ha hb s e => hc a b ha hb s ((h a b ha hb).mpr e))⟩
/-- Warshall's steps -/
def wa_P (E : Nat → Nat → Prop) : Nat → Nat → Nat → Prop
  | 0 => fun i j => i = j ∨ E i j
  | v + 1 => fun i j => wa_P E v i j ∨ (wa_P E v i v ∧ wa_P E v v j)
theorem wa_mono {E : Nat → Nat → Prop} {i j : Nat} : ∀ v, wa_P E 0 i j → wa_P E v i j
  | 0, h => h
  | v + 1, h => .inl (wa_mono v h)
theorem wa_trans {E : Nat → Nat → Prop} : ∀ v i m j, m < v → wa_P E v i m → wa_P E v m j → wa_P E v i j
  | 0, _, _, _, h, _, _ => absurd h (Nat.not_lt_zero _)
  | v + 1, i, m, j, h, p, q => by
    have ih := wa_trans (E := E) v
    by_cases e : m = v
    · subst e
      have p' : wa_P E m i m := by rcases p with p | p; exact p; exact p.1
      have q' : wa_P E m m j := by rcases q with q | q; exact q; exact q.2
      exact .inr ⟨p', q'⟩
    · have hm : m < v := by omega
      rcases p with p | p <;> rcases q with q | q
      · exact .inl (ih i m j hm p q)
      · exact .inr ⟨ih i m v hm p q.1, q.2⟩
      · exact .inr ⟨p.1, ih v m j hm p.2 q⟩
      · exact .inr ⟨p.1, q.2⟩
theorem wa_sound {E : Nat → Nat → Prop} : ∀ v i j, v ≤ 4 → i < 4 → j < 4 → wa_P E v i j → rt_R E i j
  | 0, i, j, _, hi, hj, h => by
    rcases h with h | h
    · exact h ▸ rt_refl i
    · exact rt_edge hi hj (rt_refl i) h
  | v + 1, i, j, hv, hi, hj, h => by
    rcases h with h | h
    · exact wa_sound v i j (by omega) hi hj h
    · exact rt_trans (wa_sound v i v (by omega) hi (by omega) h.1) (wa_sound v v j (by omega) (by omega) hj h.2)
theorem wa_iff {E : Nat → Nat → Prop} {i j : Nat} (hi : i < 4) (hj : j < 4) : wa_P E 4 i j ↔ rt_R E i j := by
  refine ⟨wa_sound 4 i j (Nat.le_refl 4) hi hj, fun h => ?_⟩
  refine h (fun k => wa_P E 4 i k) (wa_mono 4 (.inl rfl)) ?_
  intro a b ha hb hs e
  exact wa_trans 4 i a b ha hs (wa_mono 4 (.inr e))
theorem wa_colv {E : Nat → Nat → Prop} {v i : Nat} : wa_P E (v + 1) i v ↔ wa_P E v i v :=
  ⟨fun h => by rcases h with h | h; exact h; exact h.1, .inl⟩
theorem wa_rowv {E : Nat → Nat → Prop} {v j : Nat} : wa_P E (v + 1) v j ↔ wa_P E v v j :=
  ⟨fun h => by rcases h with h | h; exact h; exact h.2, .inl⟩
/-- what the array 'reached' says -/
def cx_Re (P : Nat → Nat → Prop) (re : Nat → Int32) : Prop := ∀ a b, a < 4 → b < 4 → re (4 * a + b) = cx_b (P a b)
theorem cx_can {post : Int32 → Prop} {fu fl : Int32} {ra re ma ri : Nat → Int32} {p : Prop} {a b : Nat} (ha : a < 4) (hb : b < 4)
    (hre : re (4 * a + b) = cx_b p) (h : post (cx_b p)) : wpX_canReach post (fu, fl, ra, re, ma, ri) (nI a) (nI b) := by
  unfold wpX_canReach
  dsimp only
  rw [bs_ix, nI_clamp (by omega), hre]
  exact ⟨vp_in_nI (by omega) (by decide), cx_nar p, h⟩
def xr_E (R : Nat → Nat) (stop : Int32) (a b : Nat) : Prop := ¬ nI a = stop ∧ 0 < R (4 * a + b)
def xr_I (E : Nat → Nat → Prop) (k : Nat) (re : Nat → Int32) : Prop := ∀ n, n < k → re n = cx_b (wa_P E 0 (n / 4) (n % 4))
theorem xr_Is {E : Nat → Nat → Prop} {re : Nat → Int32} {a b : Nat} {x : Int32} (hb : b < 4) (h : xr_I E (4 * a + b) re) (hx : x = cx_b (wa_P E 0 a b)) :
    xr_I E (4 * a + (b + 1)) (upd re (4 * a + b) x) := by
  intro n hn
  by_cases e : n = 4 * a + b
  · subst e
    rw [pk_us, hx, show (4 * a + b) / 4 = a by omega, show (4 * a + b) % 4 = b by omega]
  · rw [pk_un e]; exact h n (by omega)
theorem xr_9 {post : SX → Prop} {J2 : Int32 → (Nat → Int32) → (Nat → Int32) → (Nat → Int32) → (Nat → Int32) → Prop} {x1 fu fl : Int32} {R : Nat → Nat} {re ma ri : Nat → Int32} {a : Nat}
    (ha : a < 4) (hR : ∀ n, R n ≤ 9) (h0 : xr_I (xr_E R x1) (4 * a) re)
    (h : ∀ re', xr_I (xr_E R x1) (4 * (a + 1)) re' → J2 (nI (a + 1)) (fun n => nI (R n)) re' ma ri) :
    ∃ n, wX_findReached_9 post J2 x1 (nI a) fu fl n 0 (fun n => nI (R n)) re ma ri := by
  refine loop_0 (fun n i s => wX_findReached_9 post J2 x1 (nI a) fu fl n (nI i) (fun n => nI (R n)) s ma ri) (fun i s => xr_I (xr_E R x1) (4 * a + i) s) 4 re h0 ?_ ?_
  · intro n s hs
    exact br_t bs_le4 (nm_r (nI_1 a) (h s hs))
  · intro n i s hi hs ih
    have hin : vp_in (nI (4 * a + i)) 16 := vp_in_nI (by omega) (by decide)
    have hcl : (nI (4 * a + i)).toNatClampNeg = 4 * a + i := nI_clamp (by omega)
    have hw : ∀ x : Int32, x = cx_b (wa_P (xr_E R x1) 0 a i) → ∀ y, y = upd s (nI (4 * a + i)).toNatClampNeg x → ∀ z : Int32, z = nI i + 1 → wX_findReached_9 post J2 x1 (nI a) fu fl n z (fun n => nI (R n)) y ma ri := by
      intro x hx y ey z ez
      rw [ey, ez, hcl, nI_1]
      exact ih _ (xr_Is hi hs hx)
    refine br_f (bs_ge4 hi) (nm_r (bs_ix a i) (pk_eq a i (fun e => ⟨hin, hw _ ?_⟩) (fun e => br_c (fun es => ⟨hin, hw _ ?_⟩) (fun es => ⟨hin, br_c (fun er => ⟨hin, hw _ ?_⟩) (fun er => ⟨hin, hw _ ?_⟩)⟩))))
    · rw [bs_nar1, cx_t]; exact .inl e
    · rw [bs_nar0, cx_f]; rintro (h | h); exact e h; exact h.1 es
    · rw [bs_nar0, cx_f]; rintro (h | h); exact e h
      have hr : nI (R (4 * a + i)) ≤ 0 := hcl ▸ er
      exact nI_nle h.2 (by have := hR (4 * a + i); omega) hr
    · rw [bs_nar1, cx_t]
      refine .inr ⟨es, ?_⟩
      have hr : ¬ nI (R (4 * a + i)) ≤ 0 := hcl ▸ er
      rcases Nat.eq_zero_or_pos (R (4 * a + i)) with z | z
      · rw [z] at hr; exact absurd (by decide) hr
      · exact z
def xr_W (E : Nat → Nat → Prop) (v k : Nat) (re : Nat → Int32) : Prop := ∀ a b, a < 4 → b < 4 → re (4 * a + b) = cx_b (if 4 * a + b < k then wa_P E (v + 1) a b else wa_P E v a b)
theorem xr_Wcol {E : Nat → Nat → Prop} {v k a : Nat} {re : Nat → Int32} (h : xr_W E v k re) (ha : a < 4) (hv : v < 4) : re (4 * a + v) = cx_b (wa_P E v a v) := by
  rw [h a v ha hv]
  split
  · exact cx_c wa_colv
  · rfl
theorem xr_Wrow {E : Nat → Nat → Prop} {v k b : Nat} {re : Nat → Int32} (h : xr_W E v k re) (hb : b < 4) (hv : v < 4) : re (4 * v + b) = cx_b (wa_P E v v b) := by
  rw [h v b hv hb]
  split
  · exact cx_c wa_rowv
  · rfl
theorem xr_Ws1 {E : Nat → Nat → Prop} {v a b : Nat} {re : Nat → Int32} (h : xr_W E v (4 * a + b) re) (hn : ¬ (wa_P E v a v ∧ wa_P E v v b)) (hb : b < 4) : xr_W E v (4 * a + (b + 1)) re := by
  intro c d hc hd
  rw [h c d hc hd]
  by_cases e : 4 * c + d = 4 * a + b
  · have e1 : c = a := by omega
    have e2 : d = b := by omega
    subst e1 e2
    rw [if_neg (by omega), if_pos (by omega)]
    exact cx_c ⟨.inl, fun h => by rcases h with h | h; exact h; exact absurd h hn⟩
  · by_cases l : 4 * c + d < 4 * a + b
    · rw [if_pos l, if_pos (by omega)]
    · rw [if_neg l, if_neg (by omega)]
theorem xr_Ws2 {E : Nat → Nat → Prop} {v a b : Nat} {re : Nat → Int32} (h : xr_W E v (4 * a + b) re) (hp : wa_P E v a v ∧ wa_P E v v b) (hb : b < 4) : xr_W E v (4 * a + (b + 1)) (upd re (4 * a + b) 1) := by
  intro c d hc hd
  by_cases e : 4 * c + d = 4 * a + b
  · have e1 : c = a := by omega
    have e2 : d = b := by omega
    subst e1 e2
    rw [pk_us, if_pos (by omega), cx_t]; exact .inr hp
  · rw [pk_un e, h c d hc hd]
    by_cases l : 4 * c + d < 4 * a + b
    · rw [if_pos l, if_pos (by omega)]
    · rw [if_neg l, if_neg (by omega)]
theorem xr_82 {post : SX → Prop} {J67 J74 : Int32 → (Nat → Int32) → (Nat → Int32) → (Nat → Int32) → (Nat → Int32) → Prop} {fu fl : Int32} {E : Nat → Nat → Prop} {ra re ma ri : Nat → Int32} {v a : Nat}
    (hv : v < 4) (ha : a < 4) (h0 : xr_W E v (4 * a) re)
    (h : ∀ re', xr_W E v (4 * (a + 1)) re' → J74 (nI (a + 1)) ra re' ma ri) :
    ∃ n, wX_findReached_82 post J67 J74 (nI v) (nI a) fu fl n 0 ra re ma ri := by
  refine loop_0 (fun n i s => wX_findReached_82 post J67 J74 (nI v) (nI a) fu fl n (nI i) ra s ma ri) (fun i s => xr_W E v (4 * a + i) s) 4 re h0 ?_ ?_
  · intro n s hs
    exact br_t bs_le4 (nm_r (nI_1 a) (h s hs))
  · intro n i s hi hs ih
    have hin : vp_in (nI (4 * a + i)) 16 := vp_in_nI (by omega) (by decide)
    have hcl : (nI (4 * a + i)).toNatClampNeg = 4 * a + i := nI_clamp (by omega)
    refine br_f (bs_ge4 hi) (cx_can ha hv (xr_Wcol hs ha hv) (cx_br0 (fun hn => nm_r (nI_1 i) (ih s (xr_Ws1 hs (fun z => hn z.1) hi))) (fun hp => cx_can hv hi (xr_Wrow hs hi hv) (cx_br0 (fun hn => nm_r (nI_1 i) (ih s (xr_Ws1 hs (fun z => hn z.2) hi))) (fun hq => ?_)))))
    rw [bs_ix, hcl, bs_nar1]
    exact ⟨hin, nm_e (nm_r (nI_1 i) (ih _ (xr_Ws2 hs ⟨hp, hq⟩ hi)))⟩
theorem xr_W0 {E : Nat → Nat → Prop} {v : Nat} {re : Nat → Int32} (h : cx_Re (wa_P E v) re) : xr_W E v 0 re := by
  intro a b ha hb
  rw [if_neg (by omega)]; exact h a b ha hb
theorem xr_W16 {E : Nat → Nat → Prop} {v : Nat} {re : Nat → Int32} (h : xr_W E v 16 re) : cx_Re (wa_P E (v + 1)) re := by
  intro a b ha hb
  rw [h a b ha hb, if_pos (by omega)]
theorem xr_74 {post : SX → Prop} {J67 : Int32 → (Nat → Int32) → (Nat → Int32) → (Nat → Int32) → (Nat → Int32) → Prop} {fu fl : Int32} {E : Nat → Nat → Prop} {ra re ma ri : Nat → Int32} {v : Nat}
    (hv : v < 4) (h0 : cx_Re (wa_P E v) re)
    (h : ∀ re', cx_Re (wa_P E (v + 1)) re' → J67 (nI (v + 1)) ra re' ma ri) :
    ∃ n, wX_findReached_74 post J67 (nI v) fu fl n 0 ra re ma ri := by
  refine loop_0 (fun n i s => wX_findReached_74 post J67 (nI v) fu fl n (nI i) ra s ma ri) (fun i s => xr_W E v (4 * i) s) 4 re (xr_W0 h0) ?_ ?_
  · intro n s hs
    exact br_t bs_le4 (nm_r (nI_1 v) (h s (xr_W16 hs)))
  · intro n i s hi hs ih
    exact br_f (bs_ge4 hi) (xr_82 hv hi hs ih)
theorem xr_67 {post : SX → Prop} {fu fl : Int32} {E : Nat → Nat → Prop} {ra re ma ri : Nat → Int32}
    (h0 : cx_Re (wa_P E 0) re)
    (h : ∀ re', cx_Re (rt_R E) re' → post (fu, fl, ra, re', ma, ri)) :
    ∃ n, wX_findReached_67 post fu fl n 0 ra re ma ri := by
  refine loop_0 (fun n i s => wX_findReached_67 post fu fl n (nI i) ra s ma ri) (fun i s => cx_Re (wa_P E i) s) 4 re h0 ?_ ?_
  · intro n s hs
    exact br_t bs_le4 (h s (fun a b ha hb => (hs a b ha hb).trans (cx_c (wa_iff ha hb))))
  · intro n i s hi hs ih
    exact br_f (bs_ge4 hi) (xr_74 hi hs ih)
theorem xr_find {post : SX → Prop} {fu fl stop : Int32} {R : Nat → Nat} {re ma ri : Nat → Int32} (hR : ∀ n, R n ≤ 9)
    (h : ∀ re', cx_Re (rt_R (xr_E R stop)) re' → post (fu, fl, fun n => nI (R n), re', ma, ri)) :
    wpX_findReached post (fu, fl, fun n => nI (R n), re, ma, ri) stop := by
  refine loop_0 (fun n i s => wX_findReached_2 post stop fu fl n (nI i) (fun n => nI (R n)) s ma ri) (fun i s => xr_I (xr_E R stop) (4 * i) s) 4 re (fun n hn => by omega) ?_ ?_
  · intro n s hs
    refine br_t bs_le4 (xr_67 ?_ h)
    intro a b ha hb
    rw [hs (4 * a + b) (by omega), show (4 * a + b) / 4 = a by omega, show (4 * a + b) % 4 = b by omega]
  · intro n i s hi hs ih
    exact br_f (bs_ge4 hi) (xr_9 hi hR hs ih)
/-! closed, one law -/
def cl_C (P : Nat → Nat → Prop) (i : Nat) : Prop := ∀ j, j < 4 → P i j → P j i
def cl_U (P : Nat → Nat → Prop) : Prop := ∀ i, i < 4 → ∀ j, j < 4 → cl_C P i → cl_C P j → P i j
theorem cx_isC {post : Int32 → Prop} {fu fl : Int32} {ra re ma ri : Nat → Int32} {P : Nat → Nat → Prop} (hre : cx_Re P re) {i : Nat} (hi : i < 4)
    (h : post (cx_b (cl_C P i))) : wpX_isClosed post (fu, fl, ra, re, ma, ri) (nI i) := by
  refine loop_0 (σ := Unit) (fun n j _ => wX_isClosed_2 post (nI i) fu fl ra re ma ri n (nI j)) (fun j _ => ∀ k, k < j → P i k → P k i) 4 () (fun k hk => by omega) ?_ ?_
  · intro n _ hI
    rw [cx_t (show cl_C P i from hI)] at h
    exact br_t bs_le4 h
  · intro n j _ hj hI ih
    refine br_f (bs_ge4 hj) (cx_can hi hj (hre i j hi hj) (cx_br0 (fun hn => nm_r (nI_1 j) (ih () (lt_s hI (fun z => absurd z hn)))) (fun hp => cx_can hj hi (hre j i hj hi) (cx_br0 (fun hn => ?_) (fun hq => nm_r (nI_1 j) (ih () (lt_s hI (fun _ => hq))))))))
    rw [cx_f (fun hC : cl_C P i => hn (hC j hj hp))] at h
    exact h
theorem cx_one {post : Int32 → SX → Prop} {fu fl : Int32} {R : Nat → Nat} {re ma ri : Nat → Int32} (hR : ∀ n, R n ≤ 9)
    (h : ∀ re', post (cx_b (cl_U (rt_R (xr_E R (-1))))) (fu, fl, fun n => nI (R n), re', ma, ri)) :
    wpX_hasOneLaw post (fu, fl, fun n => nI (R n), re, ma, ri) := by
  unfold wpX_hasOneLaw
  dsimp only
  refine xr_find hR (fun re' hre => ?_)
  dsimp only
  refine loop_0 (σ := Unit) (fun n i _ => wX_hasOneLaw_7 post fu fl (fun n => nI (R n)) re' ma ri n (nI i)) (fun i _ => ∀ k, k < i → ∀ j, j < 4 → cl_C (rt_R (xr_E R (-1))) k → cl_C (rt_R (xr_E R (-1))) j → rt_R (xr_E R (-1)) k j) 4 () (fun k hk => by omega) ?_ ?_
  · intro n _ hI
    have h' := h re'
    rw [cx_t (show cl_U _ from hI)] at h'
    exact br_t bs_le4 h'
  · intro n i _ hi hI ih
    refine br_f (bs_ge4 hi) ?_
    refine loop_0 (σ := Unit) (fun m j _ => wX_hasOneLaw_14 post (wX_hasOneLaw_7 post fu fl (fun n => nI (R n)) re' ma ri n) (nI i) fu fl (fun n => nI (R n)) re' ma ri m (nI j)) (fun j _ => ∀ k, k < j → cl_C (rt_R (xr_E R (-1))) i → cl_C (rt_R (xr_E R (-1))) k → rt_R (xr_E R (-1)) i k) 4 () (fun k hk => by omega) ?_ ?_
    · intro m _ hJ
      exact br_t bs_le4 (nm_r (nI_1 i) (ih () (lt_s hI hJ)))
    · intro m j _ hj hJ ih2
      refine br_f (bs_ge4 hj) (cx_isC hre hi (cx_br0 (fun hn => nm_r (nI_1 j) (ih2 () (lt_s hJ (fun z => absurd z hn)))) (fun hp => cx_isC hre hj (cx_br0 (fun hn => nm_r (nI_1 j) (ih2 () (lt_s hJ (fun _ z => absurd z hn)))) (fun hq => cx_can hi hj (hre i j hi hj) (cx_br0 (fun hn => ?_) (fun hs => nm_r (nI_1 j) (ih2 () (lt_s hJ (fun _ _ => hs))))))))))
      have h' := h re'
      rw [cx_f (fun hU : cl_U _ => hn (hU i hi j hj hp hq))] at h'
      exact h'
