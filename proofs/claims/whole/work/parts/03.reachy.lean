/-! ===== how Y finds what is reached ===== -/
def bz_c (m : Nat) : Nat := m % 2 + m / 2 % 2 + m / 4 % 2 + m / 8 % 2
def bz_Cl (E : Nat → Nat → Prop) (m : Nat) : Prop := ∀ i, i < 4 → ∀ j, j < 4 → m.testBit i = true → E i j → m.testBit j = true
def bz_k (m m' j : Nat) : Bool := (m.testBit 0 && !m'.testBit 0) || (m.testBit 1 && !m'.testBit 1) || (m.testBit 2 && !m'.testBit 2) || (m.testBit 3 && !m'.testBit 3) || m.testBit j || !m'.testBit j || Nat.ble (bz_c m + 1) (bz_c m')
theorem bz_kT : ∀ m, m < 16 → ∀ m', m' < 16 → ∀ j, j < 4 → bz_k m m' j = true := by decide +kernel
theorem bz_kb {a b : Bool} (h : a = true → b = true) : (a && !b) = false := by
  cases a
  · rfl
  · rw [h rfl]; rfl
theorem bz_grow : ∀ m, m < 16 → ∀ m', m' < 16 → (∀ j, j < 4 → m.testBit j = true → m'.testBit j = true) → (∃ j, j < 4 ∧ ¬ m.testBit j = true ∧ m'.testBit j = true) → bz_c m + 1 ≤ bz_c m' := by
  intro m hm m' hm' h1 ⟨j, hj, h2, h3⟩
  have h := bz_kT m hm m' hm' j hj
  unfold bz_k at h
  rw [bz_kb (h1 0 (by decide)), bz_kb (h1 1 (by decide)), bz_kb (h1 2 (by decide)), bz_kb (h1 3 (by decide)), h3, Bool.eq_false_iff.mpr h2] at h
  exact Nat.le_of_ble_eq_true h
theorem bz_c4 : ∀ m, m < 16 → bz_c m ≤ 4 := by decide +kernel
def bz_I (E : Nat → Nat → Prop) (f k m : Nat) : Prop := m < 16 ∧ m.testBit f = true ∧ (∀ j, j < 4 → m.testBit j = true → rt_R E f j) ∧
  ∃ m0, m0 < 16 ∧ (∀ j, j < 4 → m0.testBit j = true → m.testBit j = true) ∧ (bz_Cl E m0 → m = m0) ∧ (bz_Cl E m0 ∨ k / 16 + 1 ≤ bz_c m0) ∧
    (∀ i, i < 4 → ∀ j, j < 4 → 4 * i + j < k % 16 → m0.testBit i = true → E i j → m.testBit j = true)
theorem bz_I0 {E : Nat → Nat → Prop} {f : Nat} (hf : f < 4) : bz_I E f 0 (2 ^ f) := by
  have h := bs_one f hf
  have hb : (2 ^ f).testBit f = true := by rw [h.2 f hf]; simp
  refine ⟨h.1, hb, ?_, 2 ^ f, h.1, fun _ _ z => z, fun _ => rfl, .inr ?_, ?_⟩
  · intro j hj hb
    rw [h.2 j hj] at hb
    have e : j = f := by simpa using hb
    exact e ▸ rt_refl j
  · exact (by decide +kernel : ∀ f, f < 4 → 0 / 16 + 1 ≤ bz_c (2 ^ f)) f hf
  · intro i _ j _ h; omega
/-- one edge looked at: m' is what is reached behind it -/
theorem bz_step {E : Nat → Nat → Prop} {f k m m' i j : Nat} (hk : k < 64) (hi : i < 4) (hj : j < 4) (ei : k % 16 = 4 * i + j) (h : bz_I E f k m)
    (hm' : m' < 16) (hsub : ∀ j, j < 4 → m.testBit j = true → m'.testBit j = true) (hf : f < 4) (hs : ∀ j, j < 4 → m'.testBit j = true → rt_R E f j)
    (hcl : bz_Cl E m → m' = m) (he : m.testBit i = true → E i j → m'.testBit j = true) : bz_I E f (k + 1) m' := by
  obtain ⟨h1, h2, h3, m0, g1, g2, g3, g4, g5⟩ := h
  have G5 : ∀ a, a < 4 → ∀ b, b < 4 → 4 * a + b < k % 16 + 1 → m0.testBit a = true → E a b → m'.testBit b = true := by
    intro a ha b hb hl hm e
    by_cases q : 4 * a + b < k % 16
    · exact hsub b hb (g5 a ha b hb q hm e)
    · have e1 : a = i := by omega
      have e2 : b = j := by omega
      subst e1 e2
      exact he (g2 a ha hm) e
  have G2 : ∀ j, j < 4 → m0.testBit j = true → m'.testBit j = true := fun j hj z => hsub j hj (g2 j hj z)
  have G3 : bz_Cl E m0 → m' = m0 := fun z => by
    have e := g3 z
    subst e
    exact hcl z
  refine ⟨hm', hsub f hf h2, hs, ?_⟩
  by_cases q : k % 16 = 15
  · refine ⟨m', hm', fun _ _ z => z, fun _ => rfl, ?_, fun a ha b hb hl => by omega⟩
    by_cases z : bz_Cl E m0
    · exact .inl (by rw [G3 z]; exact z)
    · refine .inr ?_
      have hc := g4.resolve_left z
      have hx : ∃ b, b < 4 ∧ ¬ m0.testBit b = true ∧ m'.testBit b = true := by
        apply Classical.byContradiction
        intro hno
        apply z
        intro a ha b hb hma e
        apply Classical.byContradiction
        intro hmb
        exact hno ⟨b, hb, hmb, G5 a ha b hb (by omega) hma e⟩
      have := bz_grow m0 g1 m' hm' G2 hx
      omega
  · refine ⟨m0, g1, G2, G3, ?_, ?_⟩
    · rw [show (k + 1) / 16 = k / 16 by omega]; exact g4
    · rw [show (k + 1) % 16 = k % 16 + 1 by omega]; exact G5
theorem bz_no {E : Nat → Nat → Prop} {f k m i j : Nat} (hk : k < 64) (hi : i < 4) (hj : j < 4) (ei : k % 16 = 4 * i + j) (hf : f < 4) (h : bz_I E f k m)
    (hn : ¬ (m.testBit i = true ∧ E i j)) : bz_I E f (k + 1) m :=
  bz_step hk hi hj ei h h.1 (fun _ _ z => z) hf h.2.2.1 (fun _ => rfl) (fun a b => absurd ⟨a, b⟩ hn)
theorem bz_yes {E : Nat → Nat → Prop} {f k m i j : Nat} (hk : k < 64) (hi : i < 4) (hj : j < 4) (ei : k % 16 = 4 * i + j) (hf : f < 4) (h : bz_I E f k m)
    (hy : m.testBit i = true ∧ E i j) : bz_I E f (k + 1) (m ||| 2 ^ j) := by
  have hm := h.1
  refine bz_step hk hi hj ei h (bs_or16 m hm j hj) ?_ hf ?_ ?_ ?_
  · intro b hb z; rw [bs_orb m hm j hj b hb, z]; rfl
  · intro b hb z
    rw [bs_orb m hm j hj b hb] at z
    by_cases q : m.testBit b = true
    · exact h.2.2.1 b hb q
    · have e : b = j := by simpa [q] using z
      subst e
      exact rt_edge hi hj (h.2.2.1 i hi hy.1) hy.2
  · intro z; exact bs_orI m hm j hj (z i hi j hj hy.1 hy.2)
  · intro _ _; rw [bs_orb m hm j hj j hj]; simp
theorem bz_end {E : Nat → Nat → Prop} {f m : Nat} (hf : f < 4) (h : bz_I E f 64 m) : m < 16 ∧ ∀ j, j < 4 → (m.testBit j = true ↔ rt_R E f j) := by
  obtain ⟨h1, h2, h3, m0, g1, g2, g3, g4, g5⟩ := h
  have c := bz_c4 m0 g1
  have hc : bz_Cl E m0 := g4.resolve_right (by omega)
  have e := g3 hc
  subst e
  refine ⟨h1, fun j hj => ⟨h3 j hj, fun r => ?_⟩⟩
  have := r (fun j => j < 4 → m.testBit j = true) (fun _ => h2) (fun a b ha hb s e _ => hc a ha b hb (s ha) e)
  exact this hj
def yr_E (R : Nat → Nat) (f e : Nat) (a b : Nat) : Prop := (a = f ∨ ¬ e.testBit a = true) ∧ 0 < R (4 * a + b)
theorem yr_58n {post : Int32 → Prop} {J7 : Int32 → Int32 → Prop} {x1 x2 x3 x5 x6 : Int32} {k : Nat} {ra : Nat → Int32} {su co rg : Nat → Int64}
    (h : J7 x3 (nI (k + 1))) : wY_reached_57 post J7 x1 x2 x3 (nI k) x5 x6 ra su co rg :=
  br_t rfl (nm_r (nI_1 k) h)
theorem yr_58y {post : Int32 → Prop} {J7 : Int32 → Int32 → Prop} {x1 x2 : Int32} {m k i j : Nat} {R : Nat → Nat} {su co rg : Nat → Int64}
    (hR : ∀ n, R n ≤ 9) (hm : m < 16) (hi : i < 4) (hj : j < 4) (hn : ¬ 0 < R (4 * i + j) → J7 (nI m) (nI (k + 1))) (hy : 0 < R (4 * i + j) → J7 (nI (m ||| 2 ^ j)) (nI (k + 1))) :
    wY_reached_53 post J7 x1 x2 (nI m) (nI k) (nI i) (nI j) (fun n => nI (R n)) su co rg := by
  refine br_f (by decide) ?_
  have hcl : (nI (4 * i + j)).toNatClampNeg = 4 * i + j := nI_clamp (by omega)
  rw [bs_iy, hcl]
  refine ⟨vp_in_nI (by omega) (by decide), ?_⟩
  by_cases z : 0 < R (4 * i + j)
  · exact br_f (nI_nle z (by have := hR (4 * i + j); omega)) (nm_r (bs_or m hm j hj) (nm_r (nI_1 k) (hy z)))
  · have e : R (4 * i + j) = 0 := by omega
    refine br_t (by dsimp only; rw [e]; decide) (nm_r (nI_1 k) (hn z))
theorem yr_div (k : Nat) (h : k < 64) : (nI k / 4) - (nI k / 4) / 4 * 4 = nI (k / 4 % 4) := by
  have e : nI k / 4 = nI (k / 4) := pk_div (d := 4) (by omega) (by decide) (by decide)
  rw [e]
  exact pk_rem (d := 4) (by omega) (by decide) (by decide)
theorem yr_reached {post : Int32 → Prop} {R : Nat → Nat} {su co rg : Nat → Int64} {f e : Nat} (hR : ∀ n, R n ≤ 9) (hf : f < 4) (he : e < 16)
    (h : ∀ m, m < 16 → (∀ j, j < 4 → (m.testBit j = true ↔ rt_R (yr_E R f e) f j)) → post (nI m)) :
    wpY_reached post ((fun n => nI (R n)), su, co, rg) (nI f) (nI e) := by
  refine nm_r (bs_shl1 f hf) ?_
  refine loop_0 (fun n k m => wY_reached_7 post (nI f) (nI e) (fun n => nI (R n)) su co rg n (nI m) (nI k)) (fun k m => bz_I (yr_E R f e) f k m) 64 (2 ^ f) (bz_I0 hf) ?_ ?_
  · intro n m hm
    have z := bz_end hf hm
    exact br_t bs_le64 (h m z.1 z.2)
  · intro n k m hk hm ih
    refine br_f (bs_ge64 hk) ⟨by decide, by decide, nm_r (yr_div k hk) ⟨by decide, nm_r (pk_rem (d := 4) (by omega) (by decide) (by decide)) ?_⟩⟩
    have hi : k / 4 % 4 < 4 := by omega
    have hj : k % 4 < 4 := by omega
    have ei : k % 16 = 4 * (k / 4 % 4) + k % 4 := by omega
    have NO := fun z => ih m (bz_no hk hi hj ei hf hm z)
    have YES : ∀ g : k / 4 % 4 = f ∨ ¬ e.testBit (k / 4 % 4) = true, m.testBit (k / 4 % 4) = true → wY_reached_53 post (wY_reached_7 post (nI f) (nI e) (fun n => nI (R n)) su co rg n) (nI f) (nI e) (nI m) (nI k) (nI (k / 4 % 4)) (nI (k % 4)) (fun n => nI (R n)) su co rg :=
      fun g hb => yr_58y hR hm.1 hi hj (fun z => NO (fun w => z w.2.2)) (fun z => ih _ (bz_yes hk hi hj ei hf hm ⟨hb, g, z⟩))
    refine bs_br1 hm.1 hi (fun hb => pk_eq (k / 4 % 4) f (fun q => YES (.inl q) hb) (fun q => bs_br0 he hi (fun w => YES (.inr w) hb) (fun w => yr_58n (NO (fun y => y.2.1.elim q (fun v => v w)))))) (fun hb => yr_58n (NO (fun y => hb y.1)))
/-! closed, unique -/
theorem yr_E0 {R : Nat → Nat} {f : Nat} (i j : Nat) : rt_R (yr_E R f 0) i j ↔ rt_R (xr_E R (-1)) i j := by
  apply rt_congr
  intro a b ha _
  have h1 : ¬ nI a = -1 := by
    rcases (by omega : a = 0 ∨ a = 1 ∨ a = 2 ∨ a = 3) with h | h | h | h <;> subst h <;> decide
  exact ⟨fun h => ⟨h1, h.2⟩, fun h => ⟨.inr (by simp), h.2⟩⟩
theorem yr_full {post : Int32 → Prop} {R : Nat → Nat} {su co rg : Nat → Int64} {f : Nat} (hR : ∀ n, R n ≤ 9) (hf : f < 4)
    (h : ∀ m, m < 16 → (∀ j, j < 4 → (m.testBit j = true ↔ rt_R (xr_E R (-1)) f j)) → post (nI m)) :
    wpY_reached post ((fun n => nI (R n)), su, co, rg) (nI f) 0 :=
  yr_reached (e := 0) hR hf (by decide) (fun m hm z => h m hm (fun j hj => (z j hj).trans (yr_E0 f j)))
theorem cy_isC {post : Int32 → Prop} {R : Nat → Nat} {su co rg : Nat → Int64} (hR : ∀ n, R n ≤ 9) {i : Nat} (hi : i < 4)
    (h : post (cx_b (cl_C (rt_R (xr_E R (-1))) i))) : wpY_isClosed post ((fun n => nI (R n)), su, co, rg) (nI i) := by
  refine yr_full hR hi (fun m hm hmb => ?_)
  refine loop_0 (σ := Unit) (fun n j _ => wY_isClosed_9 post (nI i) (nI m) (fun n => nI (R n)) su co rg n (nI j)) (fun j _ => ∀ k, k < j → rt_R (xr_E R (-1)) i k → rt_R (xr_E R (-1)) k i) 4 () (fun k hk => by omega) ?_ ?_
  · intro n _ hI
    rw [cx_t (show cl_C _ i from hI)] at h
    exact br_t bs_le4 h
  · intro n j _ hj hI ih
    refine br_f (bs_ge4 hj) (yr_full hR hj (fun m2 hm2 hb2 => bs_br1 hm2 hi (fun q => ?_) (fun q => ?_)))
    · refine bs_br1 hm hj (fun _ => br_f (by decide) (nm_r (nI_1 j) (ih () (lt_s hI (fun _ => (hb2 i hi).mp q))))) (fun w => nm_r (nI_1 j) (ih () (lt_s hI (fun z => absurd ((hmb j hj).mpr z) w))))
    · refine bs_br1 hm hj (fun w => br_t rfl ?_) (fun w => nm_r (nI_1 j) (ih () (lt_s hI (fun z => absurd ((hmb j hj).mpr z) w))))
      rw [cx_f (fun hC : cl_C _ i => q ((hb2 i hi).mpr (hC j hj ((hmb j hj).mp w))))] at h
      exact h
theorem cy_un {post : Int32 → Prop} {R : Nat → Nat} {su co rg : Nat → Int64} (hR : ∀ n, R n ≤ 9)
    (h : post (cx_b (cl_U (rt_R (xr_E R (-1)))))) : wpY_unique post ((fun n => nI (R n)), su, co, rg) := by
  refine loop_0 (σ := Unit) (fun n i _ => wY_unique_2 post (fun n => nI (R n)) su co rg n (nI i)) (fun i _ => ∀ k, k < i → ∀ j, j < 4 → cl_C (rt_R (xr_E R (-1))) k → cl_C (rt_R (xr_E R (-1))) j → rt_R (xr_E R (-1)) k j) 4 () (fun k hk => by omega) ?_ ?_
  · intro n _ hI
    rw [cx_t (show cl_U _ from hI)] at h
    exact br_t bs_le4 h
  · intro n i _ hi hI ih
    refine br_f (bs_ge4 hi) ?_
    refine loop_0 (σ := Unit) (fun m j _ => wY_unique_9 post (wY_unique_2 post (fun n => nI (R n)) su co rg n) (nI i) (fun n => nI (R n)) su co rg m (nI j)) (fun j _ => ∀ k, k < j → cl_C (rt_R (xr_E R (-1))) i → cl_C (rt_R (xr_E R (-1))) k → rt_R (xr_E R (-1)) i k) 4 () (fun k hk => by omega) ?_ ?_
    · intro m _ hJ
      exact br_t bs_le4 (nm_r (nI_1 i) (ih () (lt_s hI hJ)))
    · intro m j _ hj hJ ih2
      refine br_f (bs_ge4 hj) (yr_full hR hi (fun m2 hm2 hb2 => bs_br1 hm2 hj (fun q => ?_) (fun q => ?_)))
      · have NX := nm_r (P := fun y => wY_unique_9 post (wY_unique_2 post (fun n => nI (R n)) su co rg n) (nI i) (fun n => nI (R n)) su co rg m y) (nI_1 j) (ih2 () (lt_s hJ (fun _ _ => (hb2 j hj).mp q)))
        exact cy_isC hR hi (cx_br0 (fun _ => NX) (fun _ => cy_isC hR hj (cx_br0 (fun _ => NX) (fun _ => br_f (by decide) NX))))
      · refine cy_isC hR hi (cx_br0 (fun w => nm_r (nI_1 j) (ih2 () (lt_s hJ (fun z => absurd z w)))) (fun w => cy_isC hR hj (cx_br0 (fun w2 => nm_r (nI_1 j) (ih2 () (lt_s hJ (fun _ z => absurd z w2)))) (fun w2 => br_t rfl ?_))))
        rw [cx_f (fun hU : cl_U _ => q ((hb2 j hj).mpr (hU i hi j hj w w2)))] at h
        exact h
