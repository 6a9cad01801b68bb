theorem nq_01 : ((0 : Nat) = 1) = False := eq_false (by decide)
theorem nq_02 : ((0 : Nat) = 2) = False := eq_false (by decide)
theorem nq_03 : ((0 : Nat) = 3) = False := eq_false (by decide)
theorem nq_10 : ((1 : Nat) = 0) = False := eq_false (by decide)
theorem nq_12 : ((1 : Nat) = 2) = False := eq_false (by decide)
theorem nq_13 : ((1 : Nat) = 3) = False := eq_false (by decide)
theorem nq_20 : ((2 : Nat) = 0) = False := eq_false (by decide)
theorem nq_21 : ((2 : Nat) = 1) = False := eq_false (by decide)
theorem nq_23 : ((2 : Nat) = 3) = False := eq_false (by decide)
theorem nq_30 : ((3 : Nat) = 0) = False := eq_false (by decide)
theorem nq_31 : ((3 : Nat) = 1) = False := eq_false (by decide)
theorem nq_32 : ((3 : Nat) = 2) = False := eq_false (by decide)
/-! ===== the algebra of three rows ===== -/
theorem dt_c3 {M M' : Nat → Nat → Int} (h : ∀ r c, r < 3 → c < 3 → M r c = M' r c) : dt_3 M = dt_3 M' := by
  unfold dt_3
  rw [h 0 0 (by decide) (by decide), h 0 1 (by decide) (by decide), h 0 2 (by decide) (by decide), h 1 0 (by decide) (by decide), h 1 1 (by decide) (by decide), h 1 2 (by decide) (by decide), h 2 0 (by decide) (by decide), h 2 1 (by decide) (by decide), h 2 2 (by decide) (by decide)]
/-- a held row t of the four takes its row and column out -/
theorem dt_t0 (N : Nat → Nat → Int) (h : ∀ r, r < 4 → N 0 r = id_i r 0) : dt_4 N = dt_3 (fun r c => N (fm_st r 0) (fm_st c 0)) := by
  have h0 : N 0 0 = 1 := h 0 (by decide)
  have h1 : N 0 1 = 0 := h 1 (by decide)
  have h2 : N 0 2 = 0 := h 2 (by decide)
  have h3 : N 0 3 = 0 := h 3 (by decide)
  have e0 : fm_st 0 0 = 1 := rfl
  have e1 : fm_st 1 0 = 2 := rfl
  have e2 : fm_st 2 0 = 3 := rfl
  unfold dt_4 dt_3
  simp only [e0, e1, e2, h0, h1, h2, h3]
  grind
theorem dt_n01 (N : Nat → Nat → Int) (g : Nat → Int) (h : ∀ r, r < 4 → N 0 r = id_i r 0) :
    dt_4 (ye_E N g 1) = dt_3 (xs_N 0 (fun r c => N (fm_st r 0) (fm_st c 0)) (fun r => g (fm_st r 0) - g 0 * N (fm_st r 0) 0)) := by
  have h0 : N 0 0 = 1 := h 0 (by decide)
  have h1 : N 0 1 = 0 := h 1 (by decide)
  have h2 : N 0 2 = 0 := h 2 (by decide)
  have h3 : N 0 3 = 0 := h 3 (by decide)
  have e0 : fm_st 0 0 = 1 := rfl
  have e1 : fm_st 1 0 = 2 := rfl
  have e2 : fm_st 2 0 = 3 := rfl
  unfold dt_4 dt_3 ye_E xs_N
  simp only [e0, e1, e2, h0, h1, h2, h3, reduceIte, nq_01, nq_02, nq_03, nq_10, nq_12, nq_13, nq_20, nq_21, nq_23, nq_30, nq_31, nq_32]
  grind
theorem dt_n02 (N : Nat → Nat → Int) (g : Nat → Int) (h : ∀ r, r < 4 → N 0 r = id_i r 0) :
    dt_4 (ye_E N g 2) = dt_3 (xs_N 1 (fun r c => N (fm_st r 0) (fm_st c 0)) (fun r => g (fm_st r 0) - g 0 * N (fm_st r 0) 0)) := by
  have h0 : N 0 0 = 1 := h 0 (by decide)
  have h1 : N 0 1 = 0 := h 1 (by decide)
  have h2 : N 0 2 = 0 := h 2 (by decide)
  have h3 : N 0 3 = 0 := h 3 (by decide)
  have e0 : fm_st 0 0 = 1 := rfl
  have e1 : fm_st 1 0 = 2 := rfl
  have e2 : fm_st 2 0 = 3 := rfl
  unfold dt_4 dt_3 ye_E xs_N
  simp only [e0, e1, e2, h0, h1, h2, h3, reduceIte, nq_01, nq_02, nq_03, nq_10, nq_12, nq_13, nq_20, nq_21, nq_23, nq_30, nq_31, nq_32]
  grind
theorem dt_n03 (N : Nat → Nat → Int) (g : Nat → Int) (h : ∀ r, r < 4 → N 0 r = id_i r 0) :
    dt_4 (ye_E N g 3) = dt_3 (xs_N 2 (fun r c => N (fm_st r 0) (fm_st c 0)) (fun r => g (fm_st r 0) - g 0 * N (fm_st r 0) 0)) := by
  have h0 : N 0 0 = 1 := h 0 (by decide)
  have h1 : N 0 1 = 0 := h 1 (by decide)
  have h2 : N 0 2 = 0 := h 2 (by decide)
  have h3 : N 0 3 = 0 := h 3 (by decide)
  have e0 : fm_st 0 0 = 1 := rfl
  have e1 : fm_st 1 0 = 2 := rfl
  have e2 : fm_st 2 0 = 3 := rfl
  unfold dt_4 dt_3 ye_E xs_N
  simp only [e0, e1, e2, h0, h1, h2, h3, reduceIte, nq_01, nq_02, nq_03, nq_10, nq_12, nq_13, nq_20, nq_21, nq_23, nq_30, nq_31, nq_32]
  grind
theorem dt_t1 (N : Nat → Nat → Int) (h : ∀ r, r < 4 → N 1 r = id_i r 1) : dt_4 N = dt_3 (fun r c => N (fm_st r 1) (fm_st c 1)) := by
  have h0 : N 1 0 = 0 := h 0 (by decide)
  have h1 : N 1 1 = 1 := h 1 (by decide)
  have h2 : N 1 2 = 0 := h 2 (by decide)
  have h3 : N 1 3 = 0 := h 3 (by decide)
  have e0 : fm_st 0 1 = 0 := rfl
  have e1 : fm_st 1 1 = 2 := rfl
  have e2 : fm_st 2 1 = 3 := rfl
  unfold dt_4 dt_3
  simp only [e0, e1, e2, h0, h1, h2, h3]
  grind
theorem dt_n10 (N : Nat → Nat → Int) (g : Nat → Int) (h : ∀ r, r < 4 → N 1 r = id_i r 1) :
    dt_4 (ye_E N g 0) = dt_3 (xs_N 0 (fun r c => N (fm_st r 1) (fm_st c 1)) (fun r => g (fm_st r 1) - g 1 * N (fm_st r 1) 1)) := by
  have h0 : N 1 0 = 0 := h 0 (by decide)
  have h1 : N 1 1 = 1 := h 1 (by decide)
  have h2 : N 1 2 = 0 := h 2 (by decide)
  have h3 : N 1 3 = 0 := h 3 (by decide)
  have e0 : fm_st 0 1 = 0 := rfl
  have e1 : fm_st 1 1 = 2 := rfl
  have e2 : fm_st 2 1 = 3 := rfl
  unfold dt_4 dt_3 ye_E xs_N
  simp only [e0, e1, e2, h0, h1, h2, h3, reduceIte, nq_01, nq_02, nq_03, nq_10, nq_12, nq_13, nq_20, nq_21, nq_23, nq_30, nq_31, nq_32]
  grind
theorem dt_n12 (N : Nat → Nat → Int) (g : Nat → Int) (h : ∀ r, r < 4 → N 1 r = id_i r 1) :
    dt_4 (ye_E N g 2) = dt_3 (xs_N 1 (fun r c => N (fm_st r 1) (fm_st c 1)) (fun r => g (fm_st r 1) - g 1 * N (fm_st r 1) 1)) := by
  have h0 : N 1 0 = 0 := h 0 (by decide)
  have h1 : N 1 1 = 1 := h 1 (by decide)
  have h2 : N 1 2 = 0 := h 2 (by decide)
  have h3 : N 1 3 = 0 := h 3 (by decide)
  have e0 : fm_st 0 1 = 0 := rfl
  have e1 : fm_st 1 1 = 2 := rfl
  have e2 : fm_st 2 1 = 3 := rfl
  unfold dt_4 dt_3 ye_E xs_N
  simp only [e0, e1, e2, h0, h1, h2, h3, reduceIte, nq_01, nq_02, nq_03, nq_10, nq_12, nq_13, nq_20, nq_21, nq_23, nq_30, nq_31, nq_32]
  grind
theorem dt_n13 (N : Nat → Nat → Int) (g : Nat → Int) (h : ∀ r, r < 4 → N 1 r = id_i r 1) :
    dt_4 (ye_E N g 3) = dt_3 (xs_N 2 (fun r c => N (fm_st r 1) (fm_st c 1)) (fun r => g (fm_st r 1) - g 1 * N (fm_st r 1) 1)) := by
  have h0 : N 1 0 = 0 := h 0 (by decide)
  have h1 : N 1 1 = 1 := h 1 (by decide)
  have h2 : N 1 2 = 0 := h 2 (by decide)
  have h3 : N 1 3 = 0 := h 3 (by decide)
  have e0 : fm_st 0 1 = 0 := rfl
  have e1 : fm_st 1 1 = 2 := rfl
  have e2 : fm_st 2 1 = 3 := rfl
  unfold dt_4 dt_3 ye_E xs_N
  simp only [e0, e1, e2, h0, h1, h2, h3, reduceIte, nq_01, nq_02, nq_03, nq_10, nq_12, nq_13, nq_20, nq_21, nq_23, nq_30, nq_31, nq_32]
  grind
theorem dt_t2 (N : Nat → Nat → Int) (h : ∀ r, r < 4 → N 2 r = id_i r 2) : dt_4 N = dt_3 (fun r c => N (fm_st r 2) (fm_st c 2)) := by
  have h0 : N 2 0 = 0 := h 0 (by decide)
  have h1 : N 2 1 = 0 := h 1 (by decide)
  have h2 : N 2 2 = 1 := h 2 (by decide)
  have h3 : N 2 3 = 0 := h 3 (by decide)
  have e0 : fm_st 0 2 = 0 := rfl
  have e1 : fm_st 1 2 = 1 := rfl
  have e2 : fm_st 2 2 = 3 := rfl
  unfold dt_4 dt_3
  simp only [e0, e1, e2, h0, h1, h2, h3]
  grind
theorem dt_n20 (N : Nat → Nat → Int) (g : Nat → Int) (h : ∀ r, r < 4 → N 2 r = id_i r 2) :
    dt_4 (ye_E N g 0) = dt_3 (xs_N 0 (fun r c => N (fm_st r 2) (fm_st c 2)) (fun r => g (fm_st r 2) - g 2 * N (fm_st r 2) 2)) := by
  have h0 : N 2 0 = 0 := h 0 (by decide)
  have h1 : N 2 1 = 0 := h 1 (by decide)
  have h2 : N 2 2 = 1 := h 2 (by decide)
  have h3 : N 2 3 = 0 := h 3 (by decide)
  have e0 : fm_st 0 2 = 0 := rfl
  have e1 : fm_st 1 2 = 1 := rfl
  have e2 : fm_st 2 2 = 3 := rfl
  unfold dt_4 dt_3 ye_E xs_N
  simp only [e0, e1, e2, h0, h1, h2, h3, reduceIte, nq_01, nq_02, nq_03, nq_10, nq_12, nq_13, nq_20, nq_21, nq_23, nq_30, nq_31, nq_32]
  grind
theorem dt_n21 (N : Nat → Nat → Int) (g : Nat → Int) (h : ∀ r, r < 4 → N 2 r = id_i r 2) :
    dt_4 (ye_E N g 1) = dt_3 (xs_N 1 (fun r c => N (fm_st r 2) (fm_st c 2)) (fun r => g (fm_st r 2) - g 2 * N (fm_st r 2) 2)) := by
  have h0 : N 2 0 = 0 := h 0 (by decide)
  have h1 : N 2 1 = 0 := h 1 (by decide)
  have h2 : N 2 2 = 1 := h 2 (by decide)
  have h3 : N 2 3 = 0 := h 3 (by decide)
  have e0 : fm_st 0 2 = 0 := rfl
  have e1 : fm_st 1 2 = 1 := rfl
  have e2 : fm_st 2 2 = 3 := rfl
  unfold dt_4 dt_3 ye_E xs_N
  simp only [e0, e1, e2, h0, h1, h2, h3, reduceIte, nq_01, nq_02, nq_03, nq_10, nq_12, nq_13, nq_20, nq_21, nq_23, nq_30, nq_31, nq_32]
  grind
theorem dt_n23 (N : Nat → Nat → Int) (g : Nat → Int) (h : ∀ r, r < 4 → N 2 r = id_i r 2) :
    dt_4 (ye_E N g 3) = dt_3 (xs_N 2 (fun r c => N (fm_st r 2) (fm_st c 2)) (fun r => g (fm_st r 2) - g 2 * N (fm_st r 2) 2)) := by
  have h0 : N 2 0 = 0 := h 0 (by decide)
  have h1 : N 2 1 = 0 := h 1 (by decide)
  have h2 : N 2 2 = 1 := h 2 (by decide)
  have h3 : N 2 3 = 0 := h 3 (by decide)
  have e0 : fm_st 0 2 = 0 := rfl
  have e1 : fm_st 1 2 = 1 := rfl
  have e2 : fm_st 2 2 = 3 := rfl
  unfold dt_4 dt_3 ye_E xs_N
  simp only [e0, e1, e2, h0, h1, h2, h3, reduceIte, nq_01, nq_02, nq_03, nq_10, nq_12, nq_13, nq_20, nq_21, nq_23, nq_30, nq_31, nq_32]
  grind
theorem dt_t3 (N : Nat → Nat → Int) (h : ∀ r, r < 4 → N 3 r = id_i r 3) : dt_4 N = dt_3 (fun r c => N (fm_st r 3) (fm_st c 3)) := by
  have h0 : N 3 0 = 0 := h 0 (by decide)
  have h1 : N 3 1 = 0 := h 1 (by decide)
  have h2 : N 3 2 = 0 := h 2 (by decide)
  have h3 : N 3 3 = 1 := h 3 (by decide)
  have e0 : fm_st 0 3 = 0 := rfl
  have e1 : fm_st 1 3 = 1 := rfl
  have e2 : fm_st 2 3 = 2 := rfl
  unfold dt_4 dt_3
  simp only [e0, e1, e2, h0, h1, h2, h3]
  grind
theorem dt_n30 (N : Nat → Nat → Int) (g : Nat → Int) (h : ∀ r, r < 4 → N 3 r = id_i r 3) :
    dt_4 (ye_E N g 0) = dt_3 (xs_N 0 (fun r c => N (fm_st r 3) (fm_st c 3)) (fun r => g (fm_st r 3) - g 3 * N (fm_st r 3) 3)) := by
  have h0 : N 3 0 = 0 := h 0 (by decide)
  have h1 : N 3 1 = 0 := h 1 (by decide)
  have h2 : N 3 2 = 0 := h 2 (by decide)
  have h3 : N 3 3 = 1 := h 3 (by decide)
  have e0 : fm_st 0 3 = 0 := rfl
  have e1 : fm_st 1 3 = 1 := rfl
  have e2 : fm_st 2 3 = 2 := rfl
  unfold dt_4 dt_3 ye_E xs_N
  simp only [e0, e1, e2, h0, h1, h2, h3, reduceIte, nq_01, nq_02, nq_03, nq_10, nq_12, nq_13, nq_20, nq_21, nq_23, nq_30, nq_31, nq_32]
  grind
theorem dt_n31 (N : Nat → Nat → Int) (g : Nat → Int) (h : ∀ r, r < 4 → N 3 r = id_i r 3) :
    dt_4 (ye_E N g 1) = dt_3 (xs_N 1 (fun r c => N (fm_st r 3) (fm_st c 3)) (fun r => g (fm_st r 3) - g 3 * N (fm_st r 3) 3)) := by
  have h0 : N 3 0 = 0 := h 0 (by decide)
  have h1 : N 3 1 = 0 := h 1 (by decide)
  have h2 : N 3 2 = 0 := h 2 (by decide)
  have h3 : N 3 3 = 1 := h 3 (by decide)
  have e0 : fm_st 0 3 = 0 := rfl
  have e1 : fm_st 1 3 = 1 := rfl
  have e2 : fm_st 2 3 = 2 := rfl
  unfold dt_4 dt_3 ye_E xs_N
  simp only [e0, e1, e2, h0, h1, h2, h3, reduceIte, nq_01, nq_02, nq_03, nq_10, nq_12, nq_13, nq_20, nq_21, nq_23, nq_30, nq_31, nq_32]
  grind
theorem dt_n32 (N : Nat → Nat → Int) (g : Nat → Int) (h : ∀ r, r < 4 → N 3 r = id_i r 3) :
    dt_4 (ye_E N g 2) = dt_3 (xs_N 2 (fun r c => N (fm_st r 3) (fm_st c 3)) (fun r => g (fm_st r 3) - g 3 * N (fm_st r 3) 3)) := by
  have h0 : N 3 0 = 0 := h 0 (by decide)
  have h1 : N 3 1 = 0 := h 1 (by decide)
  have h2 : N 3 2 = 0 := h 2 (by decide)
  have h3 : N 3 3 = 1 := h 3 (by decide)
  have e0 : fm_st 0 3 = 0 := rfl
  have e1 : fm_st 1 3 = 1 := rfl
  have e2 : fm_st 2 3 = 2 := rfl
  unfold dt_4 dt_3 ye_E xs_N
  simp only [e0, e1, e2, h0, h1, h2, h3, reduceIte, nq_01, nq_02, nq_03, nq_10, nq_12, nq_13, nq_20, nq_21, nq_23, nq_30, nq_31, nq_32]
  grind
theorem dt_t (t : Nat) (ht : t < 4) (N : Nat → Nat → Int) (h : ∀ r, r < 4 → N t r = id_i r t) : dt_4 N = dt_3 (fun r c => N (fm_st r t) (fm_st c t)) := by
  rcases (by omega : t = 0 ∨ t = 1 ∨ t = 2 ∨ t = 3) with e | e | e | e <;> subst e
  · exact dt_t0 N h
  · exact dt_t1 N h
  · exact dt_t2 N h
  · exact dt_t3 N h
theorem dt_n (t i : Nat) (ht : t < 4) (hi : i < 4) (hne : i ≠ t) (N : Nat → Nat → Int) (g : Nat → Int) (h : ∀ r, r < 4 → N t r = id_i r t) :
    dt_4 (ye_E N g i) = dt_3 (xs_N (sv_c i t) (fun r c => N (fm_st r t) (fm_st c t)) (fun r => g (fm_st r t) - g t * N (fm_st r t) t)) := by
  rcases (by omega : t = 0 ∨ t = 1 ∨ t = 2 ∨ t = 3) with e | e | e | e <;> subst e <;> rcases (by omega : i = 0 ∨ i = 1 ∨ i = 2 ∨ i = 3) with e | e | e | e <;> subst e <;> first | exact absurd rfl hne | skip
  · exact dt_n01 N g h
  · exact dt_n02 N g h
  · exact dt_n03 N g h
  · exact dt_n10 N g h
  · exact dt_n12 N g h
  · exact dt_n13 N g h
  · exact dt_n20 N g h
  · exact dt_n21 N g h
  · exact dt_n23 N g h
  · exact dt_n30 N g h
  · exact dt_n31 N g h
  · exact dt_n32 N g h
/-- column t of the four: with the right side that stands in row t alone -/
theorem dt_same (t : Nat) (ht : t < 4) (N : Nat → Nat → Int) (g : Nat → Int) (h : ∀ r, r < 4 → N t r = id_i r t) (hg : ∀ r, r < 4 → g r = id_i r t) : dt_4 (ye_E N g t) = dt_4 N := by
  have g0 := hg 0 (by decide)
  have g1 := hg 1 (by decide)
  have g2 := hg 2 (by decide)
  have g3 := hg 3 (by decide)
  have h0 := h 0 (by decide)
  have h1 := h 1 (by decide)
  have h2 := h 2 (by decide)
  have h3 := h 3 (by decide)
  rcases (by omega : t = 0 ∨ t = 1 ∨ t = 2 ∨ t = 3) with e | e | e | e <;> subst e <;>
  simp only [id_i, reduceIte, nq_01, nq_02, nq_03, nq_10, nq_12, nq_13, nq_20, nq_21, nq_23, nq_30, nq_31, nq_32] at g0 g1 g2 g3 h0 h1 h2 h3 <;>
  unfold dt_4 ye_E <;>
  simp only [g0, g1, g2, g3, h0, h1, h2, h3, reduceIte, nq_01, nq_02, nq_03, nq_10, nq_12, nq_13, nq_20, nq_21, nq_23, nq_30, nq_31, nq_32] <;>
  grind
