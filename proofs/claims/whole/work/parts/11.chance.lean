/-! ===== the chances' system: two rows ===== -/
def q2_D (a1 a2 a3 b1 b2 b3 : Nat) : Nat := (a1 + a2) * (b1 + b2 + b3) + a3 * (b1 + b2)
def q2_N (a1 a2 a3 b1 b2 b3 : Nat) : Nat := a1 * (b1 + b2 + b3) + a3 * b1
theorem q2_p {a1 a2 a3 b1 b2 b3 : Nat} (h : (0 < a1 + a2 ∧ 0 < b1 + b2 + b3) ∨ (0 < a3 ∧ 0 < b1 + b2)) : 0 < q2_D a1 a2 a3 b1 b2 b3 := by
  unfold q2_D
  rcases h with h | h
  · have := Nat.mul_pos h.1 h.2; omega
  · have := Nat.mul_pos h.1 h.2; omega
theorem q2_main (a1 a2 a3 b1 b2 b3 : Nat) (La Lb Da Db : Prop) (hLa : La ↔ (a1 = 0 ∧ a2 = 0 ∧ (a3 = 0 ∨ (b1 = 0 ∧ b2 = 0)))) (hLb : Lb ↔ (b1 = 0 ∧ b2 = 0 ∧ (b3 = 0 ∨ (a1 = 0 ∧ a2 = 0))))
    (hDa : Da ↔ (a1 = 0 ∧ (a3 = 0 ∨ b1 = 0))) (hDb : Db ↔ (b1 = 0 ∧ (b3 = 0 ∨ a1 = 0))) :
    ∃ c : Nat, 0 < c ∧ 0 < q2_D (ci_n Da 0 a1) (ci_n Da 1 a2) (ci_n Da 0 a3) (ci_n Db 0 b1) (ci_n Db 1 b2) (ci_n Db 0 b3)
      ∧ q2_D (ci_n La 0 a1) (ci_n La 1 a2) (ci_n La 0 a3) (ci_n Lb 0 b1) (ci_n Lb 1 b2) (ci_n Lb 0 b3) = c * q2_D (ci_n Da 0 a1) (ci_n Da 1 a2) (ci_n Da 0 a3) (ci_n Db 0 b1) (ci_n Db 1 b2) (ci_n Db 0 b3)
      ∧ q2_N (ci_n La 0 a1) (ci_n La 1 a2) (ci_n La 0 a3) (ci_n Lb 0 b1) (ci_n Lb 1 b2) (ci_n Lb 0 b3) = c * q2_N (ci_n Da 0 a1) (ci_n Da 1 a2) (ci_n Da 0 a3) (ci_n Db 0 b1) (ci_n Db 1 b2) (ci_n Db 0 b3)
      ∧ q2_N (ci_n Lb 0 b1) (ci_n Lb 1 b2) (ci_n Lb 0 b3) (ci_n La 0 a1) (ci_n La 1 a2) (ci_n La 0 a3) = c * q2_N (ci_n Db 0 b1) (ci_n Db 1 b2) (ci_n Db 0 b3) (ci_n Da 0 a1) (ci_n Da 1 a2) (ci_n Da 0 a3) := by
  by_cases da : Da <;> by_cases db : Db <;> by_cases la : La <;> by_cases lb : Lb <;> simp only [cn_t, cn_f, da, db, la, lb, not_false_eq_true] <;> rw [hLa] at la <;> rw [hLb] at lb <;> rw [hDa] at da <;> rw [hDb] at db
  · exact ⟨1, by decide, by decide, by decide, by decide, by decide⟩
  · refine ⟨b1 + b2 + b3, by omega, by decide, ?_, ?_, ?_⟩ <;> simp only [q2_D, q2_N] <;> grind
  · refine ⟨a1 + a2 + a3, by omega, by decide, ?_, ?_, ?_⟩ <;> simp only [q2_D, q2_N] <;> grind
  · refine ⟨q2_D a1 a2 a3 b1 b2 b3, q2_p (by omega), by decide, ?_, ?_, ?_⟩
    · unfold q2_D; grind
    · unfold q2_D q2_N; rw [da.1, db.1]; grind
    · unfold q2_D q2_N; rw [da.1, db.1]; grind
  · exfalso; omega
  · refine ⟨1, by decide, q2_p (by omega), ?_, ?_, ?_⟩ <;> omega
  · exfalso; omega
  · have z1 : a1 = 0 := da.1
    have z3 : a3 = 0 := by omega
    subst z1 z3
    refine ⟨a2, by omega, q2_p (by omega), ?_, ?_, ?_⟩ <;> simp only [q2_D, q2_N] <;> grind
  · exfalso; omega
  · exfalso; omega
  · refine ⟨1, by decide, q2_p (by omega), ?_, ?_, ?_⟩ <;> omega
  · have z1 : b1 = 0 := db.1
    have z3 : b3 = 0 := by omega
    subst z1 z3
    refine ⟨b2, by omega, q2_p (by omega), ?_, ?_, ?_⟩ <;> simp only [q2_D, q2_N] <;> grind
  · exfalso; omega
  · exfalso; omega
  · exfalso; omega
  · refine ⟨1, by decide, q2_p (by omega), ?_, ?_, ?_⟩ <;> omega
theorem q3_r0 (w : Nat → Nat → Nat) (wt : Nat → Nat) (K : Nat → Prop) (hw : ∀ r, r < 3 → w r r = 0) (hK : K 0) :
    dt_3 (cs_M w wt K) = ((q2_D (ci_n (K 1) 0 (wt 1)) (ci_n (K 1) 1 (w 1 0)) (ci_n (K 1) 0 (w 1 2)) (ci_n (K 2) 0 (wt 2)) (ci_n (K 2) 1 (w 2 0)) (ci_n (K 2) 0 (w 2 1)) : Nat) : Int) ∧ dt_3 (xs_N 0 (cs_M w wt K) (cs_b wt K)) = 0
      ∧ dt_3 (xs_N 1 (cs_M w wt K) (cs_b wt K)) = ((q2_N (ci_n (K 1) 0 (wt 1)) (ci_n (K 1) 1 (w 1 0)) (ci_n (K 1) 0 (w 1 2)) (ci_n (K 2) 0 (wt 2)) (ci_n (K 2) 1 (w 2 0)) (ci_n (K 2) 0 (w 2 1)) : Nat) : Int) ∧ dt_3 (xs_N 2 (cs_M w wt K) (cs_b wt K)) = ((q2_N (ci_n (K 2) 0 (wt 2)) (ci_n (K 2) 1 (w 2 0)) (ci_n (K 2) 0 (w 2 1)) (ci_n (K 1) 0 (wt 1)) (ci_n (K 1) 1 (w 1 0)) (ci_n (K 1) 0 (w 1 2)) : Nat) : Int) := by
  have h0 := hw 0 (by decide)
  have h1 := hw 1 (by decide)
  have h2 := hw 2 (by decide)
  unfold dt_3 xs_N cs_M cs_b fl_M q2_D q2_N
  simp only [reduceIte, nq_01, nq_02, nq_10, nq_12, nq_20, nq_21, h0, h1, h2, ci_t hK]
  by_cases ka : K 1 <;> by_cases kb : K 2 <;> simp only [ci_t, ci_f, cn_t, cn_f, ka, kb, not_false_eq_true] <;> push_cast <;> refine ⟨?_, ?_, ?_, ?_⟩ <;> grind
theorem q3_r1 (w : Nat → Nat → Nat) (wt : Nat → Nat) (K : Nat → Prop) (hw : ∀ r, r < 3 → w r r = 0) (hK : K 1) :
    dt_3 (cs_M w wt K) = ((q2_D (ci_n (K 0) 0 (wt 0)) (ci_n (K 0) 1 (w 0 1)) (ci_n (K 0) 0 (w 0 2)) (ci_n (K 2) 0 (wt 2)) (ci_n (K 2) 1 (w 2 1)) (ci_n (K 2) 0 (w 2 0)) : Nat) : Int) ∧ dt_3 (xs_N 1 (cs_M w wt K) (cs_b wt K)) = 0
      ∧ dt_3 (xs_N 0 (cs_M w wt K) (cs_b wt K)) = ((q2_N (ci_n (K 0) 0 (wt 0)) (ci_n (K 0) 1 (w 0 1)) (ci_n (K 0) 0 (w 0 2)) (ci_n (K 2) 0 (wt 2)) (ci_n (K 2) 1 (w 2 1)) (ci_n (K 2) 0 (w 2 0)) : Nat) : Int) ∧ dt_3 (xs_N 2 (cs_M w wt K) (cs_b wt K)) = ((q2_N (ci_n (K 2) 0 (wt 2)) (ci_n (K 2) 1 (w 2 1)) (ci_n (K 2) 0 (w 2 0)) (ci_n (K 0) 0 (wt 0)) (ci_n (K 0) 1 (w 0 1)) (ci_n (K 0) 0 (w 0 2)) : Nat) : Int) := by
  have h0 := hw 0 (by decide)
  have h1 := hw 1 (by decide)
  have h2 := hw 2 (by decide)
  unfold dt_3 xs_N cs_M cs_b fl_M q2_D q2_N
  simp only [reduceIte, nq_01, nq_02, nq_10, nq_12, nq_20, nq_21, h0, h1, h2, ci_t hK]
  by_cases ka : K 0 <;> by_cases kb : K 2 <;> simp only [ci_t, ci_f, cn_t, cn_f, ka, kb, not_false_eq_true] <;> push_cast <;> refine ⟨?_, ?_, ?_, ?_⟩ <;> grind
theorem q3_r2 (w : Nat → Nat → Nat) (wt : Nat → Nat) (K : Nat → Prop) (hw : ∀ r, r < 3 → w r r = 0) (hK : K 2) :
    dt_3 (cs_M w wt K) = ((q2_D (ci_n (K 0) 0 (wt 0)) (ci_n (K 0) 1 (w 0 2)) (ci_n (K 0) 0 (w 0 1)) (ci_n (K 1) 0 (wt 1)) (ci_n (K 1) 1 (w 1 2)) (ci_n (K 1) 0 (w 1 0)) : Nat) : Int) ∧ dt_3 (xs_N 2 (cs_M w wt K) (cs_b wt K)) = 0
      ∧ dt_3 (xs_N 0 (cs_M w wt K) (cs_b wt K)) = ((q2_N (ci_n (K 0) 0 (wt 0)) (ci_n (K 0) 1 (w 0 2)) (ci_n (K 0) 0 (w 0 1)) (ci_n (K 1) 0 (wt 1)) (ci_n (K 1) 1 (w 1 2)) (ci_n (K 1) 0 (w 1 0)) : Nat) : Int) ∧ dt_3 (xs_N 1 (cs_M w wt K) (cs_b wt K)) = ((q2_N (ci_n (K 1) 0 (wt 1)) (ci_n (K 1) 1 (w 1 2)) (ci_n (K 1) 0 (w 1 0)) (ci_n (K 0) 0 (wt 0)) (ci_n (K 0) 1 (w 0 2)) (ci_n (K 0) 0 (w 0 1)) : Nat) : Int) := by
  have h0 := hw 0 (by decide)
  have h1 := hw 1 (by decide)
  have h2 := hw 2 (by decide)
  unfold dt_3 xs_N cs_M cs_b fl_M q2_D q2_N
  simp only [reduceIte, nq_01, nq_02, nq_10, nq_12, nq_20, nq_21, h0, h1, h2, ci_t hK]
  by_cases ka : K 0 <;> by_cases kb : K 1 <;> simp only [ci_t, ci_f, cn_t, cn_f, ka, kb, not_false_eq_true] <;> push_cast <;> refine ⟨?_, ?_, ?_, ?_⟩ <;> grind
def ch_F (w : Nat → Nat → Nat) (wt : Nat → Nat) (u : Nat) (KX KY : Nat → Prop) : Prop := KX u ∧ KY u ∧ ∀ a b, a < 3 → b < 3 → a ≠ u → b ≠ u → a ≠ b →
  (KX a ↔ (wt a = 0 ∧ w a u = 0 ∧ (w a b = 0 ∨ (wt b = 0 ∧ w b u = 0)))) ∧ (KY a ↔ (wt a = 0 ∧ (w a b = 0 ∨ wt b = 0)))
def ch_Q (w : Nat → Nat → Nat) (wt : Nat → Nat) (KX KY : Nat → Prop) (k : Nat) : Prop := ∃ c d n : Nat, 0 < c ∧ 0 < d ∧ dt_3 (cs_M w wt KY) = (d : Int) ∧ dt_3 (cs_M w wt KX) = ((c * d : Nat) : Int)
  ∧ dt_3 (xs_N k (cs_M w wt KY) (cs_b wt KY)) = (n : Int) ∧ dt_3 (xs_N k (cs_M w wt KX) (cs_b wt KX)) = ((c * n : Nat) : Int)
theorem ch_u0 (w : Nat → Nat → Nat) (wt : Nat → Nat) (KX KY : Nat → Prop) (hw : ∀ r, r < 3 → w r r = 0) (h : ch_F w wt 0 KX KY) (k : Nat) (hk : k < 3) : ch_Q w wt KX KY k := by
  obtain ⟨hx, hy, hf⟩ := h
  have f1 := hf 1 2 (by decide) (by decide) (by decide) (by decide) (by decide)
  have f2 := hf 2 1 (by decide) (by decide) (by decide) (by decide) (by decide)
  obtain ⟨c, c0, d0, e1, e2, e3⟩ := q2_main (wt 1) (w 1 0) (w 1 2) (wt 2) (w 2 0) (w 2 1) (KX 1) (KX 2) (KY 1) (KY 2) f1.1 f2.1 f1.2 f2.2
  obtain ⟨x1, x2, x3, x4⟩ := q3_r0 w wt KX hw hx
  obtain ⟨y1, y2, y3, y4⟩ := q3_r0 w wt KY hw hy
  rw [e1] at x1
  rw [e2] at x3
  rw [e3] at x4
  rcases (by omega : k = 0 ∨ k = 1 ∨ k = 2) with e | e | e <;> subst e
  · exact ⟨c, _, 0, c0, d0, y1, x1, y2, x2⟩
  · exact ⟨c, _, _, c0, d0, y1, x1, y3, x3⟩
  · exact ⟨c, _, _, c0, d0, y1, x1, y4, x4⟩
theorem ch_u1 (w : Nat → Nat → Nat) (wt : Nat → Nat) (KX KY : Nat → Prop) (hw : ∀ r, r < 3 → w r r = 0) (h : ch_F w wt 1 KX KY) (k : Nat) (hk : k < 3) : ch_Q w wt KX KY k := by
  obtain ⟨hx, hy, hf⟩ := h
  have f1 := hf 0 2 (by decide) (by decide) (by decide) (by decide) (by decide)
  have f2 := hf 2 0 (by decide) (by decide) (by decide) (by decide) (by decide)
  obtain ⟨c, c0, d0, e1, e2, e3⟩ := q2_main (wt 0) (w 0 1) (w 0 2) (wt 2) (w 2 1) (w 2 0) (KX 0) (KX 2) (KY 0) (KY 2) f1.1 f2.1 f1.2 f2.2
  obtain ⟨x1, x2, x3, x4⟩ := q3_r1 w wt KX hw hx
  obtain ⟨y1, y2, y3, y4⟩ := q3_r1 w wt KY hw hy
  rw [e1] at x1
  rw [e2] at x3
  rw [e3] at x4
  rcases (by omega : k = 1 ∨ k = 0 ∨ k = 2) with e | e | e <;> subst e
  · exact ⟨c, _, 0, c0, d0, y1, x1, y2, x2⟩
  · exact ⟨c, _, _, c0, d0, y1, x1, y3, x3⟩
  · exact ⟨c, _, _, c0, d0, y1, x1, y4, x4⟩
theorem ch_u2 (w : Nat → Nat → Nat) (wt : Nat → Nat) (KX KY : Nat → Prop) (hw : ∀ r, r < 3 → w r r = 0) (h : ch_F w wt 2 KX KY) (k : Nat) (hk : k < 3) : ch_Q w wt KX KY k := by
  obtain ⟨hx, hy, hf⟩ := h
  have f1 := hf 0 1 (by decide) (by decide) (by decide) (by decide) (by decide)
  have f2 := hf 1 0 (by decide) (by decide) (by decide) (by decide) (by decide)
  obtain ⟨c, c0, d0, e1, e2, e3⟩ := q2_main (wt 0) (w 0 2) (w 0 1) (wt 1) (w 1 2) (w 1 0) (KX 0) (KX 1) (KY 0) (KY 1) f1.1 f2.1 f1.2 f2.2
  obtain ⟨x1, x2, x3, x4⟩ := q3_r2 w wt KX hw hx
  obtain ⟨y1, y2, y3, y4⟩ := q3_r2 w wt KY hw hy
  rw [e1] at x1
  rw [e2] at x3
  rw [e3] at x4
  rcases (by omega : k = 2 ∨ k = 0 ∨ k = 1) with e | e | e <;> subst e
  · exact ⟨c, _, 0, c0, d0, y1, x1, y2, x2⟩
  · exact ⟨c, _, _, c0, d0, y1, x1, y3, x3⟩
  · exact ⟨c, _, _, c0, d0, y1, x1, y4, x4⟩
theorem ch_sys (w : Nat → Nat → Nat) (wt : Nat → Nat) (KX KY : Nat → Prop) (hw : ∀ r, r < 3 → w r r = 0) (u : Nat) (hu : u < 3) (h : ch_F w wt u KX KY) (k : Nat) (hk : k < 3) : ch_Q w wt KX KY k := by
  rcases (by omega : u = 0 ∨ u = 1 ∨ u = 2) with e | e | e <;> subst e
  · exact ch_u0 w wt KX KY hw h k hk
  · exact ch_u1 w wt KX KY hw h k hk
  · exact ch_u2 w wt KX KY hw h k hk
