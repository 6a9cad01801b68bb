/-! ===== flows over three rows, with an exit ===== -/
def fl_M (x : Nat → Nat → Nat) (xt : Nat → Nat) (r c : Nat) : Int := if r = c then ((xt r + x r 0 + x r 1 + x r 2 : Nat) : Int) else -((x r c : Nat) : Int)
def fl_P (x : Nat → Nat → Nat) (xt : Nat → Nat) : Nat := xt 0 * xt 1 * xt 2 + xt 0 * xt 1 * x 2 0 + xt 0 * xt 1 * x 2 1 + xt 0 * x 1 0 * xt 2 + xt 0 * x 1 0 * x 2 0 + xt 0 * x 1 0 * x 2 1 + xt 0 * x 1 2 * xt 2 + xt 0 * x 1 2 * x 2 0 + x 0 1 * xt 1 * xt 2 + x 0 1 * xt 1 * x 2 0 + x 0 1 * xt 1 * x 2 1 + x 0 1 * x 1 2 * xt 2 + x 0 2 * xt 1 * xt 2 + x 0 2 * xt 1 * x 2 1 + x 0 2 * x 1 0 * xt 2 + x 0 2 * x 1 2 * xt 2
theorem fl_det (x : Nat → Nat → Nat) (xt : Nat → Nat) (h0 : x 0 0 = 0) (h1 : x 1 1 = 0) (h2 : x 2 2 = 0) : dt_3 (fl_M x xt) = (fl_P x xt : Int) := by
  unfold dt_3 fl_M fl_P
  simp only [reduceIte, nq_01, nq_02, nq_10, nq_12, nq_20, nq_21, h0, h1, h2]
  push_cast
  grind
def fl_N0 (x : Nat → Nat → Nat) (xt g : Nat → Nat) : Nat := g 0 * ((xt 1 + x 1 0) * (xt 2 + x 2 0 + x 2 1) + x 1 2 * (xt 2 + x 2 0)) + x 0 1 * (g 1 * (xt 2 + x 2 0 + x 2 1) + x 1 2 * g 2) + x 0 2 * (g 1 * x 2 1 + (xt 1 + x 1 0 + x 1 2) * g 2)
theorem fl_num0 (x : Nat → Nat → Nat) (xt g : Nat → Nat) (h0 : x 0 0 = 0) (h1 : x 1 1 = 0) (h2 : x 2 2 = 0) : dt_3 (xs_N 0 (fl_M x xt) (fun r => (g r : Int))) = (fl_N0 x xt g : Int) := by
  unfold dt_3 xs_N fl_M fl_N0
  simp only [reduceIte, nq_01, nq_02, nq_10, nq_12, nq_20, nq_21, h0, h1, h2]
  push_cast
  grind
def fl_N1 (x : Nat → Nat → Nat) (xt g : Nat → Nat) : Nat := g 1 * ((xt 0 + x 0 1) * (xt 2 + x 2 1 + x 2 0) + x 0 2 * (xt 2 + x 2 1)) + x 1 0 * (g 0 * (xt 2 + x 2 1 + x 2 0) + x 0 2 * g 2) + x 1 2 * (g 0 * x 2 0 + (xt 0 + x 0 1 + x 0 2) * g 2)
theorem fl_num1 (x : Nat → Nat → Nat) (xt g : Nat → Nat) (h0 : x 0 0 = 0) (h1 : x 1 1 = 0) (h2 : x 2 2 = 0) : dt_3 (xs_N 1 (fl_M x xt) (fun r => (g r : Int))) = (fl_N1 x xt g : Int) := by
  unfold dt_3 xs_N fl_M fl_N1
  simp only [reduceIte, nq_01, nq_02, nq_10, nq_12, nq_20, nq_21, h0, h1, h2]
  push_cast
  grind
def fl_N2 (x : Nat → Nat → Nat) (xt g : Nat → Nat) : Nat := g 2 * ((xt 0 + x 0 2) * (xt 1 + x 1 2 + x 1 0) + x 0 1 * (xt 1 + x 1 2)) + x 2 0 * (g 0 * (xt 1 + x 1 2 + x 1 0) + x 0 1 * g 1) + x 2 1 * (g 0 * x 1 0 + (xt 0 + x 0 2 + x 0 1) * g 1)
theorem fl_num2 (x : Nat → Nat → Nat) (xt g : Nat → Nat) (h0 : x 0 0 = 0) (h1 : x 1 1 = 0) (h2 : x 2 2 = 0) : dt_3 (xs_N 2 (fl_M x xt) (fun r => (g r : Int))) = (fl_N2 x xt g : Int) := by
  unfold dt_3 xs_N fl_M fl_N2
  simp only [reduceIte, nq_01, nq_02, nq_10, nq_12, nq_20, nq_21, h0, h1, h2]
  push_cast
  grind
theorem fl_num (k : Nat) (hk : k < 3) (x : Nat → Nat → Nat) (xt g : Nat → Nat) (h0 : x 0 0 = 0) (h1 : x 1 1 = 0) (h2 : x 2 2 = 0) : ∃ n : Nat, dt_3 (xs_N k (fl_M x xt) (fun r => (g r : Int))) = (n : Int) := by
  rcases (by omega : k = 0 ∨ k = 1 ∨ k = 2) with e | e | e <;> subst e
  · exact ⟨_, fl_num0 x xt g h0 h1 h2⟩
  · exact ⟨_, fl_num1 x xt g h0 h1 h2⟩
  · exact ⟨_, fl_num2 x xt g h0 h1 h2⟩
/-- out of every set of rows something flows -/
def fl_H (x : Nat → Nat → Nat) (xt : Nat → Nat) : Prop := ∀ Z : Nat → Prop, (∃ r, r < 3 ∧ Z r) → ∃ r, r < 3 ∧ Z r ∧ (0 < xt r ∨ ∃ c, c < 3 ∧ ¬ Z c ∧ 0 < x r c)
theorem fl_g012 {x : Nat → Nat → Nat} {xt : Nat → Nat} (ha : 0 < xt 0) (hb : 0 < xt 1 ∨ 0 < x 1 0) (hc : 0 < xt 2 ∨ 0 < x 2 0 ∨ 0 < x 2 1) : 0 < fl_P x xt := by
  rcases hb with hb | hb <;> rcases hc with hc | hc | hc <;> have m := Nat.mul_pos (Nat.mul_pos ha hb) hc <;> unfold fl_P <;> omega
theorem fl_g021 {x : Nat → Nat → Nat} {xt : Nat → Nat} (ha : 0 < xt 0) (hb : 0 < xt 2 ∨ 0 < x 2 0) (hc : 0 < xt 1 ∨ 0 < x 1 0 ∨ 0 < x 1 2) : 0 < fl_P x xt := by
  rcases hb with hb | hb <;> rcases hc with hc | hc | hc <;> have m := Nat.mul_pos (Nat.mul_pos ha hc) hb <;> unfold fl_P <;> omega
theorem fl_g102 {x : Nat → Nat → Nat} {xt : Nat → Nat} (ha : 0 < xt 1) (hb : 0 < xt 0 ∨ 0 < x 0 1) (hc : 0 < xt 2 ∨ 0 < x 2 1 ∨ 0 < x 2 0) : 0 < fl_P x xt := by
  rcases hb with hb | hb <;> rcases hc with hc | hc | hc <;> have m := Nat.mul_pos (Nat.mul_pos hb ha) hc <;> unfold fl_P <;> omega
theorem fl_g120 {x : Nat → Nat → Nat} {xt : Nat → Nat} (ha : 0 < xt 1) (hb : 0 < xt 2 ∨ 0 < x 2 1) (hc : 0 < xt 0 ∨ 0 < x 0 1 ∨ 0 < x 0 2) : 0 < fl_P x xt := by
  rcases hb with hb | hb <;> rcases hc with hc | hc | hc <;> have m := Nat.mul_pos (Nat.mul_pos hc ha) hb <;> unfold fl_P <;> omega
theorem fl_g201 {x : Nat → Nat → Nat} {xt : Nat → Nat} (ha : 0 < xt 2) (hb : 0 < xt 0 ∨ 0 < x 0 2) (hc : 0 < xt 1 ∨ 0 < x 1 2 ∨ 0 < x 1 0) : 0 < fl_P x xt := by
  rcases hb with hb | hb <;> rcases hc with hc | hc | hc <;> have m := Nat.mul_pos (Nat.mul_pos hb hc) ha <;> unfold fl_P <;> omega
theorem fl_g210 {x : Nat → Nat → Nat} {xt : Nat → Nat} (ha : 0 < xt 2) (hb : 0 < xt 1 ∨ 0 < x 1 2) (hc : 0 < xt 0 ∨ 0 < x 0 2 ∨ 0 < x 0 1) : 0 < fl_P x xt := by
  rcases hb with hb | hb <;> rcases hc with hc | hc | hc <;> have m := Nat.mul_pos (Nat.mul_pos hc hb) ha <;> unfold fl_P <;> omega
theorem fl_one {x : Nat → Nat → Nat} {xt : Nat → Nat} (H : fl_H x xt) (c : Nat) (hc : c < 3) : ∃ d, d < 3 ∧ d = c ∧ (0 < xt c ∨ ∃ e, e < 3 ∧ e ≠ c ∧ 0 < x c e) := by
  obtain ⟨r, h1, h2, h3⟩ := H (fun r => r = c) ⟨c, hc, rfl⟩
  subst h2
  exact ⟨r, h1, rfl, h3⟩
theorem fl_pos {x : Nat → Nat → Nat} {xt : Nat → Nat} (H : fl_H x xt) : 0 < fl_P x xt := by
  obtain ⟨a, ha, _, h1⟩ := H (fun _ => True) ⟨0, by decide, trivial⟩
  have ha1 : 0 < xt a := h1.elim id (fun ⟨c, _, z, _⟩ => absurd trivial z)
  have h2 : ∃ b, b < 3 ∧ b ≠ a ∧ (0 < xt b ∨ 0 < x b a) := by
    have hx : ∃ r, r < 3 ∧ r ≠ a := by
      by_cases e : a = 0
      · exact ⟨1, by decide, by omega⟩
      · exact ⟨0, by decide, by omega⟩
    obtain ⟨r, g1, g2, g3⟩ := H (fun r => r ≠ a) hx
    refine ⟨r, g1, g2, g3.imp id ?_⟩
    rintro ⟨c, c1, c2, c3⟩
    have e : c = a := Classical.byContradiction c2
    exact e ▸ c3
  obtain ⟨b, hb, hba, hb1⟩ := h2
  have h3 : ∃ c, c < 3 ∧ c ≠ a ∧ c ≠ b := by
    rcases (by omega : (a ≠ 0 ∧ b ≠ 0) ∨ (a ≠ 1 ∧ b ≠ 1) ∨ (a ≠ 2 ∧ b ≠ 2)) with h | h | h
    · exact ⟨0, by decide, by omega, by omega⟩
    · exact ⟨1, by decide, by omega, by omega⟩
    · exact ⟨2, by decide, by omega, by omega⟩
  obtain ⟨c, hc, hca, hcb⟩ := h3
  have hc1 : 0 < xt c ∨ 0 < x c a ∨ 0 < x c b := by
    obtain ⟨_, _, _, h⟩ := fl_one H c hc
    rcases h with h | ⟨e, e1, e2, e3⟩
    · exact .inl h
    · rcases (by omega : e = a ∨ e = b) with z | z
      · exact .inr (.inl (z ▸ e3))
      · exact .inr (.inr (z ▸ e3))
  rcases (by omega : (a = 0 ∧ b = 1 ∧ c = 2) ∨ (a = 0 ∧ b = 2 ∧ c = 1) ∨ (a = 1 ∧ b = 0 ∧ c = 2) ∨ (a = 1 ∧ b = 2 ∧ c = 0) ∨ (a = 2 ∧ b = 0 ∧ c = 1) ∨ (a = 2 ∧ b = 1 ∧ c = 0)) with ⟨e1, e2, e3⟩ | ⟨e1, e2, e3⟩ | ⟨e1, e2, e3⟩ | ⟨e1, e2, e3⟩ | ⟨e1, e2, e3⟩ | ⟨e1, e2, e3⟩ <;> subst e1 e2 e3
  · exact fl_g012 ha1 hb1 hc1
  · exact fl_g021 ha1 hb1 hc1
  · exact fl_g102 ha1 hb1 hc1
  · exact fl_g120 ha1 hb1 hc1
  · exact fl_g201 ha1 hb1 hc1
  · exact fl_g210 ha1 hb1 hc1
/-! bounds -/
theorem bd_mul {a b : Int} {x y : Nat} (ha : a.natAbs ≤ x) (hb : b.natAbs ≤ y) : (a * b).natAbs ≤ x * y := by
  rw [Int.natAbs_mul]; exact Nat.mul_le_mul ha hb
theorem bd_det {M : Nat → Nat → Int} (h : ∀ r c, r < 3 → c < 3 → (M r c).natAbs ≤ 36) : (dt_3 M).natAbs ≤ 279936 := by
  have H : ∀ r c, r < 3 → c < 3 → ∀ r' c', r' < 3 → c' < 3 → (M r c * M r' c').natAbs ≤ 1296 := fun r c h1 h2 r' c' h3 h4 => bd_mul (h r c h1 h2) (h r' c' h3 h4)
  have a1 := H 1 1 (by decide) (by decide) 2 2 (by decide) (by decide)
  have a2 := H 1 2 (by decide) (by decide) 2 1 (by decide) (by decide)
  have a3 := H 1 0 (by decide) (by decide) 2 2 (by decide) (by decide)
  have a4 := H 1 2 (by decide) (by decide) 2 0 (by decide) (by decide)
  have a5 := H 1 0 (by decide) (by decide) 2 1 (by decide) (by decide)
  have a6 := H 1 1 (by decide) (by decide) 2 0 (by decide) (by decide)
  have b1 : (M 1 1 * M 2 2 - M 1 2 * M 2 1).natAbs ≤ 2592 := by omega
  have b2 : (M 1 0 * M 2 2 - M 1 2 * M 2 0).natAbs ≤ 2592 := by omega
  have b3 : (M 1 0 * M 2 1 - M 1 1 * M 2 0).natAbs ≤ 2592 := by omega
  have c1 := bd_mul (h 0 0 (by decide) (by decide)) b1
  have c2 := bd_mul (h 0 1 (by decide) (by decide)) b2
  have c3 := bd_mul (h 0 2 (by decide) (by decide)) b3
  unfold dt_3
  generalize M 0 0 * (M 1 1 * M 2 2 - M 1 2 * M 2 1) = p at *
  generalize M 0 1 * (M 1 0 * M 2 2 - M 1 2 * M 2 0) = q at *
  generalize M 0 2 * (M 1 0 * M 2 1 - M 1 1 * M 2 0) = r at *
  omega
/-! held rows as flows -/
noncomputable def ci_n (p : Prop) (a b : Nat) : Nat := @ite Nat p (Classical.propDecidable p) a b
theorem cn_t {p : Prop} {a b : Nat} (h : p) : ci_n p a b = a := by unfold ci_n; rw [if_pos h]
theorem cn_f {p : Prop} {a b : Nat} (h : ¬ p) : ci_n p a b = b := by unfold ci_n; rw [if_neg h]
noncomputable def cs_M (w : Nat → Nat → Nat) (wt : Nat → Nat) (K : Nat → Prop) (r c : Nat) : Int := ci_i (K r) (if r = c then 1 else 0) (fl_M w wt r c)
noncomputable def cs_b (b : Nat → Nat) (K : Nat → Prop) (r : Nat) : Int := ci_i (K r) 0 (b r : Int)
noncomputable def ef_x (w : Nat → Nat → Nat) (K : Nat → Prop) (r c : Nat) : Nat := ci_n (K r) 0 (w r c)
noncomputable def ef_t (wt : Nat → Nat) (K : Nat → Prop) (r : Nat) : Nat := ci_n (K r) 1 (wt r)
theorem ef_M (w : Nat → Nat → Nat) (wt : Nat → Nat) (K : Nat → Prop) (r c : Nat) : cs_M w wt K r c = fl_M (ef_x w K) (ef_t wt K) r c := by
  unfold cs_M fl_M ef_x ef_t
  by_cases h : K r
  · simp only [ci_t h, cn_t h]
    split <;> rfl
  · simp only [ci_f h, cn_f h]
theorem ef_b (b : Nat → Nat) (K : Nat → Prop) (r : Nat) : cs_b b K r = (ci_n (K r) 0 (b r) : Nat) := by
  unfold cs_b
  by_cases h : K r
  · rw [ci_t h, cn_t h]; rfl
  · rw [ci_f h, cn_f h]
/-- the times' system -/
theorem tm_sys (w : Nat → Nat → Nat) (wt b : Nat → Nat) (K : Nat → Prop) (hw : ∀ r, r < 3 → w r r = 0) (H : fl_H (ef_x w K) (ef_t wt K)) :
    ∃ d : Nat, 0 < d ∧ dt_3 (cs_M w wt K) = (d : Int) ∧ ∀ k, k < 3 → ∃ n : Nat, dt_3 (xs_N k (cs_M w wt K) (cs_b b K)) = (n : Int) := by
  have e : ∀ r, r < 3 → ef_x w K r r = 0 := fun r hr => by
    unfold ef_x
    by_cases h : K r
    · exact cn_t h
    · rw [cn_f h]; exact hw r hr
  have e0 := e 0 (by decide)
  have e1 := e 1 (by decide)
  have e2 := e 2 (by decide)
  refine ⟨fl_P (ef_x w K) (ef_t wt K), fl_pos H, ?_, fun k hk => ?_⟩
  · rw [dt_c3 (fun r c _ _ => ef_M w wt K r c)]
    exact fl_det _ _ e0 e1 e2
  · obtain ⟨n, hn⟩ := fl_num k hk (ef_x w K) (ef_t wt K) (fun r => ci_n (K r) 0 (b r)) e0 e1 e2
    refine ⟨n, hn ▸ dt_c3 (fun r c _ _ => ?_)⟩
    unfold xs_N
    rw [ef_b, ef_M]
