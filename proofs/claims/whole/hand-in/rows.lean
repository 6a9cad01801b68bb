section
/-! pure rows to paste: stores, nI and lN arithmetic, masks, shifts, narrowing, branches by naturals (pk_le, pk_lt, pk_eq), loops (lp1 .. lp16: the measure of the state; rp1 ..: recursion), negatives. Take what you need -/
theorem pk_us {f : Nat → Int32} {k : Nat} {x : Int32} : upd f k x k = x := if_pos rfl
theorem pk_un {f : Nat → Int32} {k j : Nat} {x : Int32} (h : j ≠ k) : upd f k x j = f j := if_neg h
theorem pk_uLs {f : Nat → Int64} {k : Nat} {x : Int64} : vp_updL f k x k = x := if_pos rfl
theorem pk_uLn {f : Nat → Int64} {k j : Nat} {x : Int64} (h : j ≠ k) : vp_updL f k x j = f j := if_neg h
theorem pk_sub {a b : Nat} (h : b ≤ a) : nI a - nI b = nI (a - b) := by
  obtain ⟨c, rfl⟩ : ∃ c, a = c + b := ⟨a - b, by omega⟩
  rw [← nI_add, Int32.add_sub_cancel, Nat.add_sub_cancel]
theorem pk_m1 (n : Nat) : nI (n + 1) + (-1) = nI n := by
  rw [← nI_1, Int32.add_assoc, show (1 : Int32) + (-1) = 0 from rfl, Int32.add_zero]
theorem pk_mul (a b : Nat) : nI a * nI b = nI (a * b) := (Int32.ofNat_mul a b).symm
theorem pk_div {a d : Nat} (ha : a < 2 ^ 31) (h0 : 0 < d) (hd : d < 2 ^ 31) : nI a / nI d = nI (a / d) := by
  apply Int32.toInt_inj.mp
  rw [lg_idiv_nonneg (by rw [nI_toInt ha]; omega) (by rw [nI_toInt hd]; omega), nI_toInt ha, nI_toInt hd, nI_toInt (Nat.lt_of_le_of_lt (Nat.div_le_self a d) ha)]
  first | rfl | exact (Int.natCast_ediv _ _).symm
theorem pk_rem {a d : Nat} (ha : a < 2 ^ 31) (h0 : 0 < d) (hd : d < 2 ^ 31) : nI a - nI a / nI d * nI d = nI (a % d) := by
  rw [pk_div ha h0 hd, pk_mul, pk_sub (Nat.div_mul_le_self a d)]
  exact congrArg nI (by have := Nat.div_add_mod' a d; omega)
theorem pk_ix (x : Int32) {n : Nat} (hn : n < 2 ^ 31) : x < 0 ∨ nI n ≤ x ∨ ∃ j : Nat, j < n ∧ x = nI j := by
  by_cases h : x < 0
  · exact Or.inl h
  · obtain ⟨j, hj, rfl⟩ := nI_of h
    by_cases h2 : j < n
    · exact Or.inr (Or.inr ⟨j, h2, rfl⟩)
    · exact Or.inr (Or.inl (nI_le (by omega) hj))
theorem pk_le {x y : Int32} {A B : Prop} (a b : Nat) (f : a ≤ b → A) (g : b < a → B) (hx : x = nI a := by rfl) (hy : y = nI b := by rfl) (ha : a < 2 ^ 31 := by omega) (hb : b < 2 ^ 31 := by omega) : (x ≤ y → A) ∧ (¬ x ≤ y → B) := by
  subst hx hy
  rw [nI_leI ha hb]
  exact ⟨f, fun z => g (by omega)⟩
theorem pk_lt {x y : Int32} {A B : Prop} (a b : Nat) (f : a < b → A) (g : b ≤ a → B) (hx : x = nI a := by rfl) (hy : y = nI b := by rfl) (ha : a < 2 ^ 31 := by omega) (hb : b < 2 ^ 31 := by omega) : (x < y → A) ∧ (¬ x < y → B) := by
  subst hx hy
  rw [nI_ltI ha hb]
  exact ⟨f, fun z => g (by omega)⟩
theorem pk_eq {x y : Int32} {A B : Prop} (a b : Nat) (f : a = b → A) (g : a ≠ b → B) (hx : x = nI a := by rfl) (hy : y = nI b := by rfl) (ha : a < 2 ^ 31 := by omega) (hb : b < 2 ^ 31 := by omega) : (x = y → A) ∧ (¬ x = y → B) := by
  subst hx hy
  rw [nI_eq ha hb]
  exact ⟨f, g⟩
theorem pk_in {x : Int32} (n N : Nat) (h : n < N) (hx : x = nI n := by rfl) (hN : N < 2 ^ 31 := by omega) : vp_in x N := by
  subst hx
  exact vp_in_nI h hN
theorem pk_cl {x : Int32} (n : Nat) (hx : x = nI n := by rfl) (h : n < 2 ^ 31 := by omega) : x.toNatClampNeg = n := by
  subst hx
  exact nI_clamp h
theorem pk_tn {n : Nat} (h : n < 2 ^ 32) : (nI n).toBitVec.toNat = n := Nat.mod_eq_of_lt h
theorem pk_and (x : Int32) {m : Int32} (k : Nat) (hm : m.toBitVec.toNat = 2 ^ k - 1) : x &&& m = nI (x.toBitVec.toNat % 2 ^ k) := by
  apply Int32.toBitVec_inj.mp
  apply BitVec.eq_of_toNat_eq
  rw [Int32.toBitVec_and, BitVec.toNat_and, hm, Nat.and_two_pow_sub_one_eq_mod]
  show _ = (BitVec.ofNat 32 _).toNat
  rw [BitVec.toNat_ofNat]
  exact (Nat.mod_eq_of_lt (Nat.lt_of_le_of_lt (Nat.mod_le _ _) x.toBitVec.isLt)).symm
theorem pk_andN {n : Nat} (h : n < 2 ^ 32) {m : Int32} (k : Nat) (hm : m.toBitVec.toNat = 2 ^ k - 1) : nI n &&& m = nI (n % 2 ^ k) := by
  rw [pk_and _ k hm, pk_tn h]
theorem pk_andE (x : Int32) {m : Int32} (k : Nat) (hm : m.toBitVec.toNat = 2 ^ k - 1) : ∃ j : Nat, j < 2 ^ k ∧ x &&& m = nI j := ⟨_, Nat.mod_lt _ (Nat.two_pow_pos k), pk_and x k hm⟩
theorem pk_andIn (x : Int32) {m : Int32} (k : Nat) (hm : m.toBitVec.toNat = 2 ^ k - 1) (hk : k ≤ 30) : vp_in (x &&& m) (2 ^ k) := by
  obtain ⟨j, hj, e⟩ := pk_andE x k hm
  rw [e]
  exact vp_in_nI hj (Nat.lt_of_le_of_lt (Nat.pow_le_pow_right (by decide) hk) (by decide))
theorem pk_shl (a s : Int32) (k : Nat) (hs : (s.toBitVec.smod 32).toNat = k) : (a <<< s).toBitVec.toNat = a.toBitVec.toNat * 2 ^ k % 2 ^ 32 := by
  show (a.toBitVec <<< (s.toBitVec.smod 32).toNat).toNat = _
  rw [hs, BitVec.toNat_shiftLeft, Nat.shiftLeft_eq]
theorem pk_shlN {n : Nat} (s : Int32) (k : Nat) (hs : (s.toBitVec.smod 32).toNat = k) (h : n * 2 ^ k < 2 ^ 32) : nI n <<< s = nI (n * 2 ^ k) := by
  apply Int32.toBitVec_inj.mp
  apply BitVec.eq_of_toNat_eq
  have hn : n < 2 ^ 32 := Nat.lt_of_le_of_lt (Nat.le_mul_of_pos_right n (Nat.two_pow_pos k)) h
  rw [pk_shl _ _ k hs, pk_tn hn, pk_tn h, Nat.mod_eq_of_lt h]
theorem pk_shr (a s : Int32) (k : Nat) (hs : (s.toBitVec.smod 32).toNat = k) : (a >>> s).toInt = a.toInt >>> k := by
  show (a.toBitVec.sshiftRight (s.toBitVec.smod 32).toNat).toInt = _
  rw [hs, BitVec.toInt_sshiftRight]
  rfl
theorem pk_shrN {n : Nat} (h : n < 2 ^ 31) (s : Int32) (k : Nat) (hs : (s.toBitVec.smod 32).toNat = k) : nI n >>> s = nI (n / 2 ^ k) := by
  apply Int32.toInt_inj.mp
  have h2 : n / 2 ^ k ≤ n := Nat.div_le_self _ _
  rw [pk_shr _ _ k hs, nI_toInt h, nI_toInt (by omega), Int.shiftRight_eq_div_pow]
  rfl
theorem pk_ushr (x s : Int32) (k : Nat) (hs : ((s.toUInt32 &&& Int32.toUInt32 31).toBitVec % 32).toNat = k) : (x.toUInt32 >>> (s.toUInt32 &&& Int32.toUInt32 31)).toInt32.toBitVec.toNat = x.toBitVec.toNat / 2 ^ k := by
  have e : (x.toUInt32 >>> (s.toUInt32 &&& Int32.toUInt32 31)).toInt32.toBitVec = x.toBitVec >>> k := by
    rw [← hs]
    exact UInt32.toBitVec_shiftRight _ _
  rw [e, BitVec.toNat_ushiftRight, Nat.shiftRight_eq_div_pow]
theorem pk_ushrN {n : Nat} (hn : n < 2 ^ 32) (s : Int32) (k : Nat) (hs : ((s.toUInt32 &&& Int32.toUInt32 31).toBitVec % 32).toNat = k) : ((nI n).toUInt32 >>> (s.toUInt32 &&& Int32.toUInt32 31)).toInt32 = nI (n / 2 ^ k) := by
  apply Int32.toBitVec_inj.mp
  apply BitVec.eq_of_toNat_eq
  rw [pk_ushr _ s k hs, pk_tn hn, pk_tn (Nat.lt_of_le_of_lt (Nat.div_le_self _ _) hn)]
theorem pk_lT {n : Nat} (h : n < 2 ^ 63) : (lN n).toInt = (n : Int) := lg_ofNat_toInt h
theorem pk_lLT {a b : Nat} (ha : a < 2 ^ 63) (hb : b < 2 ^ 63) : lN a < lN b ↔ a < b := by
  rw [Int64.lt_iff_toInt_lt, pk_lT ha, pk_lT hb]; omega
theorem pk_lLE {a b : Nat} (ha : a < 2 ^ 63) (hb : b < 2 ^ 63) : lN a ≤ lN b ↔ a ≤ b := by
  rw [Int64.le_iff_toInt_le, pk_lT ha, pk_lT hb]; omega
theorem pk_lEQ {a b : Nat} (ha : a < 2 ^ 63) (hb : b < 2 ^ 63) : lN a = lN b ↔ a = b := by
  rw [← Int64.toInt_inj, pk_lT ha, pk_lT hb]; omega
theorem pk_lOf {x : Int64} (h : ¬ x < 0) : ∃ k : Nat, k < 2 ^ 63 ∧ x = lN k := by
  rw [Int64.lt_iff_toInt_lt] at h
  have h0 : (0 : Int64).toInt = 0 := by decide
  have hx := Int64.toInt_lt x
  refine ⟨x.toInt.toNat, by omega, Int64.toInt_inj.mp ?_⟩
  rw [pk_lT (by omega)]
  omega
theorem pk_lDiv {a b : Nat} (ha : a < 2 ^ 63) (h0 : 0 < b) (hb : b < 2 ^ 63) : lN a / lN b = lN (a / b) := by
  apply Int64.toInt_inj.mp
  rw [lg_ldiv_nonneg (by rw [pk_lT ha]; omega) (by rw [pk_lT hb]; omega), pk_lT ha, pk_lT hb, pk_lT (Nat.lt_of_le_of_lt (Nat.div_le_self a b) ha)]
  rfl
theorem pk_lRem {a b : Nat} (ha : a < 2 ^ 63) (h0 : 0 < b) (hb : b < 2 ^ 63) : lN a - lN a / lN b * lN b = lN (a % b) := by
  rw [pk_lDiv ha h0 hb, lN_mul, lN_sub (Nat.div_mul_le_self a b)]
  exact congrArg lN (by have := Nat.div_add_mod' a b; omega)
theorem pk_loop {σ : Type} (W : Nat → Nat → σ → Prop) (I : Nat → σ → Prop) (e i0 : Nat) (s : σ) (hi : i0 ≤ e) (h0 : I i0 s) (hx : ∀ n s, I e s → W (n + 1) e s)
    (hs : ∀ n i s, i < e → I i s → (∀ s', I (i + 1) s' → W n (i + 1) s') → W (n + 1) i s) : ∃ n, W n i0 s :=
  ⟨e + 1, loop_i W I e hx hs (e + 1) i0 s hi (by omega) h0⟩
theorem pk_loopD {σ : Type} (W : Nat → Nat → σ → Prop) (I : Nat → σ → Prop) (hx : ∀ n s, I 0 s → W (n + 1) 0 s)
    (hs : ∀ n i s, I (i + 1) s → (∀ s', I i s' → W n i s') → W (n + 1) (i + 1) s) : ∀ (e : Nat) (s : σ), I e s → W (e + 1) e s := by
  intro e
  induction e with
  | zero => exact fun s h => hx 0 s h
  | succ e ih => exact fun s h => hs (e + 1) e s h (fun s' h' => ih s' h')
theorem s_l : ∀ n, n < 32 → ((nI n &&& 31).toBitVec.smod 32).toNat = n := by decide +kernel
/-! my own base rows -/
theorem bs_le4 : (4 : Int32) ≤ nI 4 := by decide
theorem bs_le3 : (3 : Int32) ≤ nI 3 := by decide
theorem bs_le64 : (64 : Int32) ≤ nI 64 := by decide
theorem bs_le256 : (256 : Int32) ≤ nI 256 := by decide
theorem bs_ge4 {i : Nat} (h : i < 4) : ¬ (4 : Int32) ≤ nI i := nI_ge (b := 4) h (by decide)
theorem bs_ge3 {i : Nat} (h : i < 3) : ¬ (3 : Int32) ≤ nI i := nI_ge (b := 3) h (by decide)
theorem bs_ge64 {i : Nat} (h : i < 64) : ¬ (64 : Int32) ≤ nI i := nI_ge (b := 64) h (by decide)
theorem bs_ge256 {i : Nat} (h : i < 256) : ¬ (256 : Int32) ≤ nI i := nI_ge (b := 256) h (by decide)
theorem bs_ix (a b : Nat) : nI a * 4 + nI b = nI (4 * a + b) := by
  have e : nI a * 4 = nI (a * 4) := pk_mul a 4
  rw [e, nI_add, Nat.mul_comm]
theorem bs_iy (a b : Nat) : 4 * nI a + nI b = nI (4 * a + b) := by
  have e : 4 * nI a = nI (4 * a) := pk_mul 4 a
  rw [e, nI_add]
theorem bs_i3 (a b : Nat) : nI a * 3 + nI b = nI (3 * a + b) := by
  have e : nI a * 3 = nI (a * 3) := pk_mul a 3
  rw [e, nI_add, Nat.mul_comm]
theorem bs_nar1 : vp_nar .boolean 1 = 1 := by rfl
theorem bs_nar0 : vp_nar .boolean 0 = 0 := by rfl
theorem bs_shl1 : ∀ j, j < 4 → (1 : Int32) <<< (nI j &&& 31) = nI (2 ^ j) := by decide +kernel
theorem bs_bit : ∀ m, m < 16 → ∀ j, j < 4 → (nI m >>> (nI j &&& 31)) &&& 1 = if m.testBit j then 1 else 0 := by decide +kernel
theorem bs_or : ∀ m, m < 16 → ∀ k, k < 4 → nI m ||| ((1 : Int32) <<< (nI k &&& 31)) = nI (m ||| 2 ^ k) := by decide +kernel
theorem bs_or16 : ∀ m, m < 16 → ∀ k, k < 4 → m ||| 2 ^ k < 16 := by decide +kernel
theorem bs_orb : ∀ m, m < 16 → ∀ k, k < 4 → ∀ j, j < 4 → (m ||| 2 ^ k).testBit j = (m.testBit j || decide (j = k)) := by decide +kernel
theorem bs_orI : ∀ m, m < 16 → ∀ k, k < 4 → m.testBit k = true → m ||| 2 ^ k = m := by decide +kernel
theorem bs_one : ∀ k, k < 4 → 2 ^ k < 16 ∧ ∀ j, j < 4 → (2 ^ k).testBit j = decide (j = k) := by decide +kernel
theorem bs_br1 {m j : Nat} {A B : Prop} (hm : m < 16) (hj : j < 4) (f : m.testBit j = true → A) (g : ¬ m.testBit j = true → B) :
    (((nI m >>> (nI j &&& 31)) &&& 1) = 1 → A) ∧ (¬ ((nI m >>> (nI j &&& 31)) &&& 1) = 1 → B) := by
  rw [bs_bit m hm j hj]
  by_cases h : m.testBit j = true
  · rw [if_pos h]; exact br_t rfl (f h)
  · rw [if_neg h]; exact br_f (by decide) (g h)
theorem bs_br0 {m j : Nat} {A B : Prop} (hm : m < 16) (hj : j < 4) (f : ¬ m.testBit j = true → A) (g : m.testBit j = true → B) :
    (((nI m >>> (nI j &&& 31)) &&& 1) = 0 → A) ∧ (¬ ((nI m >>> (nI j &&& 31)) &&& 1) = 0 → B) := by
  rw [bs_bit m hm j hj]
  by_cases h : m.testBit j = true
  · rw [if_pos h]; exact br_f (by decide) (g h)
  · rw [if_neg h]; exact br_t rfl (f h)
/-- a proposition as a Java boolean -/
noncomputable def cx_b (p : Prop) : Int32 := @ite Int32 p (Classical.propDecidable p) 1 0
theorem cx_t {p : Prop} (h : p) : cx_b p = 1 := by unfold cx_b; rw [if_pos h]
theorem cx_f {p : Prop} (h : ¬ p) : cx_b p = 0 := by unfold cx_b; rw [if_neg h]
theorem cx_c {p q : Prop} (h : p ↔ q) : cx_b p = cx_b q := congrArg cx_b (propext h)
theorem cx_br0 {p A B : Prop} (f : ¬ p → A) (g : p → B) : (cx_b p = 0 → A) ∧ (¬ cx_b p = 0 → B) := by
  by_cases h : p
  · rw [cx_t h]; exact br_f (by decide) (g h)
  · rw [cx_f h]; exact br_t rfl (f h)
theorem cx_nar (p : Prop) : narrow .boolean (.int (cx_b p)) = .int (cx_b p) := by
  by_cases h : p
  · rw [cx_t h]; rfl
  · rw [cx_f h]; rfl
/-- arguments: a state or none -/
theorem cx_st (x : Int32) : (x < 0 ∨ nI 4 ≤ x) ∨ ∃ i : Nat, i < 4 ∧ x = nI i := by
  rcases pk_ix x (n := 4) (by decide) with h | h | h
  · exact .inl (.inl h)
  · exact .inl (.inr h)
  · exact .inr h
theorem cx_isOk {post : Int32 → Prop} {i : Nat} (hi : i < 4) (h : post 1) : wpX_isState post (nI i) :=
  br_f (nI_pos (by omega)) (br_f (bs_ge4 hi) h)
theorem cx_isNo {post : Int32 → Prop} {x : Int32} (hx : x < 0 ∨ nI 4 ≤ x) (h : post 0) : wpX_isState post x := by
  by_cases h0 : x < 0
  · exact br_t h0 h
  · exact br_f h0 (br_t (hx.resolve_left h0) h)
theorem cy_badOk {post : Int32 → Prop} {i : Nat} (hi : i < 4) (h : post 0) : wpY_bad post (nI i) :=
  br_f (nI_pos (by omega)) (br_t (nI_le (b := 3) (by omega) (by decide)) h)
theorem cy_badNo {post : Int32 → Prop} {x : Int32} (hx : x < 0 ∨ nI 4 ≤ x) (h : post 1) : wpY_bad post x := by
  by_cases h0 : x < 0
  · exact br_t h0 h
  · refine br_f h0 (br_f ?_ h)
    have h4 := hx.resolve_left h0
    intro h3
    have a := Int32.le_trans h4 h3
    exact absurd a (by decide)
end
section
/-! ===== reachability, and how X finds it ===== -/
def rt_R (E : Nat → Nat → Prop) (i j : Nat) : Prop := ∀ S : Nat → Prop, S i → (∀ a b, a < 4 → b < 4 → S a → E a b → S b) → S j
theorem rt_refl {E : Nat → Nat → Prop} (i : Nat) : rt_R E i i := fun _ h _ => h
theorem rt_edge {E : Nat → Nat → Prop} {i a b : Nat} (ha : a < 4) (hb : b < 4) (h : rt_R E i a) (e : E a b) : rt_R E i b :=
  fun S hi hc => hc a b ha hb (h S hi hc) e
theorem rt_trans {E : Nat → Nat → Prop} {i j k : Nat} (h : rt_R E i j) (g : rt_R E j k) : rt_R E i k :=
  fun S hi hc => g S (h S hi hc) hc
theorem rt_congr {E F : Nat → Nat → Prop} (h : ∀ a b, a < 4 → b < 4 → (E a b ↔ F a b)) (i j : Nat) : rt_R E i j ↔ rt_R F i j :=
  ⟨fun r S hi hc => r S hi (fun a b ha hb s e => hc a b ha hb s ((h a b ha hb).mp e)),
   fun r S hi hc => r S hi (fun a b ha hb s e => hc a b ha hb s ((h a b ha hb).mpr e))⟩
/-- Warshall's steps -/
def wa_P (E : Nat → Nat → Prop) : Nat → Nat → Nat → Prop
  | 0 => fun i j => i = j ∨ E i j
  | v + 1 => fun i j => wa_P E v i j ∨ (wa_P E v i v ∧ wa_P E v v j)
theorem wa_mono {E : Nat → Nat → Prop} {i j : Nat} : ∀ v, wa_P E 0 i j → wa_P E v i j
  | 0, h => h
  | v + 1, h => .inl (wa_mono v h)
theorem wa_trans {E : Nat → Nat → Prop} : ∀ v i m j, m < v → wa_P E v i m → wa_P E v m j → wa_P E v i j
  | 0, _, _, _, h, _, _ => absurd h (Nat.not_lt_zero _)
  | v + 1, i, m, j, h, p, q => by
    have ih := wa_trans (E := E) v
    by_cases e : m = v
    · subst e
      have p' : wa_P E m i m := by rcases p with p | p; exact p; exact p.1
      have q' : wa_P E m m j := by rcases q with q | q; exact q; exact q.2
      exact .inr ⟨p', q'⟩
    · have hm : m < v := by omega
      rcases p with p | p <;> rcases q with q | q
      · exact .inl (ih i m j hm p q)
      · exact .inr ⟨ih i m v hm p q.1, q.2⟩
      · exact .inr ⟨p.1, ih v m j hm p.2 q⟩
      · exact .inr ⟨p.1, q.2⟩
theorem wa_sound {E : Nat → Nat → Prop} : ∀ v i j, v ≤ 4 → i < 4 → j < 4 → wa_P E v i j → rt_R E i j
  | 0, i, j, _, hi, hj, h => by
    rcases h with h | h
    · exact h ▸ rt_refl i
    · exact rt_edge hi hj (rt_refl i) h
  | v + 1, i, j, hv, hi, hj, h => by
    rcases h with h | h
    · exact wa_sound v i j (by omega) hi hj h
    · exact rt_trans (wa_sound v i v (by omega) hi (by omega) h.1) (wa_sound v v j (by omega) (by omega) hj h.2)
theorem wa_iff {E : Nat → Nat → Prop} {i j : Nat} (hi : i < 4) (hj : j < 4) : wa_P E 4 i j ↔ rt_R E i j := by
  refine ⟨wa_sound 4 i j (Nat.le_refl 4) hi hj, fun h => ?_⟩
  refine h (fun k => wa_P E 4 i k) (wa_mono 4 (.inl rfl)) ?_
  intro a b ha hb hs e
  exact wa_trans 4 i a b ha hs (wa_mono 4 (.inr e))
theorem wa_colv {E : Nat → Nat → Prop} {v i : Nat} : wa_P E (v + 1) i v ↔ wa_P E v i v :=
  ⟨fun h => by rcases h with h | h; exact h; exact h.1, .inl⟩
theorem wa_rowv {E : Nat → Nat → Prop} {v j : Nat} : wa_P E (v + 1) v j ↔ wa_P E v v j :=
  ⟨fun h => by rcases h with h | h; exact h; exact h.2, .inl⟩
/-- what the array 'reached' says -/
def cx_Re (P : Nat → Nat → Prop) (re : Nat → Int32) : Prop := ∀ a b, a < 4 → b < 4 → re (4 * a + b) = cx_b (P a b)
theorem cx_can {post : Int32 → Prop} {fu fl : Int32} {ra re ma ri : Nat → Int32} {p : Prop} {a b : Nat} (ha : a < 4) (hb : b < 4)
    (hre : re (4 * a + b) = cx_b p) (h : post (cx_b p)) : wpX_canReach post (fu, fl, ra, re, ma, ri) (nI a) (nI b) := by
  unfold wpX_canReach
  dsimp only
  rw [bs_ix, nI_clamp (by omega), hre]
  exact ⟨vp_in_nI (by omega) (by decide), cx_nar p, h⟩
def xr_E (R : Nat → Nat) (stop : Int32) (a b : Nat) : Prop := ¬ nI a = stop ∧ 0 < R (4 * a + b)
def xr_I (E : Nat → Nat → Prop) (k : Nat) (re : Nat → Int32) : Prop := ∀ n, n < k → re n = cx_b (wa_P E 0 (n / 4) (n % 4))
theorem xr_Is {E : Nat → Nat → Prop} {re : Nat → Int32} {a b : Nat} {x : Int32} (hb : b < 4) (h : xr_I E (4 * a + b) re) (hx : x = cx_b (wa_P E 0 a b)) :
    xr_I E (4 * a + (b + 1)) (upd re (4 * a + b) x) := by
  intro n hn
  by_cases e : n = 4 * a + b
  · subst e
    rw [pk_us, hx, show (4 * a + b) / 4 = a by omega, show (4 * a + b) % 4 = b by omega]
  · rw [pk_un e]; exact h n (by omega)
theorem xr_9 {post : SX → Prop} {J2 : Int32 → (Nat → Int32) → (Nat → Int32) → (Nat → Int32) → (Nat → Int32) → Prop} {x1 fu fl : Int32} {R : Nat → Nat} {re ma ri : Nat → Int32} {a : Nat}
    (ha : a < 4) (hR : ∀ n, R n ≤ 9) (h0 : xr_I (xr_E R x1) (4 * a) re)
    (h : ∀ re', xr_I (xr_E R x1) (4 * (a + 1)) re' → J2 (nI (a + 1)) (fun n => nI (R n)) re' ma ri) :
    ∃ n, wX_findReached_9 post J2 x1 (nI a) fu fl n 0 (fun n => nI (R n)) re ma ri := by
  refine loop_0 (fun n i s => wX_findReached_9 post J2 x1 (nI a) fu fl n (nI i) (fun n => nI (R n)) s ma ri) (fun i s => xr_I (xr_E R x1) (4 * a + i) s) 4 re h0 ?_ ?_
  · intro n s hs
    exact br_t bs_le4 (nm_r (nI_1 a) (h s hs))
  · intro n i s hi hs ih
    have hin : vp_in (nI (4 * a + i)) 16 := vp_in_nI (by omega) (by decide)
    have hcl : (nI (4 * a + i)).toNatClampNeg = 4 * a + i := nI_clamp (by omega)
    have hw : ∀ x : Int32, x = cx_b (wa_P (xr_E R x1) 0 a i) → ∀ y, y = upd s (nI (4 * a + i)).toNatClampNeg x → ∀ z : Int32, z = nI i + 1 → wX_findReached_9 post J2 x1 (nI a) fu fl n z (fun n => nI (R n)) y ma ri := by
      intro x hx y ey z ez
      rw [ey, ez, hcl, nI_1]
      exact ih _ (xr_Is hi hs hx)
    refine br_f (bs_ge4 hi) (nm_r (bs_ix a i) (pk_eq a i (fun e => ⟨hin, hw _ ?_⟩) (fun e => br_c (fun es => ⟨hin, hw _ ?_⟩) (fun es => ⟨hin, br_c (fun er => ⟨hin, hw _ ?_⟩) (fun er => ⟨hin, hw _ ?_⟩)⟩))))
    · rw [bs_nar1, cx_t]; exact .inl e
    · rw [bs_nar0, cx_f]; rintro (h | h); exact e h; exact h.1 es
    · rw [bs_nar0, cx_f]; rintro (h | h); exact e h
      have hr : nI (R (4 * a + i)) ≤ 0 := hcl ▸ er
      exact nI_nle h.2 (by have := hR (4 * a + i); omega) hr
    · rw [bs_nar1, cx_t]
      refine .inr ⟨es, ?_⟩
      have hr : ¬ nI (R (4 * a + i)) ≤ 0 := hcl ▸ er
      rcases Nat.eq_zero_or_pos (R (4 * a + i)) with z | z
      · rw [z] at hr; exact absurd (by decide) hr
      · exact z
def xr_W (E : Nat → Nat → Prop) (v k : Nat) (re : Nat → Int32) : Prop := ∀ a b, a < 4 → b < 4 → re (4 * a + b) = cx_b (if 4 * a + b < k then wa_P E (v + 1) a b else wa_P E v a b)
theorem xr_Wcol {E : Nat → Nat → Prop} {v k a : Nat} {re : Nat → Int32} (h : xr_W E v k re) (ha : a < 4) (hv : v < 4) : re (4 * a + v) = cx_b (wa_P E v a v) := by
  rw [h a v ha hv]
  split
  · exact cx_c wa_colv
  · rfl
theorem xr_Wrow {E : Nat → Nat → Prop} {v k b : Nat} {re : Nat → Int32} (h : xr_W E v k re) (hb : b < 4) (hv : v < 4) : re (4 * v + b) = cx_b (wa_P E v v b) := by
  rw [h v b hv hb]
  split
  · exact cx_c wa_rowv
  · rfl
theorem xr_Ws1 {E : Nat → Nat → Prop} {v a b : Nat} {re : Nat → Int32} (h : xr_W E v (4 * a + b) re) (hn : ¬ (wa_P E v a v ∧ wa_P E v v b)) (hb : b < 4) : xr_W E v (4 * a + (b + 1)) re := by
  intro c d hc hd
  rw [h c d hc hd]
  by_cases e : 4 * c + d = 4 * a + b
  · have e1 : c = a := by omega
    have e2 : d = b := by omega
    subst e1 e2
    rw [if_neg (by omega), if_pos (by omega)]
    exact cx_c ⟨.inl, fun h => by rcases h with h | h; exact h; exact absurd h hn⟩
  · by_cases l : 4 * c + d < 4 * a + b
    · rw [if_pos l, if_pos (by omega)]
    · rw [if_neg l, if_neg (by omega)]
theorem xr_Ws2 {E : Nat → Nat → Prop} {v a b : Nat} {re : Nat → Int32} (h : xr_W E v (4 * a + b) re) (hp : wa_P E v a v ∧ wa_P E v v b) (hb : b < 4) : xr_W E v (4 * a + (b + 1)) (upd re (4 * a + b) 1) := by
  intro c d hc hd
  by_cases e : 4 * c + d = 4 * a + b
  · have e1 : c = a := by omega
    have e2 : d = b := by omega
    subst e1 e2
    rw [pk_us, if_pos (by omega), cx_t]; exact .inr hp
  · rw [pk_un e, h c d hc hd]
    by_cases l : 4 * c + d < 4 * a + b
    · rw [if_pos l, if_pos (by omega)]
    · rw [if_neg l, if_neg (by omega)]
theorem xr_82 {post : SX → Prop} {J67 J74 : Int32 → (Nat → Int32) → (Nat → Int32) → (Nat → Int32) → (Nat → Int32) → Prop} {fu fl : Int32} {E : Nat → Nat → Prop} {ra re ma ri : Nat → Int32} {v a : Nat}
    (hv : v < 4) (ha : a < 4) (h0 : xr_W E v (4 * a) re)
    (h : ∀ re', xr_W E v (4 * (a + 1)) re' → J74 (nI (a + 1)) ra re' ma ri) :
    ∃ n, wX_findReached_82 post J67 J74 (nI v) (nI a) fu fl n 0 ra re ma ri := by
  refine loop_0 (fun n i s => wX_findReached_82 post J67 J74 (nI v) (nI a) fu fl n (nI i) ra s ma ri) (fun i s => xr_W E v (4 * a + i) s) 4 re h0 ?_ ?_
  · intro n s hs
    exact br_t bs_le4 (nm_r (nI_1 a) (h s hs))
  · intro n i s hi hs ih
    have hin : vp_in (nI (4 * a + i)) 16 := vp_in_nI (by omega) (by decide)
    have hcl : (nI (4 * a + i)).toNatClampNeg = 4 * a + i := nI_clamp (by omega)
    refine br_f (bs_ge4 hi) (cx_can ha hv (xr_Wcol hs ha hv) (cx_br0 (fun hn => nm_r (nI_1 i) (ih s (xr_Ws1 hs (fun z => hn z.1) hi))) (fun hp => cx_can hv hi (xr_Wrow hs hi hv) (cx_br0 (fun hn => nm_r (nI_1 i) (ih s (xr_Ws1 hs (fun z => hn z.2) hi))) (fun hq => ?_)))))
    rw [bs_ix, hcl, bs_nar1]
    exact ⟨hin, nm_e (nm_r (nI_1 i) (ih _ (xr_Ws2 hs ⟨hp, hq⟩ hi)))⟩
theorem xr_W0 {E : Nat → Nat → Prop} {v : Nat} {re : Nat → Int32} (h : cx_Re (wa_P E v) re) : xr_W E v 0 re := by
  intro a b ha hb
  rw [if_neg (by omega)]; exact h a b ha hb
theorem xr_W16 {E : Nat → Nat → Prop} {v : Nat} {re : Nat → Int32} (h : xr_W E v 16 re) : cx_Re (wa_P E (v + 1)) re := by
  intro a b ha hb
  rw [h a b ha hb, if_pos (by omega)]
theorem xr_74 {post : SX → Prop} {J67 : Int32 → (Nat → Int32) → (Nat → Int32) → (Nat → Int32) → (Nat → Int32) → Prop} {fu fl : Int32} {E : Nat → Nat → Prop} {ra re ma ri : Nat → Int32} {v : Nat}
    (hv : v < 4) (h0 : cx_Re (wa_P E v) re)
    (h : ∀ re', cx_Re (wa_P E (v + 1)) re' → J67 (nI (v + 1)) ra re' ma ri) :
    ∃ n, wX_findReached_74 post J67 (nI v) fu fl n 0 ra re ma ri := by
  refine loop_0 (fun n i s => wX_findReached_74 post J67 (nI v) fu fl n (nI i) ra s ma ri) (fun i s => xr_W E v (4 * i) s) 4 re (xr_W0 h0) ?_ ?_
  · intro n s hs
    exact br_t bs_le4 (nm_r (nI_1 v) (h s (xr_W16 hs)))
  · intro n i s hi hs ih
    exact br_f (bs_ge4 hi) (xr_82 hv hi hs ih)
theorem xr_67 {post : SX → Prop} {fu fl : Int32} {E : Nat → Nat → Prop} {ra re ma ri : Nat → Int32}
    (h0 : cx_Re (wa_P E 0) re)
    (h : ∀ re', cx_Re (rt_R E) re' → post (fu, fl, ra, re', ma, ri)) :
    ∃ n, wX_findReached_67 post fu fl n 0 ra re ma ri := by
  refine loop_0 (fun n i s => wX_findReached_67 post fu fl n (nI i) ra s ma ri) (fun i s => cx_Re (wa_P E i) s) 4 re h0 ?_ ?_
  · intro n s hs
    exact br_t bs_le4 (h s (fun a b ha hb => (hs a b ha hb).trans (cx_c (wa_iff ha hb))))
  · intro n i s hi hs ih
    exact br_f (bs_ge4 hi) (xr_74 hi hs ih)
theorem xr_find {post : SX → Prop} {fu fl stop : Int32} {R : Nat → Nat} {re ma ri : Nat → Int32} (hR : ∀ n, R n ≤ 9)
    (h : ∀ re', cx_Re (rt_R (xr_E R stop)) re' → post (fu, fl, fun n => nI (R n), re', ma, ri)) :
    wpX_findReached post (fu, fl, fun n => nI (R n), re, ma, ri) stop := by
  refine loop_0 (fun n i s => wX_findReached_2 post stop fu fl n (nI i) (fun n => nI (R n)) s ma ri) (fun i s => xr_I (xr_E R stop) (4 * i) s) 4 re (fun n hn => by omega) ?_ ?_
  · intro n s hs
    refine br_t bs_le4 (xr_67 ?_ h)
    intro a b ha hb
    rw [hs (4 * a + b) (by omega), show (4 * a + b) / 4 = a by omega, show (4 * a + b) % 4 = b by omega]
  · intro n i s hi hs ih
    exact br_f (bs_ge4 hi) (xr_9 hi hR hs ih)
/-! closed, one law -/
def cl_C (P : Nat → Nat → Prop) (i : Nat) : Prop := ∀ j, j < 4 → P i j → P j i
def cl_U (P : Nat → Nat → Prop) : Prop := ∀ i, i < 4 → ∀ j, j < 4 → cl_C P i → cl_C P j → P i j
theorem cx_isC {post : Int32 → Prop} {fu fl : Int32} {ra re ma ri : Nat → Int32} {P : Nat → Nat → Prop} (hre : cx_Re P re) {i : Nat} (hi : i < 4)
    (h : post (cx_b (cl_C P i))) : wpX_isClosed post (fu, fl, ra, re, ma, ri) (nI i) := by
  refine loop_0 (σ := Unit) (fun n j _ => wX_isClosed_2 post (nI i) fu fl ra re ma ri n (nI j)) (fun j _ => ∀ k, k < j → P i k → P k i) 4 () (fun k hk => by omega) ?_ ?_
  · intro n _ hI
    rw [cx_t (show cl_C P i from hI)] at h
    exact br_t bs_le4 h
  · intro n j _ hj hI ih
    refine br_f (bs_ge4 hj) (cx_can hi hj (hre i j hi hj) (cx_br0 (fun hn => nm_r (nI_1 j) (ih () (lt_s hI (fun z => absurd z hn)))) (fun hp => cx_can hj hi (hre j i hj hi) (cx_br0 (fun hn => ?_) (fun hq => nm_r (nI_1 j) (ih () (lt_s hI (fun _ => hq))))))))
    rw [cx_f (fun hC : cl_C P i => hn (hC j hj hp))] at h
    exact h
theorem cx_one {post : Int32 → SX → Prop} {fu fl : Int32} {R : Nat → Nat} {re ma ri : Nat → Int32} (hR : ∀ n, R n ≤ 9)
    (h : ∀ re', post (cx_b (cl_U (rt_R (xr_E R (-1))))) (fu, fl, fun n => nI (R n), re', ma, ri)) :
    wpX_hasOneLaw post (fu, fl, fun n => nI (R n), re, ma, ri) := by
  unfold wpX_hasOneLaw
  dsimp only
  refine xr_find hR (fun re' hre => ?_)
  dsimp only
  refine loop_0 (σ := Unit) (fun n i _ => wX_hasOneLaw_7 post fu fl (fun n => nI (R n)) re' ma ri n (nI i)) (fun i _ => ∀ k, k < i → ∀ j, j < 4 → cl_C (rt_R (xr_E R (-1))) k → cl_C (rt_R (xr_E R (-1))) j → rt_R (xr_E R (-1)) k j) 4 () (fun k hk => by omega) ?_ ?_
  · intro n _ hI
    have h' := h re'
    rw [cx_t (show cl_U _ from hI)] at h'
    exact br_t bs_le4 h'
  · intro n i _ hi hI ih
    refine br_f (bs_ge4 hi) ?_
    refine loop_0 (σ := Unit) (fun m j _ => wX_hasOneLaw_14 post (wX_hasOneLaw_7 post fu fl (fun n => nI (R n)) re' ma ri n) (nI i) fu fl (fun n => nI (R n)) re' ma ri m (nI j)) (fun j _ => ∀ k, k < j → cl_C (rt_R (xr_E R (-1))) i → cl_C (rt_R (xr_E R (-1))) k → rt_R (xr_E R (-1)) i k) 4 () (fun k hk => by omega) ?_ ?_
    · intro m _ hJ
      exact br_t bs_le4 (nm_r (nI_1 i) (ih () (lt_s hI hJ)))
    · intro m j _ hj hJ ih2
      refine br_f (bs_ge4 hj) (cx_isC hre hi (cx_br0 (fun hn => nm_r (nI_1 j) (ih2 () (lt_s hJ (fun z => absurd z hn)))) (fun hp => cx_isC hre hj (cx_br0 (fun hn => nm_r (nI_1 j) (ih2 () (lt_s hJ (fun _ z => absurd z hn)))) (fun hq => cx_can hi hj (hre i j hi hj) (cx_br0 (fun hn => ?_) (fun hs => nm_r (nI_1 j) (ih2 () (lt_s hJ (fun _ _ => hs))))))))))
      have h' := h re'
      rw [cx_f (fun hU : cl_U _ => hn (hU i hi j hj hp hq))] at h'
      exact h'
end
section
/-! ===== how Y finds what is reached ===== -/
def bz_c (m : Nat) : Nat := m % 2 + m / 2 % 2 + m / 4 % 2 + m / 8 % 2
def bz_Cl (E : Nat → Nat → Prop) (m : Nat) : Prop := ∀ i, i < 4 → ∀ j, j < 4 → m.testBit i = true → E i j → m.testBit j = true
def bz_k (m m' j : Nat) : Bool := (m.testBit 0 && !m'.testBit 0) || (m.testBit 1 && !m'.testBit 1) || (m.testBit 2 && !m'.testBit 2) || (m.testBit 3 && !m'.testBit 3) || m.testBit j || !m'.testBit j || Nat.ble (bz_c m + 1) (bz_c m')
theorem bz_kT : ∀ m, m < 16 → ∀ m', m' < 16 → ∀ j, j < 4 → bz_k m m' j = true := by decide +kernel
theorem bz_kb {a b : Bool} (h : a = true → b = true) : (a && !b) = false := by
  cases a
  · rfl
  · rw [h rfl]; rfl
theorem bz_grow : ∀ m, m < 16 → ∀ m', m' < 16 → (∀ j, j < 4 → m.testBit j = true → m'.testBit j = true) → (∃ j, j < 4 ∧ ¬ m.testBit j = true ∧ m'.testBit j = true) → bz_c m + 1 ≤ bz_c m' := by
  intro m hm m' hm' h1 ⟨j, hj, h2, h3⟩
  have h := bz_kT m hm m' hm' j hj
  unfold bz_k at h
  rw [bz_kb (h1 0 (by decide)), bz_kb (h1 1 (by decide)), bz_kb (h1 2 (by decide)), bz_kb (h1 3 (by decide)), h3, Bool.eq_false_iff.mpr h2] at h
  exact Nat.le_of_ble_eq_true h
theorem bz_c4 : ∀ m, m < 16 → bz_c m ≤ 4 := by decide +kernel
def bz_I (E : Nat → Nat → Prop) (f k m : Nat) : Prop := m < 16 ∧ m.testBit f = true ∧ (∀ j, j < 4 → m.testBit j = true → rt_R E f j) ∧
  ∃ m0, m0 < 16 ∧ (∀ j, j < 4 → m0.testBit j = true → m.testBit j = true) ∧ (bz_Cl E m0 → m = m0) ∧ (bz_Cl E m0 ∨ k / 16 + 1 ≤ bz_c m0) ∧
    (∀ i, i < 4 → ∀ j, j < 4 → 4 * i + j < k % 16 → m0.testBit i = true → E i j → m.testBit j = true)
theorem bz_I0 {E : Nat → Nat → Prop} {f : Nat} (hf : f < 4) : bz_I E f 0 (2 ^ f) := by
  have h := bs_one f hf
  have hb : (2 ^ f).testBit f = true := by rw [h.2 f hf]; simp
  refine ⟨h.1, hb, ?_, 2 ^ f, h.1, fun _ _ z => z, fun _ => rfl, .inr ?_, ?_⟩
  · intro j hj hb
    rw [h.2 j hj] at hb
    have e : j = f := by simpa using hb
    exact e ▸ rt_refl j
  · exact (by decide +kernel : ∀ f, f < 4 → 0 / 16 + 1 ≤ bz_c (2 ^ f)) f hf
  · intro i _ j _ h; omega
/-- one edge looked at: m' is what is reached behind it -/
theorem bz_step {E : Nat → Nat → Prop} {f k m m' i j : Nat} (hk : k < 64) (hi : i < 4) (hj : j < 4) (ei : k % 16 = 4 * i + j) (h : bz_I E f k m)
    (hm' : m' < 16) (hsub : ∀ j, j < 4 → m.testBit j = true → m'.testBit j = true) (hf : f < 4) (hs : ∀ j, j < 4 → m'.testBit j = true → rt_R E f j)
    (hcl : bz_Cl E m → m' = m) (he : m.testBit i = true → E i j → m'.testBit j = true) : bz_I E f (k + 1) m' := by
  obtain ⟨h1, h2, h3, m0, g1, g2, g3, g4, g5⟩ := h
  have G5 : ∀ a, a < 4 → ∀ b, b < 4 → 4 * a + b < k % 16 + 1 → m0.testBit a = true → E a b → m'.testBit b = true := by
    intro a ha b hb hl hm e
    by_cases q : 4 * a + b < k % 16
    · exact hsub b hb (g5 a ha b hb q hm e)
    · have e1 : a = i := by omega
      have e2 : b = j := by omega
      subst e1 e2
      exact he (g2 a ha hm) e
  have G2 : ∀ j, j < 4 → m0.testBit j = true → m'.testBit j = true := fun j hj z => hsub j hj (g2 j hj z)
  have G3 : bz_Cl E m0 → m' = m0 := fun z => by
    have e := g3 z
    subst e
    exact hcl z
  refine ⟨hm', hsub f hf h2, hs, ?_⟩
  by_cases q : k % 16 = 15
  · refine ⟨m', hm', fun _ _ z => z, fun _ => rfl, ?_, fun a ha b hb hl => by omega⟩
    by_cases z : bz_Cl E m0
    · exact .inl (by rw [G3 z]; exact z)
    · refine .inr ?_
      have hc := g4.resolve_left z
      have hx : ∃ b, b < 4 ∧ ¬ m0.testBit b = true ∧ m'.testBit b = true := by
        apply Classical.byContradiction
        intro hno
        apply z
        intro a ha b hb hma e
        apply Classical.byContradiction
        intro hmb
        exact hno ⟨b, hb, hmb, G5 a ha b hb (by omega) hma e⟩
      have := bz_grow m0 g1 m' hm' G2 hx
      omega
  · refine ⟨m0, g1, G2, G3, ?_, ?_⟩
    · rw [show (k + 1) / 16 = k / 16 by omega]; exact g4
    · rw [show (k + 1) % 16 = k % 16 + 1 by omega]; exact G5
theorem bz_no {E : Nat → Nat → Prop} {f k m i j : Nat} (hk : k < 64) (hi : i < 4) (hj : j < 4) (ei : k % 16 = 4 * i + j) (hf : f < 4) (h : bz_I E f k m)
    (hn : ¬ (m.testBit i = true ∧ E i j)) : bz_I E f (k + 1) m :=
  bz_step hk hi hj ei h h.1 (fun _ _ z => z) hf h.2.2.1 (fun _ => rfl) (fun a b => absurd ⟨a, b⟩ hn)
theorem bz_yes {E : Nat → Nat → Prop} {f k m i j : Nat} (hk : k < 64) (hi : i < 4) (hj : j < 4) (ei : k % 16 = 4 * i + j) (hf : f < 4) (h : bz_I E f k m)
    (hy : m.testBit i = true ∧ E i j) : bz_I E f (k + 1) (m ||| 2 ^ j) := by
  have hm := h.1
  refine bz_step hk hi hj ei h (bs_or16 m hm j hj) ?_ hf ?_ ?_ ?_
  · intro b hb z; rw [bs_orb m hm j hj b hb, z]; rfl
  · intro b hb z
    rw [bs_orb m hm j hj b hb] at z
    by_cases q : m.testBit b = true
    · exact h.2.2.1 b hb q
    · have e : b = j := by simpa [q] using z
      subst e
      exact rt_edge hi hj (h.2.2.1 i hi hy.1) hy.2
  · intro z; exact bs_orI m hm j hj (z i hi j hj hy.1 hy.2)
  · intro _ _; rw [bs_orb m hm j hj j hj]; simp
theorem bz_end {E : Nat → Nat → Prop} {f m : Nat} (hf : f < 4) (h : bz_I E f 64 m) : m < 16 ∧ ∀ j, j < 4 → (m.testBit j = true ↔ rt_R E f j) := by
  obtain ⟨h1, h2, h3, m0, g1, g2, g3, g4, g5⟩ := h
  have c := bz_c4 m0 g1
  have hc : bz_Cl E m0 := g4.resolve_right (by omega)
  have e := g3 hc
  subst e
  refine ⟨h1, fun j hj => ⟨h3 j hj, fun r => ?_⟩⟩
  have := r (fun j => j < 4 → m.testBit j = true) (fun _ => h2) (fun a b ha hb s e _ => hc a ha b hb (s ha) e)
  exact this hj
def yr_E (R : Nat → Nat) (f e : Nat) (a b : Nat) : Prop := (a = f ∨ ¬ e.testBit a = true) ∧ 0 < R (4 * a + b)
theorem yr_58n {post : Int32 → Prop} {J7 : Int32 → Int32 → Prop} {x1 x2 x3 x5 x6 : Int32} {k : Nat} {ra : Nat → Int32} {su co rg : Nat → Int64}
    (h : J7 x3 (nI (k + 1))) : wY_reached_57 post J7 x1 x2 x3 (nI k) x5 x6 ra su co rg :=
  br_t rfl (nm_r (nI_1 k) h)
theorem yr_58y {post : Int32 → Prop} {J7 : Int32 → Int32 → Prop} {x1 x2 : Int32} {m k i j : Nat} {R : Nat → Nat} {su co rg : Nat → Int64}
    (hR : ∀ n, R n ≤ 9) (hm : m < 16) (hi : i < 4) (hj : j < 4) (hn : ¬ 0 < R (4 * i + j) → J7 (nI m) (nI (k + 1))) (hy : 0 < R (4 * i + j) → J7 (nI (m ||| 2 ^ j)) (nI (k + 1))) :
    wY_reached_53 post J7 x1 x2 (nI m) (nI k) (nI i) (nI j) (fun n => nI (R n)) su co rg := by
  refine br_f (by decide) ?_
  have hcl : (nI (4 * i + j)).toNatClampNeg = 4 * i + j := nI_clamp (by omega)
  rw [bs_iy, hcl]
  refine ⟨vp_in_nI (by omega) (by decide), ?_⟩
  by_cases z : 0 < R (4 * i + j)
  · exact br_f (nI_nle z (by have := hR (4 * i + j); omega)) (nm_r (bs_or m hm j hj) (nm_r (nI_1 k) (hy z)))
  · have e : R (4 * i + j) = 0 := by omega
    refine br_t (by dsimp only; rw [e]; decide) (nm_r (nI_1 k) (hn z))
theorem yr_div (k : Nat) (h : k < 64) : (nI k / 4) - (nI k / 4) / 4 * 4 = nI (k / 4 % 4) := by
  have e : nI k / 4 = nI (k / 4) := pk_div (d := 4) (by omega) (by decide) (by decide)
  rw [e]
  exact pk_rem (d := 4) (by omega) (by decide) (by decide)
theorem yr_reached {post : Int32 → Prop} {R : Nat → Nat} {su co rg : Nat → Int64} {f e : Nat} (hR : ∀ n, R n ≤ 9) (hf : f < 4) (he : e < 16)
    (h : ∀ m, m < 16 → (∀ j, j < 4 → (m.testBit j = true ↔ rt_R (yr_E R f e) f j)) → post (nI m)) :
    wpY_reached post ((fun n => nI (R n)), su, co, rg) (nI f) (nI e) := by
  refine nm_r (bs_shl1 f hf) ?_
  refine loop_0 (fun n k m => wY_reached_7 post (nI f) (nI e) (fun n => nI (R n)) su co rg n (nI m) (nI k)) (fun k m => bz_I (yr_E R f e) f k m) 64 (2 ^ f) (bz_I0 hf) ?_ ?_
  · intro n m hm
    have z := bz_end hf hm
    exact br_t bs_le64 (h m z.1 z.2)
  · intro n k m hk hm ih
    refine br_f (bs_ge64 hk) ⟨by decide, by decide, nm_r (yr_div k hk) ⟨by decide, nm_r (pk_rem (d := 4) (by omega) (by decide) (by decide)) ?_⟩⟩
    have hi : k / 4 % 4 < 4 := by omega
    have hj : k % 4 < 4 := by omega
    have ei : k % 16 = 4 * (k / 4 % 4) + k % 4 := by omega
    have NO := fun z => ih m (bz_no hk hi hj ei hf hm z)
    have YES : ∀ g : k / 4 % 4 = f ∨ ¬ e.testBit (k / 4 % 4) = true, m.testBit (k / 4 % 4) = true → wY_reached_53 post (wY_reached_7 post (nI f) (nI e) (fun n => nI (R n)) su co rg n) (nI f) (nI e) (nI m) (nI k) (nI (k / 4 % 4)) (nI (k % 4)) (fun n => nI (R n)) su co rg :=
      fun g hb => yr_58y hR hm.1 hi hj (fun z => NO (fun w => z w.2.2)) (fun z => ih _ (bz_yes hk hi hj ei hf hm ⟨hb, g, z⟩))
    refine bs_br1 hm.1 hi (fun hb => pk_eq (k / 4 % 4) f (fun q => YES (.inl q) hb) (fun q => bs_br0 he hi (fun w => YES (.inr w) hb) (fun w => yr_58n (NO (fun y => y.2.1.elim q (fun v => v w)))))) (fun hb => yr_58n (NO (fun y => hb y.1)))
/-! closed, unique -/
theorem yr_E0 {R : Nat → Nat} {f : Nat} (i j : Nat) : rt_R (yr_E R f 0) i j ↔ rt_R (xr_E R (-1)) i j := by
  apply rt_congr
  intro a b ha _
  have h1 : ¬ nI a = -1 := by
    rcases (by omega : a = 0 ∨ a = 1 ∨ a = 2 ∨ a = 3) with h | h | h | h <;> subst h <;> decide
  exact ⟨fun h => ⟨h1, h.2⟩, fun h => ⟨.inr (by simp), h.2⟩⟩
theorem yr_full {post : Int32 → Prop} {R : Nat → Nat} {su co rg : Nat → Int64} {f : Nat} (hR : ∀ n, R n ≤ 9) (hf : f < 4)
    (h : ∀ m, m < 16 → (∀ j, j < 4 → (m.testBit j = true ↔ rt_R (xr_E R (-1)) f j)) → post (nI m)) :
    wpY_reached post ((fun n => nI (R n)), su, co, rg) (nI f) 0 :=
  yr_reached (e := 0) hR hf (by decide) (fun m hm z => h m hm (fun j hj => (z j hj).trans (yr_E0 f j)))
theorem cy_isC {post : Int32 → Prop} {R : Nat → Nat} {su co rg : Nat → Int64} (hR : ∀ n, R n ≤ 9) {i : Nat} (hi : i < 4)
    (h : post (cx_b (cl_C (rt_R (xr_E R (-1))) i))) : wpY_isClosed post ((fun n => nI (R n)), su, co, rg) (nI i) := by
  refine yr_full hR hi (fun m hm hmb => ?_)
  refine loop_0 (σ := Unit) (fun n j _ => wY_isClosed_9 post (nI i) (nI m) (fun n => nI (R n)) su co rg n (nI j)) (fun j _ => ∀ k, k < j → rt_R (xr_E R (-1)) i k → rt_R (xr_E R (-1)) k i) 4 () (fun k hk => by omega) ?_ ?_
  · intro n _ hI
    rw [cx_t (show cl_C _ i from hI)] at h
    exact br_t bs_le4 h
  · intro n j _ hj hI ih
    refine br_f (bs_ge4 hj) (yr_full hR hj (fun m2 hm2 hb2 => bs_br1 hm2 hi (fun q => ?_) (fun q => ?_)))
    · refine bs_br1 hm hj (fun _ => br_f (by decide) (nm_r (nI_1 j) (ih () (lt_s hI (fun _ => (hb2 i hi).mp q))))) (fun w => nm_r (nI_1 j) (ih () (lt_s hI (fun z => absurd ((hmb j hj).mpr z) w))))
    · refine bs_br1 hm hj (fun w => br_t rfl ?_) (fun w => nm_r (nI_1 j) (ih () (lt_s hI (fun z => absurd ((hmb j hj).mpr z) w))))
      rw [cx_f (fun hC : cl_C _ i => q ((hb2 i hi).mpr (hC j hj ((hmb j hj).mp w))))] at h
      exact h
theorem cy_un {post : Int32 → Prop} {R : Nat → Nat} {su co rg : Nat → Int64} (hR : ∀ n, R n ≤ 9)
    (h : post (cx_b (cl_U (rt_R (xr_E R (-1)))))) : wpY_unique post ((fun n => nI (R n)), su, co, rg) := by
  refine loop_0 (σ := Unit) (fun n i _ => wY_unique_2 post (fun n => nI (R n)) su co rg n (nI i)) (fun i _ => ∀ k, k < i → ∀ j, j < 4 → cl_C (rt_R (xr_E R (-1))) k → cl_C (rt_R (xr_E R (-1))) j → rt_R (xr_E R (-1)) k j) 4 () (fun k hk => by omega) ?_ ?_
  · intro n _ hI
    rw [cx_t (show cl_U _ from hI)] at h
    exact br_t bs_le4 h
  · intro n i _ hi hI ih
    refine br_f (bs_ge4 hi) ?_
    refine loop_0 (σ := Unit) (fun m j _ => wY_unique_9 post (wY_unique_2 post (fun n => nI (R n)) su co rg n) (nI i) (fun n => nI (R n)) su co rg m (nI j)) (fun j _ => ∀ k, k < j → cl_C (rt_R (xr_E R (-1))) i → cl_C (rt_R (xr_E R (-1))) k → rt_R (xr_E R (-1)) i k) 4 () (fun k hk => by omega) ?_ ?_
    · intro m _ hJ
      exact br_t bs_le4 (nm_r (nI_1 i) (ih () (lt_s hI hJ)))
    · intro m j _ hj hJ ih2
      refine br_f (bs_ge4 hj) (yr_full hR hi (fun m2 hm2 hb2 => bs_br1 hm2 hj (fun q => ?_) (fun q => ?_)))
      · have NX := nm_r (P := fun y => wY_unique_9 post (wY_unique_2 post (fun n => nI (R n)) su co rg n) (nI i) (fun n => nI (R n)) su co rg m y) (nI_1 j) (ih2 () (lt_s hJ (fun _ _ => (hb2 j hj).mp q)))
        exact cy_isC hR hi (cx_br0 (fun _ => NX) (fun _ => cy_isC hR hj (cx_br0 (fun _ => NX) (fun _ => br_f (by decide) NX))))
      · refine cy_isC hR hi (cx_br0 (fun w => nm_r (nI_1 j) (ih2 () (lt_s hJ (fun z => absurd z w)))) (fun w => cy_isC hR hj (cx_br0 (fun w2 => nm_r (nI_1 j) (ih2 () (lt_s hJ (fun _ z => absurd z w2)))) (fun w2 => br_t rfl ?_))))
        rw [cx_f (fun hU : cl_U _ => q ((hb2 j hj).mpr (hU i hi j hj w w2)))] at h
        exact h
end
section
/-! ===== X: outflow, matrix, determinant, fraction ===== -/
def of_S (R : Nat → Nat) (i : Nat) : Nat → Nat
  | 0 => 0
  | j + 1 => of_S R i j + R (4 * i + j)
def of_O (R : Nat → Nat) (i : Nat) : Nat := of_S R i 4
theorem xo_out {post : Int32 → Prop} {fu fl : Int32} {R : Nat → Nat} {re ma ri : Nat → Int32} {i : Nat} (hi : i < 4) (h : post (nI (of_O R i))) :
    wpX_outflow post (fu, fl, (fun n => nI (R n)), re, ma, ri) (nI i) := by
  refine loop_0 (fun n j s => wX_outflow_4 post (nI i) fu fl (fun n => nI (R n)) re ma ri n (nI s) (nI j)) (fun j s => s = of_S R i j) 4 0 rfl ?_ ?_
  · intro n s hs
    subst hs
    exact br_t bs_le4 h
  · intro n j s hj hs ih
    refine br_f (bs_ge4 hj) ?_
    rw [bs_ix, nI_clamp (by omega)]
    refine ⟨vp_in_nI (by omega) (by decide), nm_r (nI_add s (R (4 * i + j))) (nm_r (nI_1 j) (ih _ ?_))⟩
    subst hs
    rfl
def fm_st (r out : Nat) : Nat := if r < out then r else r + 1
theorem fm_st4 {r out : Nat} (h : r < 3) : fm_st r out < 4 := by unfold fm_st; split <;> omega
theorem xs_st {post : Int32 → Prop} {r out : Nat} (hr : r < 3) (ho : out < 4) (h : post (nI (fm_st r out))) : wpX_stateAt post (nI r) (nI out) := by
  unfold fm_st at h
  refine pk_le out r (fun e => ?_) (fun e => ?_)
  · rw [if_neg (by omega)] at h
    rw [nI_1]; exact h
  · rw [if_pos e] at h; exact h
def fm_A (R : Nat → Nat) (s q : Nat) : Int := if s = q then (of_O R s : Int) else -(R (4 * s + q) : Int)
def fm_I (M : Nat → Nat → Int) (k : Nat) (ma : Nat → Int32) : Prop := ∀ r c, r < 3 → c < 3 → 3 * r + c < k → ma (3 * r + c) = Int32.ofInt (M r c)
def dt_Ma (M : Nat → Nat → Int) (ma : Nat → Int32) : Prop := ∀ r c, r < 3 → c < 3 → ma (3 * r + c) = Int32.ofInt (M r c)
def fm_M (R : Nat → Nat) (out : Nat) (r c : Nat) : Int := fm_A R (fm_st r out) (fm_st c out)
theorem fm_Is {M : Nat → Nat → Int} {a b : Nat} {ma : Nat → Int32} {x : Int32} (hb : b < 3) (h : fm_I M (3 * a + b) ma) (hx : x = Int32.ofInt (M a b)) :
    fm_I M (3 * a + (b + 1)) (upd ma (3 * a + b) x) := by
  intro r c hr hc hn
  by_cases e : 3 * r + c = 3 * a + b
  · have e1 : r = a := by omega
    have e2 : c = b := by omega
    subst e1 e2
    rw [pk_us, hx]
  · rw [pk_un e]; exact h r c hr hc (by omega)
theorem xf_56 {post : SX → Prop} {J2 J16 : Int32 → (Nat → Int32) → (Nat → Int32) → (Nat → Int32) → (Nat → Int32) → Prop} {x1 x3 z0 fu fl : Int32} {ra re ma ri : Nat → Int32} {r c : Nat}
    (hr : r < 3) (hc : c < 3) (h : J16 (nI (c + 1)) ra re (upd ma (3 * r + c) z0) ri) : wX_fillMatrix_56 post J2 J16 x1 (nI r) x3 (nI c) z0 fu fl ra re ma ri := by
  unfold wX_fillMatrix_56
  rw [bs_i3, nI_clamp (by omega)]
  exact ⟨vp_in_nI (by omega) (by decide), nm_e (nm_r (nI_1 c) h)⟩
theorem xf_16 {post : SX → Prop} {J2 : Int32 → (Nat → Int32) → (Nat → Int32) → (Nat → Int32) → (Nat → Int32) → Prop} {fu fl : Int32} {R : Nat → Nat} {re ma ri : Nat → Int32} {out r : Nat}
    (ho : out < 4) (hr : r < 3) (h0 : fm_I (fm_M R out) (3 * r) ma)
    (h : ∀ ma', fm_I (fm_M R out) (3 * (r + 1)) ma' → J2 (nI (r + 1)) (fun n => nI (R n)) re ma' ri) :
    ∃ n, wX_fillMatrix_16 post J2 (nI out) (nI r) (nI (fm_st r out)) fu fl n 0 (fun n => nI (R n)) re ma ri := by
  refine loop_0 (fun n i s => wX_fillMatrix_16 post J2 (nI out) (nI r) (nI (fm_st r out)) fu fl n (nI i) (fun n => nI (R n)) re s ri) (fun i s => fm_I (fm_M R out) (3 * r + i) s) 3 ma h0 ?_ ?_
  · intro n s hs
    exact br_t bs_le3 (nm_r (nI_1 r) (h s hs))
  · intro n c s hc hs ih
    have h1 := fm_st4 (out := out) hr
    have h2 := fm_st4 (out := out) hc
    refine br_f (bs_ge3 hc) (xs_st hc ho (pk_eq (fm_st r out) (fm_st c out) (fun e => xo_out h1 (xf_56 hr hc (ih _ (fm_Is hc hs ?_)))) (fun e => ⟨?_, xf_56 hr hc (ih _ (fm_Is hc hs ?_))⟩)))
    · unfold fm_M fm_A; rw [if_pos e]; rfl
    · rw [bs_ix]; exact vp_in_nI (by omega) (by decide)
    · rw [bs_ix, nI_clamp (by omega)]
      unfold fm_M fm_A; rw [if_neg e, Int32.ofInt_neg]; rfl
theorem xf_fill {post : SX → Prop} {fu fl : Int32} {R : Nat → Nat} {re ma ri : Nat → Int32} {out : Nat} (ho : out < 4)
    (h : ∀ ma', dt_Ma (fm_M R out) ma' → post (fu, fl, (fun n => nI (R n)), re, ma', ri)) :
    wpX_fillMatrix post (fu, fl, (fun n => nI (R n)), re, ma, ri) (nI out) := by
  refine loop_0 (fun n i s => wX_fillMatrix_2 post (nI out) fu fl n (nI i) (fun n => nI (R n)) re s ri) (fun i s => fm_I (fm_M R out) (3 * i) s) 3 ma (fun r c _ _ hn => by omega) ?_ ?_
  · intro n s hs
    exact br_t bs_le3 (h s (fun r c hr hc => hs r c hr hc (by omega)))
  · intro n r s hr hs ih
    exact br_f (bs_ge3 hr) (xs_st hr ho (xf_16 ho hr hs ih))
def dt_3 (M : Nat → Nat → Int) : Int := M 0 0 * (M 1 1 * M 2 2 - M 1 2 * M 2 1) - M 0 1 * (M 1 0 * M 2 2 - M 1 2 * M 2 0) + M 0 2 * (M 1 0 * M 2 1 - M 1 1 * M 2 0)
theorem xd_det {post : Int32 → Prop} {fu fl : Int32} {ra re ma ri : Nat → Int32} {M : Nat → Nat → Int} (hM : dt_Ma M ma) (h : post (Int32.ofInt (dt_3 M))) :
    wpX_determinant post (fu, fl, ra, re, ma, ri) := by
  have e0 : ma 0 = _ := hM 0 0 (by decide) (by decide)
  have e1 : ma 1 = _ := hM 0 1 (by decide) (by decide)
  have e2 : ma 2 = _ := hM 0 2 (by decide) (by decide)
  have e3 : ma 3 = _ := hM 1 0 (by decide) (by decide)
  have e4 : ma 4 = _ := hM 1 1 (by decide) (by decide)
  have e5 : ma 5 = _ := hM 1 2 (by decide) (by decide)
  have e6 : ma 6 = _ := hM 2 0 (by decide) (by decide)
  have e7 : ma 7 = _ := hM 2 1 (by decide) (by decide)
  have e8 : ma 8 = _ := hM 2 2 (by decide) (by decide)
  intro x1 h1 x2 h2 x3 h3
  rw [h1, h2, h3, e0, e1, e2, e3, e4, e5, e6, e7, e8]
  unfold dt_3 at h
  simp only [Int32.ofInt_add, Int32.ofInt_sub, Int32.ofInt_mul] at h
  exact h
/-! Euclid -/
theorem eu_half {s r : Nat} (h0 : 0 < r) (h : r < s) {k : Nat} (hs : s < 2 ^ (k + 1)) : s % r < 2 ^ k := by
  have hp : 2 ^ (k + 1) = 2 * 2 ^ k := by rw [Nat.pow_succ]; omega
  have h1 : s % r < r := Nat.mod_lt _ h0
  by_cases q : r ≤ 2 ^ k
  · omega
  · have h2 : s % r ≤ s - r := by
      rw [Nat.mod_eq_sub_mod (by omega)]
      exact Nat.mod_le _ _
    omega
theorem eu_7 {post : Int32 → Prop} : ∀ k s b j n, s < 2 ^ k → b < 2 ^ 31 → s < 2 ^ 31 → j + 2 * k ≤ 64 → 2 * k < n → post (nI (Nat.gcd b s)) → wX_commonDivisor_7 post n (nI b) (nI s) (nI j) := by
  intro k
  induction k with
  | zero =>
    intro s b j n hs _ _ _ hn h
    have e : s = 0 := by omega
    subst e
    rw [Nat.gcd_zero_right] at h
    cases n with
    | zero => omega
    | succ n => exact br_c (fun _ => h) (fun _ => br_t rfl h)
  | succ k ih =>
    intro s b j n hs hb hs2 hj hn h
    match n, hn with
    | n + 2, hn =>
      refine br_f (bs_ge64 (by omega)) (pk_eq s 0 (fun e => ?_) (fun e => ⟨nI_ne0 (by omega) hs2, nm_r (pk_rem hb (by omega) hs2) (nm_r (nI_1 j) ?_)⟩))
      · rw [e, Nat.gcd_zero_right] at h; exact h
      · have hr : b % s < s := Nat.mod_lt _ (by omega)
        have g1 : Nat.gcd b s = Nat.gcd s (b % s) := by rw [Nat.gcd_comm b s, Nat.gcd_rec s b, Nat.gcd_comm]
        rw [g1] at h
        refine br_f (bs_ge64 (by omega)) (pk_eq (b % s) 0 (fun e => ?_) (fun e => ⟨nI_ne0 (by omega) (by omega), nm_r (pk_rem hs2 (by omega) (by omega)) (nm_r (nI_1 (j + 1)) ?_)⟩))
        · rw [e, Nat.gcd_zero_right] at h; exact h
        · have g2 : Nat.gcd s (b % s) = Nat.gcd (b % s) (s % (b % s)) := by rw [Nat.gcd_comm s (b % s), Nat.gcd_rec (b % s) s, Nat.gcd_comm]
          rw [g2] at h
          have hl := Nat.mod_lt s (y := b % s) (by omega)
          exact ih (s % (b % s)) (b % s) (j + 1 + 1) n (eu_half (by omega) hr hs) (by omega) (by omega) (by omega) (by omega) h
theorem xg_gcd {post : Int32 → Prop} {a b : Nat} (ha : a < 2 ^ 31) (hb : b < 2 ^ 31) (h : post (nI (Nat.gcd a b))) : wpX_commonDivisor post (nI a) (nI b) :=
  ⟨65, eu_7 31 b a 0 65 hb ha hb (by omega) (by omega) h⟩
theorem xg_set {post : SX → Prop} {fu fl : Int32} {ra re ma ri : Nat → Int32} {n d : Nat} (hn : n < 2 ^ 31) (hd : d < 2 ^ 31) (h0 : 0 < d)
    (h : post (nI (n / Nat.gcd n d), nI (d / Nat.gcd n d), ra, re, ma, ri)) : wpX_setFraction post (fu, fl, ra, re, ma, ri) (nI n) (nI d) := by
  have hg : 0 < Nat.gcd n d := Nat.gcd_pos_of_pos_right n h0
  have hg2 : Nat.gcd n d ≤ d := Nat.gcd_le_right n h0
  refine xg_gcd hn hd (br_t (nI_le (a := 1) (by omega) (by omega)) ⟨nI_ne0 hg (by omega), nm_r (pk_div hn hg (by omega)) ⟨nI_ne0 hg (by omega), nm_r (pk_div hd hg (by omega)) h⟩⟩)
end
section
/-! ===== X: held rows, Cramer ===== -/
noncomputable def ci_i (p : Prop) (a b : Int) : Int := @ite Int p (Classical.propDecidable p) a b
theorem ci_t {p : Prop} {a b : Int} (h : p) : ci_i p a b = a := by unfold ci_i; rw [if_pos h]
theorem ci_f {p : Prop} {a b : Int} (h : ¬ p) : ci_i p a b = b := by unfold ci_i; rw [if_neg h]
theorem ci_c {p q : Prop} {a b : Int} (h : p ↔ q) : ci_i p a b = ci_i q a b := by rw [propext h]
def ho_M (M : Nat → Nat → Int) (row i : Nat) (r c : Nat) : Int := if r = row ∧ c < i then (if row = c then 1 else 0) else M r c
theorem xh_put {M : Nat → Nat → Int} {row i : Nat} {ma : Nat → Int32} {x : Int32} (hr : row < 3) (hi : i < 3) (h : dt_Ma (ho_M M row i) ma) (hx : x = if row = i then 1 else 0) :
    dt_Ma (ho_M M row (i + 1)) (upd ma (3 * row + i) x) := by
  intro r c hr hc
  by_cases e : 3 * r + c = 3 * row + i
  · have e1 : r = row := by omega
    have e2 : c = i := by omega
    subst e1 e2
    have hv : ho_M M r (c + 1) r c = if r = c then 1 else 0 := if_pos ⟨rfl, by omega⟩
    rw [pk_us, hx, hv]
    split <;> rfl
  · rw [pk_un e, h r c hr hc]
    unfold ho_M
    by_cases q : r = row
    · have : c ≠ i := by omega
      by_cases l : c < i
      · have a1 : r = row ∧ c < i := ⟨q, l⟩
        have a2 : r = row ∧ c < i + 1 := ⟨q, by omega⟩
        rw [if_pos a1, if_pos a2]
      · have a1 : ¬ (r = row ∧ c < i) := fun z => l z.2
        have a2 : ¬ (r = row ∧ c < i + 1) := fun z => by have := z.2; omega
        rw [if_neg a1, if_neg a2]
    · have a1 : ¬ (r = row ∧ c < i) := fun z => q z.1
      have a2 : ¬ (r = row ∧ c < i + 1) := fun z => q z.1
      rw [if_neg a1, if_neg a2]
theorem xh_hold {post : SX → Prop} {fu fl : Int32} {ra re ma ri : Nat → Int32} {M : Nat → Nat → Int} {row : Nat} (hr : row < 3) (hM : dt_Ma M ma)
    (h : ∀ ma', dt_Ma (ho_M M row 3) ma' → post (fu, fl, ra, re, ma', upd ri row 0)) : wpX_holdAtZero post (fu, fl, ra, re, ma, ri) (nI row) := by
  refine loop_0 (fun n i s => wX_holdAtZero_2 post (nI row) fu fl n (nI i) ra re s ri) (fun i s => dt_Ma (ho_M M row i) s) 3 ma ?_ ?_ ?_
  · intro r c hr hc
    unfold ho_M
    rw [if_neg (fun z => by omega)]
    exact hM r c hr hc
  · intro n s hs
    refine br_t bs_le3 ⟨vp_in_nI hr (by decide), ?_⟩
    rw [nI_clamp (by omega)]
    exact nm_e (h s hs)
  · intro n i s hi hs ih
    refine br_f (bs_ge3 hi) ?_
    rw [bs_i3, nI_clamp (by omega)]
    have hin : vp_in (nI (3 * row + i)) 9 := vp_in_nI (by omega) (by decide)
    exact pk_eq row i (fun e => ⟨hin, nm_e (nm_r (nI_1 i) (ih _ (xh_put hr hi hs (by rw [if_pos e]))))⟩) (fun e => ⟨hin, nm_e (nm_r (nI_1 i) (ih _ (xh_put hr hi hs (by rw [if_neg e]))))⟩)
/-- the system with the rows of H held -/
noncomputable def xs_M (H : Nat → Prop) (M : Nat → Nat → Int) (r c : Nat) : Int := ci_i (H r) (if r = c then 1 else 0) (M r c)
noncomputable def xs_b (H : Nat → Prop) (b : Nat → Int) (r : Nat) : Int := ci_i (H r) 0 (b r)
def sy_I (M : Nat → Nat → Int) (H : Nat → Prop) (b : Nat → Int) (k : Nat) (ma ri : Nat → Int32) : Prop :=
  dt_Ma (fun r c => ci_i (r < k ∧ H r) (if r = c then 1 else 0) (M r c)) ma ∧ ∀ r, r < k → ri r = Int32.ofInt (xs_b H b r)
theorem sy_0 {M : Nat → Nat → Int} {H : Nat → Prop} {b : Nat → Int} {ma ri : Nat → Int32} (h : dt_Ma M ma) : sy_I M H b 0 ma ri :=
  ⟨fun r c hr hc => by dsimp only; rw [ci_f (fun z => by omega)]; exact h r c hr hc, fun r h => by omega⟩
theorem sy_no {M : Nat → Nat → Int} {H : Nat → Prop} {b : Nat → Int} {k : Nat} {ma ri : Nat → Int32} (h : sy_I M H b k ma ri) (hn : ¬ H k) : sy_I M H b (k + 1) ma (upd ri k (Int32.ofInt (b k))) := by
  refine ⟨fun r c hr hc => ?_, fun r hr => ?_⟩
  · rw [h.1 r c hr hc]
    dsimp only
    refine congrArg _ (ci_c ⟨fun z => ⟨by omega, z.2⟩, fun z => ⟨?_, z.2⟩⟩)
    have : r ≠ k := fun e => hn (e ▸ z.2)
    omega
  · by_cases e : r = k
    · subst e; rw [pk_us]; unfold xs_b; rw [ci_f hn]
    · rw [pk_un e]; exact h.2 r (by omega)
theorem sy_yes {M : Nat → Nat → Int} {H : Nat → Prop} {b : Nat → Int} {k : Nat} {ma ma' ri : Nat → Int32} {x : Int32} (h : sy_I M H b k ma ri) (hy : H k)
    (hm : dt_Ma (ho_M (fun r c => ci_i (r < k ∧ H r) (if r = c then 1 else 0) (M r c)) k 3) ma') : sy_I M H b (k + 1) ma' (upd (upd ri k x) k 0) := by
  refine ⟨fun r c hr hc => ?_, fun r hr => ?_⟩
  · rw [hm r c hr hc]
    unfold ho_M
    dsimp only
    by_cases e : r = k
    · subst e
      rw [if_pos ⟨rfl, hc⟩, ci_t ⟨by omega, hy⟩]
    · rw [if_neg (fun z => e z.1)]
      exact congrArg _ (ci_c ⟨fun z => ⟨by omega, z.2⟩, fun z => ⟨by omega, z.2⟩⟩)
  · by_cases e : r = k
    · subst e; rw [pk_us]; unfold xs_b; rw [ci_t hy]; rfl
    · rw [pk_un e, pk_un e]; exact h.2 r (by omega)
theorem sy_3 {M : Nat → Nat → Int} {H : Nat → Prop} {b : Nat → Int} {ma ri : Nat → Int32} (h : sy_I M H b 3 ma ri) : dt_Ma (xs_M H M) ma := by
  intro r c hr hc
  rw [h.1 r c hr hc]
  exact congrArg _ (ci_c ⟨fun z => z.2, fun z => ⟨hr, z⟩⟩)
def sv_c (i out : Nat) : Nat := if i < out then i else i - 1
def xs_N (col : Nat) (M : Nat → Nat → Int) (b : Nat → Int) (r c : Nat) : Int := if c = col then b r else M r c
def sv_N (col k : Nat) (M : Nat → Nat → Int) (b : Nat → Int) (r c : Nat) : Int := if c = col ∧ r < k then b r else M r c
theorem sv_put {M : Nat → Nat → Int} {b : Nat → Int} {col k : Nat} {ma : Nat → Int32} (hc0 : col < 3) (h : dt_Ma (sv_N col k M b) ma) : dt_Ma (sv_N col (k + 1) M b) (upd ma (3 * k + col) (Int32.ofInt (b k))) := by
  intro r c hr hc
  by_cases e : 3 * r + c = 3 * k + col
  · have e1 : r = k := by omega
    have e2 : c = col := by omega
    subst e1 e2
    rw [pk_us]; unfold sv_N; rw [if_pos ⟨rfl, by omega⟩]
  · rw [pk_un e, h r c hr hc]
    unfold sv_N
    by_cases q : c = col
    · have : r ≠ k := by omega
      by_cases l : r < k
      · rw [if_pos ⟨q, l⟩, if_pos ⟨q, by omega⟩]
      · rw [if_neg (fun z => l z.2), if_neg (fun z => by have := z.2; omega)]
    · rw [if_neg (fun z => q z.1), if_neg (fun z => q z.1)]
theorem sv_solve {post : SX → Prop} {fu fl : Int32} {ra re ma ri : Nat → Int32} {M : Nat → Nat → Int} {b : Nat → Int} {i out n d : Nat} (hM : dt_Ma M ma) (hb : ∀ r, r < 3 → ri r = Int32.ofInt (b r))
    (hi : i < 4) (ho : out < 4) (hne : i ≠ out) (hd : dt_3 M = (d : Int)) (hn : dt_3 (xs_N (sv_c i out) M b) = (n : Int)) (h0 : 0 < d) (bd : d < 2 ^ 31) (bn : n < 2 ^ 31)
    (h : ∀ ma', post (nI (n / Nat.gcd n d), nI (d / Nat.gcd n d), ra, re, ma', ri)) : wpX_solveFor post (fu, fl, ra, re, ma, ri) (nI i) (nI out) := by
  have hcol : sv_c i out < 3 := by unfold sv_c; split <;> omega
  have key : ∃ n15, wX_solveFor_15 post (Int32.ofInt (dt_3 M)) (nI (sv_c i out)) fu fl n15 0 ra re ma ri := by
    refine loop_0 (fun n k s => wX_solveFor_15 post (Int32.ofInt (dt_3 M)) (nI (sv_c i out)) fu fl n (nI k) ra re s ri) (fun k s => dt_Ma (sv_N (sv_c i out) k M b) s) 3 ma ?_ ?_ ?_
    · intro r c hr hc
      unfold sv_N
      rw [if_neg (fun z => by omega)]
      exact hM r c hr hc
    · intro m s hs
      refine br_t bs_le3 (xd_det (M := xs_N (sv_c i out) M b) ?_ ?_)
      · intro r c hr hc
        rw [hs r c hr hc]
        unfold sv_N xs_N
        by_cases q : c = sv_c i out
        · rw [if_pos ⟨q, hr⟩, if_pos q]
        · rw [if_neg (fun z => q z.1), if_neg q]
      · rw [hn, hd]
        exact xg_set bn bd h0 (h s)
    · intro m k s hk hs ih
      refine br_f (bs_ge3 hk) ⟨vp_in_nI hk (by decide), ?_⟩
      rw [bs_i3, nI_clamp (by omega), nI_clamp (by omega), hb k hk]
      exact ⟨vp_in_nI (by omega) (by decide), nm_e (nm_r (nI_1 k) (ih _ (sv_put hcol hs)))⟩
  unfold wpX_solveFor
  dsimp only
  refine xd_det hM ?_
  refine pk_le out i (fun e => ?_) (fun e => ?_)
  · have e2 : nI i - 1 = nI (sv_c i out) := by
      unfold sv_c; rw [if_neg (by omega)]
      exact pk_sub (b := 1) (by omega)
    rw [e2]; exact key
  · have e2 : nI i = nI (sv_c i out) := by unfold sv_c; rw [if_pos e]
    rw [e2]; exact key
/-! chances -/
def ch_H (R : Nat → Nat) (t u r : Nat) : Prop := fm_st r t = u ∨ (¬ rt_R (xr_E R (-1)) (fm_st r t) t ∧ ¬ rt_R (xr_E R (-1)) (fm_st r t) u)
def ch_b (R : Nat → Nat) (t r : Nat) : Int := (R (4 * fm_st r t + t) : Int)
theorem xc_126 {post : SX → Prop} {J56 : Int32 → Int32 → Int32 → (Nat → Int32) → (Nat → Int32) → (Nat → Int32) → (Nat → Int32) → Prop} {x1 x2 x3 fu fl : Int32} {ra re ma ri : Nat → Int32} {M : Nat → Nat → Int} {r : Nat} (hr : r < 3) (hM : dt_Ma M ma)
    (h : ∀ ma', dt_Ma (ho_M M r 3) ma' → J56 (nI (r + 1)) fu fl ra re ma' (upd ri r 0)) : wX_findChance_126 post J56 x1 x2 x3 (nI r) fu fl ra re ma ri := by
  unfold wX_findChance_126
  exact xh_hold hr hM (fun ma' hm => nm_r (nI_1 r) (h ma' hm))
theorem xc_56 {post : SX → Prop} {fu fl : Int32} {R : Nat → Nat} {re ma ri : Nat → Int32} {i t u n d : Nat} (hi : i < 4) (ht : t < 4) (hu : u < 4) (hit : i ≠ t)
    (hre : cx_Re (rt_R (xr_E R (-1))) re) (hm : dt_Ma (fm_M R t) ma)
    (hd : dt_3 (xs_M (ch_H R t u) (fm_M R t)) = (d : Int)) (hn : dt_3 (xs_N (sv_c i t) (xs_M (ch_H R t u) (fm_M R t)) (xs_b (ch_H R t u) (ch_b R t))) = (n : Int)) (h0 : 0 < d) (bd : d < 2 ^ 31) (bn : n < 2 ^ 31)
    (h : ∀ ma' ri', post (nI (n / Nat.gcd n d), nI (d / Nat.gcd n d), (fun n => nI (R n)), re, ma', ri')) :
    ∃ n56, wX_findChance_56 post (nI i) (nI t) (nI u) n56 0 fu fl (fun n => nI (R n)) re ma ri := by
  refine loop_0 (fun n k (s : (Nat → Int32) × (Nat → Int32)) => wX_findChance_56 post (nI i) (nI t) (nI u) n (nI k) fu fl (fun n => nI (R n)) re s.1 s.2) (fun k s => sy_I (fm_M R t) (ch_H R t u) (ch_b R t) k s.1 s.2) 3 (ma, ri) (sy_0 hm) ?_ ?_
  · intro m s hs
    exact br_t bs_le3 (sv_solve (sy_3 hs) (fun r hr => hs.2 r hr) hi ht hit hd hn h0 bd bn (fun ma' => h ma' s.2))
  · intro m k s hk hs ih
    have h4 := fm_st4 (out := t) hk
    refine br_f (bs_ge3 hk) (xs_st hk ht ?_)
    rw [bs_ix, nI_clamp (by omega), nI_clamp (by omega)]
    refine ⟨vp_in_nI (by omega) (by decide), vp_in_nI hk (by decide), nm_e ?_⟩
    have YES : ch_H R t u k → wX_findChance_126 post (wX_findChance_56 post (nI i) (nI t) (nI u) m) (nI i) (nI t) (nI u) (nI k) fu fl (fun n => nI (R n)) re s.1 (upd s.2 k (nI (R (4 * fm_st k t + t)))) :=
      fun hy => xc_126 hk hs.1 (fun ma' hm' => ih (ma', _) (sy_yes hs hy hm'))
    have NO : ¬ ch_H R t u k → ∀ y, y = nI k + 1 → wX_findChance_56 post (nI i) (nI t) (nI u) m y fu fl (fun n => nI (R n)) re s.1 (upd s.2 k (nI (R (4 * fm_st k t + t)))) :=
      fun hn => nm_r (nI_1 k) (ih (s.1, _) (sy_no hs hn))
    have W112 : ¬ (¬ rt_R (xr_E R (-1)) (fm_st k t) t ∧ ¬ rt_R (xr_E R (-1)) (fm_st k t) u) → wX_findChance_112 post (wX_findChance_56 post (nI i) (nI t) (nI u) m) (nI i) (nI t) (nI u) (nI k) (nI (fm_st k t)) fu fl (fun n => nI (R n)) re s.1 (upd s.2 k (nI (R (4 * fm_st k t + t)))) :=
      fun q => pk_eq (fm_st k t) u (fun e => YES (.inl e)) (fun e => br_t rfl (NO (fun z => z.elim e q)))
    refine cx_can h4 ht (hre _ _ h4 ht) (cx_br0 (fun q => cx_can h4 hu (hre _ _ h4 hu) (cx_br0 (fun q2 => ?_) (fun q2 => W112 (fun z => z.2 q2)))) (fun q => W112 (fun z => z.1 q)))
    exact pk_eq (fm_st k t) u (fun e => YES (.inl e)) (fun e => br_f (by decide) (YES (.inr ⟨q, q2⟩)))
/-! times -/
def ti_H (R : Nat → Nat) (i t r : Nat) : Prop := ¬ rt_R (xr_E R (nI t)) i (fm_st r t)
theorem xt_53 {post : SX → Prop} {fu fl : Int32} {R : Nat → Nat} {re ma ri : Nat → Int32} {i t n d : Nat} (hi : i < 4) (ht : t < 4) (hit : i ≠ t)
    (hre : cx_Re (rt_R (xr_E R (nI t))) re) (hm : dt_Ma (fm_M R t) ma)
    (hd : dt_3 (xs_M (ti_H R i t) (fm_M R t)) = (d : Int)) (hn : dt_3 (xs_N (sv_c i t) (xs_M (ti_H R i t) (fm_M R t)) (xs_b (ti_H R i t) (fun _ => 1))) = (n : Int)) (h0 : 0 < d) (bd : d < 2 ^ 31) (bn : n < 2 ^ 31)
    (h : ∀ ma' ri', post (nI (n / Nat.gcd n d), nI (d / Nat.gcd n d), (fun n => nI (R n)), re, ma', ri')) :
    ∃ n53, wX_findTime_53 post (nI i) (nI t) n53 0 fu fl (fun n => nI (R n)) re ma ri := by
  refine loop_0 (fun n k (s : (Nat → Int32) × (Nat → Int32)) => wX_findTime_53 post (nI i) (nI t) n (nI k) fu fl (fun n => nI (R n)) re s.1 s.2) (fun k s => sy_I (fm_M R t) (ti_H R i t) (fun _ => 1) k s.1 s.2) 3 (ma, ri) (sy_0 hm) ?_ ?_
  · intro m s hs
    exact br_t bs_le3 (sv_solve (sy_3 hs) (fun r hr => hs.2 r hr) hi ht hit hd hn h0 bd bn (fun ma' => h ma' s.2))
  · intro m k s hk hs ih
    have h4 := fm_st4 (out := t) hk
    refine br_f (bs_ge3 hk) (xs_st hk ht ?_)
    rw [nI_clamp (by omega)]
    refine ⟨vp_in_nI hk (by decide), nm_e ?_⟩
    refine cx_can hi h4 (hre _ _ hi h4) (cx_br0 (fun q => xh_hold hk hs.1 (fun ma' hm' => nm_r (nI_1 k) (ih (ma', _) (sy_yes hs q hm')))) (fun q => nm_r (nI_1 k) (ih (s.1, _) (sy_no (b := fun _ => 1) hs (fun z => z q)))))
def mm_M (P : Nat → Nat → Prop) (i t : Nat) : Prop := ∃ s, s < 4 ∧ P i s ∧ ¬ P s t
theorem xm_miss {post : Int32 → Prop} {fu fl : Int32} {ra re ma ri : Nat → Int32} {P : Nat → Nat → Prop} {i t : Nat} (hi : i < 4) (ht : t < 4) (hre : cx_Re P re)
    (h : post (cx_b (mm_M P i t))) : wpX_mayMiss post (fu, fl, ra, re, ma, ri) (nI i) (nI t) := by
  refine loop_0 (σ := Unit) (fun n j _ => wX_mayMiss_2 post (nI i) (nI t) fu fl ra re ma ri n (nI j)) (fun j _ => ∀ k, k < j → P i k → P k t) 4 () (fun k hk => by omega) ?_ ?_
  · intro n _ hI
    rw [cx_f (fun z : mm_M P i t => by obtain ⟨s, h1, h2, h3⟩ := z; exact h3 (hI s h1 h2))] at h
    exact br_t bs_le4 h
  · intro n j _ hj hI ih
    refine br_f (bs_ge4 hj) (cx_can hi hj (hre i j hi hj) (cx_br0 (fun q => nm_r (nI_1 j) (ih () (lt_s hI (fun z => absurd z q)))) (fun q => cx_can hj ht (hre j t hj ht) (cx_br0 (fun q2 => ?_) (fun q2 => nm_r (nI_1 j) (ih () (lt_s hI (fun _ => q2))))))))
    rw [cx_t (show mm_M P i t from ⟨j, hj, q, q2⟩)] at h
    exact h
end
section
/-! ===== Y: outflow, divisor, equations ===== -/
theorem of_le {R : Nat → Nat} (hR : ∀ n, R n ≤ 9) (i : Nat) : of_O R i ≤ 36 := by
  have h0 := hR (4 * i + 0)
  have h1 := hR (4 * i + 1)
  have h2 := hR (4 * i + 2)
  have h3 := hR (4 * i + 3)
  show of_S R i 4 ≤ 36
  simp only [of_S]
  omega
theorem yo_out {post : Int32 → Prop} {R : Nat → Nat} {su co rg : Nat → Int64} {i : Nat} (hi : i < 4) (h : post (nI (of_O R i))) :
    wpY_outflow post ((fun n => nI (R n)), su, co, rg) (nI i) := by
  refine loop_0 (fun n j s => wY_outflow_4 post (nI i) (fun n => nI (R n)) su co rg n (nI s) (nI j)) (fun j s => s = of_S R i j) 4 0 rfl ?_ ?_
  · intro n s hs
    subst hs
    exact br_t bs_le4 h
  · intro n j s hj hs ih
    refine br_f (bs_ge4 hj) ?_
    rw [bs_iy, nI_clamp (by omega)]
    refine ⟨vp_in_nI (by omega) (by decide), nm_r (nI_add s (R (4 * i + j))) (nm_r (nI_1 j) (ih _ ?_))⟩
    subst hs
    rfl
theorem yn_neg : ∀ n, n < 10 → (-(nI n)).toInt64 = Int64.ofInt (-(n : Int)) := by decide +kernel
theorem yg_28 {post : Int64 → Prop} : ∀ f b s, s < f → b < 2 ^ 63 → s < 2 ^ 63 → post (lN (Nat.gcd b s)) → wY_divisor_28 post f (lN b) (lN s) := by
  intro f
  induction f with
  | zero => intro b s h; exact absurd h (Nat.not_lt_zero s)
  | succ f ih =>
    intro b s hf hb hs h
    by_cases e : s = 0
    · subst e
      rw [Nat.gcd_zero_right] at h
      exact br_t rfl h
    · have hne : ¬ lN s = 0 := fun z => e ((pk_lEQ (b := 0) hs (by decide)).mp z)
      have hr : b % s < s := Nat.mod_lt _ (by omega)
      have g1 : Nat.gcd b s = Nat.gcd s (b % s) := by rw [Nat.gcd_comm b s, Nat.gcd_rec s b, Nat.gcd_comm]
      rw [g1] at h
      exact br_f hne ⟨hne, nm_r (pk_lRem hb (by omega) hs) (ih s (b % s) (by omega) hs (by omega) h)⟩
theorem yg_gcd {post : Int64 → Prop} {a b : Nat} (ha : a < 2 ^ 63) (hb : b < 2 ^ 63) (h : post (lN (Nat.gcd a b))) : wpY_divisor post (lN a) (lN b) := by
  have p : ∀ n, n < 2 ^ 63 → (0 : Int64) ≤ lN n := fun n hn => (pk_lLE (a := 0) (by decide) hn).mpr (Nat.zero_le n)
  exact br_t (p a ha) (br_t (p b hb) ⟨b + 1, yg_28 (b + 1) a b (by omega) ha hb h⟩)
/-! rows of the system -/
def id_i (r s : Nat) : Int := if r = s then 1 else 0
theorem ye_eq {post : SY → Prop} {ra : Nat → Int32} {su co rg : Nat → Int64} {row un : Nat} {x : Int64} (hr : row < 4) (hu : un < 4)
    (h : ∀ co', (∀ n, n < 4 * row → co' n = co n) → (∀ r, r < 4 → co' (4 * row + r) = Int64.ofInt (id_i r un)) → post (ra, su, co', vp_updL rg row x)) :
    wpY_equation post (ra, su, co, rg) (nI row) (nI un) x := by
  refine loop_0 (fun n j s => wY_equation_3 post (nI row) (nI un) x n (nI j) ra su s rg) (fun j s => (∀ n, n < 4 * row → s n = co n) ∧ ∀ r, r < j → s (4 * row + r) = Int64.ofInt (id_i r un)) 4 co ⟨fun _ _ => rfl, fun r h => by omega⟩ ?_ ?_
  · intro n s hs
    refine br_t bs_le4 ⟨vp_in_nI hr (by decide), ?_⟩
    rw [nI_clamp (by omega)]
    exact nm_e (h s hs.1 hs.2)
  · intro n j s hj hs ih
    have hin : vp_in (nI (4 * row + j)) 16 := vp_in_nI (by omega) (by decide)
    have st : ∀ y : Int64, y = Int64.ofInt (id_i j un) → (∀ n, n < 4 * row → vp_updL s (4 * row + j) y n = co n) ∧ ∀ r, r < j + 1 → vp_updL s (4 * row + j) y (4 * row + r) = Int64.ofInt (id_i r un) := by
      intro y hy
      refine ⟨fun n hn => by rw [pk_uLn (by omega)]; exact hs.1 n hn, fun r hr => ?_⟩
      by_cases e : r = j
      · subst e; rw [pk_uLs, hy]
      · rw [pk_uLn (by omega)]; exact hs.2 r (by omega)
    refine br_f (bs_ge4 hj) ?_
    rw [bs_iy, nI_clamp (by omega)]
    exact pk_eq j un (fun e => ⟨hin, nm_e (nm_r (nI_1 j) (ih _ (st _ (by unfold id_i; rw [if_pos e]; rfl))))⟩) (fun e => ⟨hin, nm_e (nm_r (nI_1 j) (ih _ (st _ (by unfold id_i; rw [if_neg e]; rfl))))⟩)
def yw_I (R : Nat → Nat) (s : Nat) (co0 : Nat → Int64) (j : Nat) (co : Nat → Int64) : Prop := (∀ n, n < 4 * s → co n = co0 n) ∧ ∀ r, r < j → co (4 * s + r) = Int64.ofInt (fm_A R s r)
theorem yw_s {R : Nat → Nat} {s : Nat} {co0 : Nat → Int64} {j : Nat} {co : Nat → Int64} {y : Int64} (h : yw_I R s co0 j co) (hy : y = Int64.ofInt (fm_A R s j)) : yw_I R s co0 (j + 1) (vp_updL co (4 * s + j) y) := by
  refine ⟨fun n hn => by rw [pk_uLn (by omega)]; exact h.1 n hn, fun r hr => ?_⟩
  by_cases e : r = j
  · subst e; rw [pk_uLs, hy]
  · rw [pk_uLn (by omega)]; exact h.2 r (by omega)
theorem yw_d {R : Nat → Nat} (hR : ∀ n, R n ≤ 9) {s j : Nat} (e : j = s) : (nI (of_O R s)).toInt64 = Int64.ofInt (fm_A R s j) := by
  have := of_le hR s
  unfold fm_A
  rw [if_pos e.symm, nI_l (by omega)]
  rfl
theorem yw_o {R : Nat → Nat} (hR : ∀ n, R n ≤ 9) {s j : Nat} (e : j ≠ s) : (-(nI (R (4 * s + j)))).toInt64 = Int64.ofInt (fm_A R s j) := by
  unfold fm_A
  rw [if_neg (fun z => e z.symm)]
  exact yn_neg _ (by have := hR (4 * s + j); omega)
theorem yc_67 {post : SY → Prop} {J2 : Int32 → (Nat → Int32) → (Nat → Int64) → (Nat → Int64) → (Nat → Int64) → Prop} {x1 x2 : Int32} {R : Nat → Nat} {su co rg : Nat → Int64} {s : Nat} (hR : ∀ n, R n ≤ 9) (hs : s < 4)
    (h : ∀ co', yw_I R s co 4 co' → J2 (nI (s + 1)) (fun n => nI (R n)) su co' rg) :
    ∃ n, wY_chances_67 post J2 x1 x2 (nI s) n 0 (fun n => nI (R n)) su co rg := by
  refine loop_0 (fun n j c => wY_chances_67 post J2 x1 x2 (nI s) n (nI j) (fun n => nI (R n)) su c rg) (fun j c => yw_I R s co j c) 4 co ⟨fun _ _ => rfl, fun r h => by omega⟩ ?_ ?_
  · intro n c hc
    exact br_t bs_le4 (nm_r (nI_1 s) (h c hc))
  · intro n j c hj hc ih
    have hin : vp_in (nI (4 * s + j)) 16 := vp_in_nI (by omega) (by decide)
    refine br_f (bs_ge4 hj) ?_
    rw [bs_iy, nI_clamp (by omega)]
    exact pk_eq j s (fun e => yo_out hs ⟨hin, nm_e (nm_r (nI_1 j) (ih _ (yw_s hc (yw_d hR e))))⟩) (fun e => ⟨hin, hin, nm_e (nm_r (nI_1 j) (ih _ (yw_s hc (yw_o hR e))))⟩)
theorem yt_55 {post : SY → Prop} {J21 : Int32 → (Nat → Int32) → (Nat → Int64) → (Nat → Int64) → (Nat → Int64) → Prop} {x2 x3 : Int32} {R : Nat → Nat} {su co rg : Nat → Int64} {s : Nat} (hR : ∀ n, R n ≤ 9) (hs : s < 4)
    (h : ∀ co', yw_I R s co 4 co' → J21 (nI (s + 1)) (fun n => nI (R n)) su co' (vp_updL rg s 1)) :
    ∃ n, wY_times_55 post J21 x2 x3 (nI s) n 0 (fun n => nI (R n)) su co rg := by
  refine loop_0 (fun n j c => wY_times_55 post J21 x2 x3 (nI s) n (nI j) (fun n => nI (R n)) su c rg) (fun j c => yw_I R s co j c) 4 co ⟨fun _ _ => rfl, fun r h => by omega⟩ ?_ ?_
  · intro n c hc
    refine br_t bs_le4 ⟨vp_in_nI hs (by decide), ?_⟩
    rw [nI_clamp (by omega)]
    exact nm_e (nm_r (nI_1 s) (h c hc))
  · intro n j c hj hc ih
    have hin : vp_in (nI (4 * s + j)) 16 := vp_in_nI (by omega) (by decide)
    refine br_f (bs_ge4 hj) ?_
    rw [bs_iy, nI_clamp (by omega)]
    exact pk_eq j s (fun e => yo_out hs ⟨hin, nm_e (nm_r (nI_1 j) (ih _ (yw_s hc (yw_d hR e))))⟩) (fun e => ⟨hin, hin, nm_e (nm_r (nI_1 j) (ih _ (yw_s hc (yw_o hR e))))⟩)
/-- rows of H are held, the others say what flows -/
noncomputable def yn_N (R : Nat → Nat) (H : Nat → Prop) (s r : Nat) : Int := ci_i (H s) (id_i r s) (fm_A R s r)
def ys_I (N : Nat → Nat → Int) (g : Nat → Int) (k : Nat) (co rg : Nat → Int64) : Prop := ∀ s, s < k → (∀ r, r < 4 → co (4 * s + r) = Int64.ofInt (N s r)) ∧ rg s = Int64.ofInt (g s)
theorem ys_s {N : Nat → Nat → Int} {g : Nat → Int} {k : Nat} {co co' rg rg' : Nat → Int64} (h : ys_I N g k co rg) (h1 : ∀ n, n < 4 * k → co' n = co n) (h2 : ∀ r, r < 4 → co' (4 * k + r) = Int64.ofInt (N k r))
    (h3 : ∀ s, s < k → rg' s = rg s) (h4 : rg' k = Int64.ofInt (g k)) : ys_I N g (k + 1) co' rg' := by
  intro s hs
  by_cases e : s = k
  · subst e; exact ⟨h2, h4⟩
  · have l : s < k := by omega
    exact ⟨fun r hr => by rw [h1 _ (by omega)]; exact (h s l).1 r hr, by rw [h3 s l]; exact (h s l).2⟩
def yc_D (R : Nat → Nat) (t u s : Nat) : Prop := s = u ∨ ¬ rt_R (yr_E R s (2 ^ t ||| 2 ^ u)) s t
def yc_H (R : Nat → Nat) (t u s : Nat) : Prop := s = t ∨ yc_D R t u s
theorem yc_ch {post : SY → Prop} {R : Nat → Nat} {su co rg : Nat → Int64} {t u : Nat} (hR : ∀ n, R n ≤ 9) (ht : t < 4) (hu : u < 4)
    (h : ∀ co' rg', ys_I (yn_N R (yc_H R t u)) (fun s => id_i s t) 4 co' rg' → post ((fun n => nI (R n)), su, co', rg')) :
    wpY_chances post ((fun n => nI (R n)), su, co, rg) (nI t) (nI u) := by
  refine loop_0 (fun n k (s : (Nat → Int64) × (Nat → Int64)) => wY_chances_2 post (nI t) (nI u) n (nI k) (fun n => nI (R n)) su s.1 s.2) (fun k s => ys_I (yn_N R (yc_H R t u)) (fun s => id_i s t) k s.1 s.2) 4 (co, rg) (fun s h => by omega) ?_ ?_
  · intro n s hs
    exact br_t bs_le4 (h s.1 s.2 hs)
  · intro n k s hk hs ih
    have EQ : ∀ (z : Int32) (x : Int64), x = Int64.ofInt (id_i k t) → (yc_D R t u k → ¬ z = 0) → (¬ yc_D R t u k → z = 0) →
        wY_chances_51 post (wY_chances_2 post (nI t) (nI u) n) (nI t) (nI u) (nI k) z x (nI k) (nI k) (fun n => nI (R n)) su s.1 s.2 := by
      intro z x hx hz1 hz2
      refine ye_eq hk hk (fun co' c1 c2 => ?_)
      have r1 : ∀ q, q < k → vp_updL s.2 k x q = s.2 q := fun q hq => pk_uLn (by omega)
      have r2 : vp_updL s.2 k x k = Int64.ofInt (id_i k t) := by rw [pk_uLs, hx]
      have HELD : yc_H R t u k → ys_I (yn_N R (yc_H R t u)) (fun s => id_i s t) (k + 1) co' (vp_updL s.2 k x) := by
        intro hH
        refine ys_s hs c1 (fun r hr => ?_) r1 r2
        rw [c2 r hr]; unfold yn_N; rw [ci_t hH]
      refine pk_eq k t (fun e => nm_r (nI_1 k) (ih (co', vp_updL s.2 k x) (HELD (.inl e)))) (fun e => ?_)
      by_cases hd : yc_D R t u k
      · exact br_f (hz1 hd) (nm_r (nI_1 k) (ih (co', vp_updL s.2 k x) (HELD (.inr hd))))
      · refine br_t (hz2 hd) (yc_67 hR hk (fun co2 hc2 => ih (co2, vp_updL s.2 k x) ?_))
        refine ys_s hs (fun q hq => (hc2.1 q hq).trans (c1 q hq)) (fun r hr => ?_) r1 r2
        dsimp only; rw [hc2.2 r hr]; unfold yn_N; rw [ci_f (fun z => z.elim e hd)]
    have E36 : ∀ z : Int32, (yc_D R t u k → ¬ z = 0) → (¬ yc_D R t u k → z = 0) → wY_chances_36 post (wY_chances_2 post (nI t) (nI u) n) (nI t) (nI u) (nI k) z (fun n => nI (R n)) su s.1 s.2 :=
      fun z h1 h2 => pk_eq k t (fun e => EQ z 1 (by unfold id_i; rw [if_pos e]; rfl) h1 h2) (fun e => EQ z 0 (by unfold id_i; rw [if_neg e]; rfl) h1 h2)
    refine br_f (bs_ge4 hk) (pk_eq k u (fun e => E36 1 (fun _ => by decide) (fun z => absurd (.inl e) z)) (fun e => ?_))
    rw [bs_shl1 t ht, bs_or (2 ^ t) (bs_one t ht).1 u hu]
    refine yr_reached hR hk (bs_or16 _ (bs_one t ht).1 u hu) (fun m hm hb => bs_br0 hm ht (fun q => E36 1 (fun _ => by decide) (fun z => absurd (.inr (fun w => q ((hb t ht).mpr w))) z)) (fun q => E36 0 (fun z => ?_) (fun _ => rfl)))
    exact absurd ((hb t ht).mp q) (z.resolve_left e)
def yt_H (t m s : Nat) : Prop := s = t ∨ ¬ m.testBit s = true
noncomputable def yt_g (t m s : Nat) : Int := ci_i (yt_H t m s) 0 1
theorem yt_21 {post : SY → Prop} {R : Nat → Nat} {su co rg : Nat → Int64} {t m : Nat} (hR : ∀ n, R n ≤ 9) (ht : t < 4) (hm : m < 16)
    (h : ∀ co' rg', ys_I (yn_N R (yt_H t m)) (yt_g t m) 4 co' rg' → post ((fun n => nI (R n)), su, co', rg')) :
    ∃ n, wY_times_21 post (nI t) (nI m) n 0 (fun n => nI (R n)) su co rg := by
  refine loop_0 (fun n k (s : (Nat → Int64) × (Nat → Int64)) => wY_times_21 post (nI t) (nI m) n (nI k) (fun n => nI (R n)) su s.1 s.2) (fun k s => ys_I (yn_N R (yt_H t m)) (yt_g t m) k s.1 s.2) 4 (co, rg) (fun s h => by omega) ?_ ?_
  · intro n s hs
    exact br_t bs_le4 (h s.1 s.2 hs)
  · intro n k s hk hs ih
    refine br_f (bs_ge4 hk) (ye_eq hk hk (fun co' c1 c2 => ?_))
    have r1 : ∀ q, q < k → vp_updL s.2 k 0 q = s.2 q := fun q hq => pk_uLn (by omega)
    have HELD : yt_H t m k → ys_I (yn_N R (yt_H t m)) (yt_g t m) (k + 1) co' (vp_updL s.2 k 0) := by
      intro hH
      refine ys_s hs c1 (fun r hr => ?_) r1 ?_
      · rw [c2 r hr]; unfold yn_N; rw [ci_t hH]
      · rw [pk_uLs]; unfold yt_g; rw [ci_t hH]; rfl
    refine pk_eq k t (fun e => nm_r (nI_1 k) (ih (co', vp_updL s.2 k 0) (HELD (.inl e)))) (fun e => bs_br1 hm hk (fun q => yt_55 hR hk (fun co2 hc2 => ih (co2, vp_updL (vp_updL s.2 k 0) k 1) ?_)) (fun q => nm_r (nI_1 k) (ih (co', vp_updL s.2 k 0) (HELD (.inr q)))))
    have hH : ¬ yt_H t m k := fun z => z.elim e (fun w => w q)
    refine ys_s hs (fun q hq => (hc2.1 q hq).trans (c1 q hq)) (fun r hr => ?_) (fun q hq => ?_) ?_
    · dsimp only; rw [hc2.2 r hr]; unfold yn_N; rw [ci_f hH]
    · dsimp only; rw [pk_uLn (by omega)]; exact r1 q hq
    · dsimp only; rw [pk_uLs]; unfold yt_g; rw [ci_f hH]; rfl
end
section
/-! ===== Y: determinant, fraction ===== -/
def dg_d (p r : Nat) : Nat := p / 4 ^ r % 4
theorem dg_lt (p r : Nat) : dg_d p r < 4 := Nat.mod_lt _ (by decide)
theorem dg_e : ∀ p, p < 256 → ∀ r, r < 4 → (nI p >>> ((2 * nI r) &&& 31)) &&& 3 = nI (dg_d p r) := by decide +kernel
def dy_fp (seen c : Nat) : Nat → Int
  | 0 => 1
  | k + 1 => dy_fp seen c k * (if seen.testBit (c + 1 + k) then -1 else 1)
def dy_fl (seen c : Nat) : Int := dy_fp seen c (3 - c)
def dy_seen (p : Nat) : Nat → Nat
  | 0 => 0
  | r + 1 => dy_seen p r ||| 2 ^ (dg_d p r)
def dy_sg (p : Nat) : Nat → Int
  | 0 => 1
  | r + 1 => dy_sg p r * dy_fl (dy_seen p r) (dg_d p r)
def dy_pr (E : Nat → Nat → Int) (p : Nat) : Nat → Int
  | 0 => 1
  | r + 1 => dy_pr E p r * E r (dg_d p r)
def dy_T (E : Nat → Nat → Int) (p : Nat) : Int := if dy_seen p 4 = 15 then dy_sg p 4 * dy_pr E p 4 else 0
def dy_S (E : Nat → Nat → Int) : Nat → Int
  | 0 => 0
  | p + 1 => dy_S E p + dy_T E p
theorem dy_seen16 (p : Nat) : ∀ r, dy_seen p r < 16
  | 0 => (by decide : 0 < 16)
  | r + 1 => bs_or16 _ (dy_seen16 p r) _ (dg_lt p r)
def dy_E (E : Nat → Nat → Int) (co rg : Nat → Int64) (x : Int32) : Prop := ∀ r c, r < 4 → c < 4 → (nI c = x → rg r = Int64.ofInt (E r c)) ∧ (¬ nI c = x → co (4 * r + c) = Int64.ofInt (E r c))
theorem yd_ent {post : Int64 → Prop} {ra : Nat → Int32} {su co rg : Nat → Int64} {x : Int32} {E : Nat → Nat → Int} {r c : Nat} (hE : dy_E E co rg x) (hr : r < 4) (hc : c < 4) (h : post (Int64.ofInt (E r c))) :
    wpY_entry post (ra, su, co, rg) (nI r) (nI c) x := by
  unfold wpY_entry
  dsimp only
  rw [bs_iy, nI_clamp (by omega), nI_clamp (by omega)]
  refine br_c (fun e => ⟨vp_in_nI hr (by decide), ?_⟩) (fun e => ⟨vp_in_nI (by omega) (by decide), ?_⟩)
  · rw [(hE r c hr hc).1 e]; exact h
  · rw [(hE r c hr hc).2 e]; exact h
theorem yd_45 {post : Int64 → Prop} {J5 : Int64 → Int32 → Prop} {J22 : Int32 → Int64 → Int32 → Prop} {x1 x4 : Int32} {x2 : Int64} {ra : Nat → Int32} {su co rg : Nat → Int64} {E : Nat → Nat → Int} {seen r c : Nat} {z0 : Int}
    (hE : dy_E E co rg x1) (hs : seen < 16) (hr : r < 4) (hc : c < 4) (h : J22 (nI (seen ||| 2 ^ c)) (Int64.ofInt (z0 * dy_fl seen c * E r c)) (nI (r + 1))) :
    ∃ n, wY_determinant_45 post J5 J22 x1 x2 x4 (nI seen) (nI r) (nI c) ra su co rg n (Int64.ofInt z0) (nI (c + 1)) := by
  refine pk_loop (fun n b z => wY_determinant_45 post J5 J22 x1 x2 x4 (nI seen) (nI r) (nI c) ra su co rg n (Int64.ofInt z) (nI b)) (fun b z => c + 1 ≤ b ∧ z = z0 * dy_fp seen c (b - (c + 1))) 4 (c + 1) z0 (by omega) ⟨Nat.le_refl _, ?_⟩ ?_ ?_
  · rw [Nat.sub_self]; show z0 = z0 * 1; rw [Int.mul_one]
  · intro n z hz
    refine br_t bs_le4 (nm_r (bs_or seen hs c hc) (yd_ent hE hr hc (nm_r ?_ (nm_r (nI_1 r) h))))
    rw [hz.2, Int64.ofInt_mul (z0 * dy_fl seen c)]
    unfold dy_fl
    rw [show 4 - (c + 1) = 3 - c by omega]
  · intro n b z hb hz ih
    have e : b + 1 - (c + 1) = (b - (c + 1)) + 1 := by omega
    have e2 : c + 1 + (b - (c + 1)) = b := by omega
    refine br_f (bs_ge4 hb) (bs_br1 hs hb (fun q => ?_) (fun q => ?_))
    · rw [← Int64.ofInt_neg]
      refine nm_e (nm_r (nI_1 b) (ih _ ⟨by omega, ?_⟩))
      rw [e]; show _ = z0 * (dy_fp seen c (b - (c + 1)) * _)
      rw [e2, if_pos q, hz.2]; grind
    · refine nm_r (nI_1 b) (ih _ ⟨by omega, ?_⟩)
      rw [e]; show _ = z0 * (dy_fp seen c (b - (c + 1)) * _)
      rw [e2, if_neg q, hz.2]; grind
theorem yd_22 {post : Int64 → Prop} {J5 : Int64 → Int32 → Prop} {x1 : Int32} {ra : Nat → Int32} {su co rg : Nat → Int64} {E : Nat → Nat → Int} {p : Nat} {s : Int} (hp : p < 256)
    (hE : dy_E E co rg x1) (h : J5 (Int64.ofInt (s + dy_T E p)) (nI (p + 1))) :
    ∃ n, wY_determinant_22 post J5 x1 (Int64.ofInt s) (nI p) ra su co rg n 0 1 0 := by
  refine loop_0 (fun n r (q : Nat × Int) => wY_determinant_22 post J5 x1 (Int64.ofInt s) (nI p) ra su co rg n (nI q.1) (Int64.ofInt q.2) (nI r)) (fun r q => q.1 = dy_seen p r ∧ q.2 = dy_sg p r * dy_pr E p r) 4 (0, 1) ⟨rfl, rfl⟩ ?_ ?_
  · intro n q hq
    refine br_t bs_le4 ?_
    rw [hq.1, hq.2]
    have := dy_seen16 p 4
    unfold dy_T at h
    refine pk_eq (dy_seen p 4) 15 (fun e => ?_) (fun e => ?_)
    · rw [if_pos e] at h
      rw [← Int64.ofInt_add]
      exact nm_e (nm_r (nI_1 p) h)
    · rw [if_neg e, Int.add_zero] at h
      exact nm_r (nI_1 p) h
  · intro n r q hr hq ih
    have hs := dy_seen16 p r
    have hc := dg_lt p r
    refine br_f (bs_ge4 hr) (nm_r (dg_e p hp r hr) (nm_r (nI_1 _) ?_))
    rw [hq.1, hq.2]
    refine yd_45 hE hs hr hc (ih (_, _) ⟨rfl, ?_⟩)
    show _ = dy_sg p r * dy_fl (dy_seen p r) (dg_d p r) * (dy_pr E p r * E r (dg_d p r))
    grind
theorem yd_det {post : Int64 → Prop} {x1 : Int32} {ra : Nat → Int32} {su co rg : Nat → Int64} {E : Nat → Nat → Int}
    (hE : dy_E E co rg x1) (h : post (Int64.ofInt (dy_S E 256))) : wpY_determinant post (ra, su, co, rg) x1 := by
  refine loop_0 (fun n p (s : Int) => wY_determinant_5 post x1 ra su co rg n (Int64.ofInt s) (nI p)) (fun p s => s = dy_S E p) 256 0 rfl ?_ ?_
  · intro n s hs
    subst hs
    exact br_t bs_le256 h
  · intro n p s hp hs ih
    subst hs
    exact br_f (bs_ge256 hp) (yd_22 hp hE (ih _ rfl))
/-! the sum is the determinant -/
def dt_4 (E : Nat → Nat → Int) : Int :=
  E 0 0 * (E 1 1 * (E 2 2 * E 3 3 - E 2 3 * E 3 2) - E 1 2 * (E 2 1 * E 3 3 - E 2 3 * E 3 1) + E 1 3 * (E 2 1 * E 3 2 - E 2 2 * E 3 1))
  - E 0 1 * (E 1 0 * (E 2 2 * E 3 3 - E 2 3 * E 3 2) - E 1 2 * (E 2 0 * E 3 3 - E 2 3 * E 3 0) + E 1 3 * (E 2 0 * E 3 2 - E 2 2 * E 3 0))
  + E 0 2 * (E 1 0 * (E 2 1 * E 3 3 - E 2 3 * E 3 1) - E 1 1 * (E 2 0 * E 3 3 - E 2 3 * E 3 0) + E 1 3 * (E 2 0 * E 3 1 - E 2 1 * E 3 0))
  - E 0 3 * (E 1 0 * (E 2 1 * E 3 2 - E 2 2 * E 3 1) - E 1 1 * (E 2 0 * E 3 2 - E 2 2 * E 3 0) + E 1 2 * (E 2 0 * E 3 1 - E 2 1 * E 3 0))
def dy_L (E : Nat → Nat → Int) : List Nat → Int
  | [] => 0
  | p :: l => dy_sg p 4 * dy_pr E p 4 + dy_L E l
def dy_F : Nat → List Nat → List Nat
  | 0, l => l
  | p + 1, l => dy_F p (if dy_seen p 4 = 15 then p :: l else l)
theorem dy_SF (E : Nat → Nat → Int) : ∀ n l, dy_S E n + dy_L E l = dy_L E (dy_F n l)
  | 0, l => by show 0 + dy_L E l = dy_L E l; rw [Int.zero_add]
  | n + 1, l => by
    show dy_S E n + dy_T E n + dy_L E l = dy_L E (dy_F n (if dy_seen n 4 = 15 then n :: l else l))
    rw [← dy_SF E n]
    unfold dy_T
    split
    · show _ = dy_S E n + (dy_sg n 4 * dy_pr E n 4 + dy_L E l); grind
    · grind
theorem dy_Fl : dy_F 256 [] = [27, 30, 39, 45, 54, 57, 75, 78, 99, 108, 114, 120, 135, 141, 147, 156, 177, 180, 198, 201, 210, 216, 225, 228] := by decide +kernel
theorem dy_p27 (E : Nat → Nat → Int) : dy_sg 27 4 * dy_pr E 27 4 = (E 0 3 * E 1 2 * E 2 1 * E 3 0) := by
  have h : dy_sg 27 4 = 1 := by decide +kernel
  have g : dy_pr E 27 4 = 1 * E 0 3 * E 1 2 * E 2 1 * E 3 0 := rfl
  rw [h, g]; grind
theorem dy_p30 (E : Nat → Nat → Int) : dy_sg 30 4 * dy_pr E 30 4 = -(E 0 2 * E 1 3 * E 2 1 * E 3 0) := by
  have h : dy_sg 30 4 = -1 := by decide +kernel
  have g : dy_pr E 30 4 = 1 * E 0 2 * E 1 3 * E 2 1 * E 3 0 := rfl
  rw [h, g]; grind
theorem dy_p39 (E : Nat → Nat → Int) : dy_sg 39 4 * dy_pr E 39 4 = -(E 0 3 * E 1 1 * E 2 2 * E 3 0) := by
  have h : dy_sg 39 4 = -1 := by decide +kernel
  have g : dy_pr E 39 4 = 1 * E 0 3 * E 1 1 * E 2 2 * E 3 0 := rfl
  rw [h, g]; grind
theorem dy_p45 (E : Nat → Nat → Int) : dy_sg 45 4 * dy_pr E 45 4 = (E 0 1 * E 1 3 * E 2 2 * E 3 0) := by
  have h : dy_sg 45 4 = 1 := by decide +kernel
  have g : dy_pr E 45 4 = 1 * E 0 1 * E 1 3 * E 2 2 * E 3 0 := rfl
  rw [h, g]; grind
theorem dy_p54 (E : Nat → Nat → Int) : dy_sg 54 4 * dy_pr E 54 4 = (E 0 2 * E 1 1 * E 2 3 * E 3 0) := by
  have h : dy_sg 54 4 = 1 := by decide +kernel
  have g : dy_pr E 54 4 = 1 * E 0 2 * E 1 1 * E 2 3 * E 3 0 := rfl
  rw [h, g]; grind
theorem dy_p57 (E : Nat → Nat → Int) : dy_sg 57 4 * dy_pr E 57 4 = -(E 0 1 * E 1 2 * E 2 3 * E 3 0) := by
  have h : dy_sg 57 4 = -1 := by decide +kernel
  have g : dy_pr E 57 4 = 1 * E 0 1 * E 1 2 * E 2 3 * E 3 0 := rfl
  rw [h, g]; grind
theorem dy_p75 (E : Nat → Nat → Int) : dy_sg 75 4 * dy_pr E 75 4 = -(E 0 3 * E 1 2 * E 2 0 * E 3 1) := by
  have h : dy_sg 75 4 = -1 := by decide +kernel
  have g : dy_pr E 75 4 = 1 * E 0 3 * E 1 2 * E 2 0 * E 3 1 := rfl
  rw [h, g]; grind
theorem dy_p78 (E : Nat → Nat → Int) : dy_sg 78 4 * dy_pr E 78 4 = (E 0 2 * E 1 3 * E 2 0 * E 3 1) := by
  have h : dy_sg 78 4 = 1 := by decide +kernel
  have g : dy_pr E 78 4 = 1 * E 0 2 * E 1 3 * E 2 0 * E 3 1 := rfl
  rw [h, g]; grind
theorem dy_p99 (E : Nat → Nat → Int) : dy_sg 99 4 * dy_pr E 99 4 = (E 0 3 * E 1 0 * E 2 2 * E 3 1) := by
  have h : dy_sg 99 4 = 1 := by decide +kernel
  have g : dy_pr E 99 4 = 1 * E 0 3 * E 1 0 * E 2 2 * E 3 1 := rfl
  rw [h, g]; grind
theorem dy_p108 (E : Nat → Nat → Int) : dy_sg 108 4 * dy_pr E 108 4 = -(E 0 0 * E 1 3 * E 2 2 * E 3 1) := by
  have h : dy_sg 108 4 = -1 := by decide +kernel
  have g : dy_pr E 108 4 = 1 * E 0 0 * E 1 3 * E 2 2 * E 3 1 := rfl
  rw [h, g]; grind
theorem dy_p114 (E : Nat → Nat → Int) : dy_sg 114 4 * dy_pr E 114 4 = -(E 0 2 * E 1 0 * E 2 3 * E 3 1) := by
  have h : dy_sg 114 4 = -1 := by decide +kernel
  have g : dy_pr E 114 4 = 1 * E 0 2 * E 1 0 * E 2 3 * E 3 1 := rfl
  rw [h, g]; grind
theorem dy_p120 (E : Nat → Nat → Int) : dy_sg 120 4 * dy_pr E 120 4 = (E 0 0 * E 1 2 * E 2 3 * E 3 1) := by
  have h : dy_sg 120 4 = 1 := by decide +kernel
  have g : dy_pr E 120 4 = 1 * E 0 0 * E 1 2 * E 2 3 * E 3 1 := rfl
  rw [h, g]; grind
theorem dy_p135 (E : Nat → Nat → Int) : dy_sg 135 4 * dy_pr E 135 4 = (E 0 3 * E 1 1 * E 2 0 * E 3 2) := by
  have h : dy_sg 135 4 = 1 := by decide +kernel
  have g : dy_pr E 135 4 = 1 * E 0 3 * E 1 1 * E 2 0 * E 3 2 := rfl
  rw [h, g]; grind
theorem dy_p141 (E : Nat → Nat → Int) : dy_sg 141 4 * dy_pr E 141 4 = -(E 0 1 * E 1 3 * E 2 0 * E 3 2) := by
  have h : dy_sg 141 4 = -1 := by decide +kernel
  have g : dy_pr E 141 4 = 1 * E 0 1 * E 1 3 * E 2 0 * E 3 2 := rfl
  rw [h, g]; grind
theorem dy_p147 (E : Nat → Nat → Int) : dy_sg 147 4 * dy_pr E 147 4 = -(E 0 3 * E 1 0 * E 2 1 * E 3 2) := by
  have h : dy_sg 147 4 = -1 := by decide +kernel
  have g : dy_pr E 147 4 = 1 * E 0 3 * E 1 0 * E 2 1 * E 3 2 := rfl
  rw [h, g]; grind
theorem dy_p156 (E : Nat → Nat → Int) : dy_sg 156 4 * dy_pr E 156 4 = (E 0 0 * E 1 3 * E 2 1 * E 3 2) := by
  have h : dy_sg 156 4 = 1 := by decide +kernel
  have g : dy_pr E 156 4 = 1 * E 0 0 * E 1 3 * E 2 1 * E 3 2 := rfl
  rw [h, g]; grind
theorem dy_p177 (E : Nat → Nat → Int) : dy_sg 177 4 * dy_pr E 177 4 = (E 0 1 * E 1 0 * E 2 3 * E 3 2) := by
  have h : dy_sg 177 4 = 1 := by decide +kernel
  have g : dy_pr E 177 4 = 1 * E 0 1 * E 1 0 * E 2 3 * E 3 2 := rfl
  rw [h, g]; grind
theorem dy_p180 (E : Nat → Nat → Int) : dy_sg 180 4 * dy_pr E 180 4 = -(E 0 0 * E 1 1 * E 2 3 * E 3 2) := by
  have h : dy_sg 180 4 = -1 := by decide +kernel
  have g : dy_pr E 180 4 = 1 * E 0 0 * E 1 1 * E 2 3 * E 3 2 := rfl
  rw [h, g]; grind
theorem dy_p198 (E : Nat → Nat → Int) : dy_sg 198 4 * dy_pr E 198 4 = -(E 0 2 * E 1 1 * E 2 0 * E 3 3) := by
  have h : dy_sg 198 4 = -1 := by decide +kernel
  have g : dy_pr E 198 4 = 1 * E 0 2 * E 1 1 * E 2 0 * E 3 3 := rfl
  rw [h, g]; grind
theorem dy_p201 (E : Nat → Nat → Int) : dy_sg 201 4 * dy_pr E 201 4 = (E 0 1 * E 1 2 * E 2 0 * E 3 3) := by
  have h : dy_sg 201 4 = 1 := by decide +kernel
  have g : dy_pr E 201 4 = 1 * E 0 1 * E 1 2 * E 2 0 * E 3 3 := rfl
  rw [h, g]; grind
theorem dy_p210 (E : Nat → Nat → Int) : dy_sg 210 4 * dy_pr E 210 4 = (E 0 2 * E 1 0 * E 2 1 * E 3 3) := by
  have h : dy_sg 210 4 = 1 := by decide +kernel
  have g : dy_pr E 210 4 = 1 * E 0 2 * E 1 0 * E 2 1 * E 3 3 := rfl
  rw [h, g]; grind
theorem dy_p216 (E : Nat → Nat → Int) : dy_sg 216 4 * dy_pr E 216 4 = -(E 0 0 * E 1 2 * E 2 1 * E 3 3) := by
  have h : dy_sg 216 4 = -1 := by decide +kernel
  have g : dy_pr E 216 4 = 1 * E 0 0 * E 1 2 * E 2 1 * E 3 3 := rfl
  rw [h, g]; grind
theorem dy_p225 (E : Nat → Nat → Int) : dy_sg 225 4 * dy_pr E 225 4 = -(E 0 1 * E 1 0 * E 2 2 * E 3 3) := by
  have h : dy_sg 225 4 = -1 := by decide +kernel
  have g : dy_pr E 225 4 = 1 * E 0 1 * E 1 0 * E 2 2 * E 3 3 := rfl
  rw [h, g]; grind
theorem dy_p228 (E : Nat → Nat → Int) : dy_sg 228 4 * dy_pr E 228 4 = (E 0 0 * E 1 1 * E 2 2 * E 3 3) := by
  have h : dy_sg 228 4 = 1 := by decide +kernel
  have g : dy_pr E 228 4 = 1 * E 0 0 * E 1 1 * E 2 2 * E 3 3 := rfl
  rw [h, g]; grind
theorem dy_det (E : Nat → Nat → Int) : dy_S E 256 = dt_4 E := by
  have h := dy_SF E 256 []
  rw [dy_Fl] at h
  simp only [dy_L, dy_p27, dy_p30, dy_p39, dy_p45, dy_p54, dy_p57, dy_p75, dy_p78, dy_p99, dy_p108, dy_p114, dy_p120, dy_p135, dy_p141, dy_p147, dy_p156, dy_p177, dy_p180, dy_p198, dy_p201, dy_p210, dy_p216, dy_p225, dy_p228] at h
  unfold dt_4
  grind
end
section
/-! ===== Y: the fraction, mayMiss, times, trees, law ===== -/
def ye_E (N : Nat → Nat → Int) (g : Nat → Int) (i r c : Nat) : Int := if c = i then g r else N r c
theorem ye_m1 {N : Nat → Nat → Int} {g : Nat → Int} {co rg : Nat → Int64} (h : ys_I N g 4 co rg) : dy_E N co rg (-1) := by
  intro r c hr hc
  have h1 : ¬ nI c = -1 := by
    rcases (by omega : c = 0 ∨ c = 1 ∨ c = 2 ∨ c = 3) with h | h | h | h <;> subst h <;> decide
  exact ⟨fun e => absurd e h1, fun _ => (h r hr).1 c hc⟩
theorem ye_i {N : Nat → Nat → Int} {g : Nat → Int} {co rg : Nat → Int64} {i : Nat} (hi : i < 4) (h : ys_I N g 4 co rg) : dy_E (ye_E N g i) co rg (nI i) := by
  intro r c hr hc
  unfold ye_E
  by_cases e : c = i
  · rw [if_pos e]
    exact ⟨fun _ => (h r hr).2, fun q => absurd (by rw [e]) q⟩
  · rw [if_neg e]
    exact ⟨fun q => absurd ((nI_eq (by omega) (by omega)).mp q) e, fun _ => (h r hr).1 c hc⟩
theorem yf_p {n : Nat} (hn : n < 2 ^ 63) : (0 : Int64) ≤ lN n := (pk_lLE (a := 0) (by decide) hn).mpr (Nat.zero_le n)
theorem yf_low {post : Int64 → Prop} {ra : Nat → Int32} {su co rg : Nat → Int64} {N : Nat → Nat → Int} {g : Nat → Int} {i n d : Nat} (hi : i < 4) (h : ys_I N g 4 co rg)
    (hd : dt_4 N = (d : Int)) (hn : dt_4 (ye_E N g i) = (n : Int)) (h0 : 0 < d) (bd : d < 2 ^ 31) (bn : n < 2 ^ 31) (hp : post (lN (d / Nat.gcd n d))) : wpY_lowest post (ra, su, co, rg) (nI i) := by
  have hg : 0 < Nat.gcd n d := Nat.gcd_pos_of_pos_right n h0
  have hg2 : Nat.gcd n d ≤ d := Nat.gcd_le_right n h0
  have hne : ¬ lN (Nat.gcd n d) = 0 := fun z => by have := (pk_lEQ (b := 0) (by omega) (by decide)).mp z; omega
  have hl : d / Nat.gcd n d ≤ d := Nat.div_le_self _ _
  unfold wpY_lowest
  dsimp only
  refine yd_det (ye_m1 h) (yd_det (ye_i hi h) ?_)
  rw [dy_det, dy_det, hd, hn]
  refine yg_gcd (by omega) (by omega) (br_f hne ⟨hne, ?_⟩)
  have e : Int64.ofInt (d : Int) / lN (Nat.gcd n d) = lN (d / Nat.gcd n d) := pk_lDiv (by omega) hg (by omega)
  rw [e]
  exact br_t (yf_p (by omega)) hp
theorem yf_up {post : Int64 → Prop} {ra : Nat → Int32} {su co rg : Nat → Int64} {N : Nat → Nat → Int} {g : Nat → Int} {i n d : Nat} (hi : i < 4) (h : ys_I N g 4 co rg)
    (hd : dt_4 N = (d : Int)) (hn : dt_4 (ye_E N g i) = (n : Int)) (h0 : 0 < d) (bd : d < 2 ^ 31) (bn : n < 2 ^ 31) (hp : post (lN (n / Nat.gcd n d))) : wpY_upper post (ra, su, co, rg) (nI i) := by
  have hg : 0 < Nat.gcd n d := Nat.gcd_pos_of_pos_right n h0
  have hg2 : Nat.gcd n d ≤ d := Nat.gcd_le_right n h0
  have hne : ¬ lN (Nat.gcd n d) = 0 := fun z => by have := (pk_lEQ (b := 0) (by omega) (by decide)).mp z; omega
  unfold wpY_upper
  dsimp only
  refine yd_det (ye_m1 h) (yd_det (ye_i hi h) ?_)
  rw [dy_det, dy_det, hd, hn]
  refine yg_gcd (by omega) (by omega) (br_f hne ⟨hne, ?_⟩)
  have e : Int64.ofInt (n : Int) / lN (Nat.gcd n d) = lN (n / Nat.gcd n d) := pk_lDiv (by omega) hg (by omega)
  rw [e]
  exact br_t (yf_p (n := d) (by omega)) hp
def ym_M (P : Nat → Nat → Prop) (m t : Nat) : Prop := ∃ s, s < 4 ∧ m.testBit s = true ∧ s ≠ t ∧ ¬ P s t
theorem ym_23 {post : Int32 → Prop} {R : Nat → Nat} {su co rg : Nat → Int64} {t m : Nat} (hR : ∀ n, R n ≤ 9) (ht : t < 4) (hm : m < 16)
    (h : post (cx_b (ym_M (rt_R (xr_E R (-1))) m t))) : ∃ n, wY_mayMiss_23 post (nI t) (nI m) (fun n => nI (R n)) su co rg n 0 := by
  refine loop_0 (σ := Unit) (fun n j _ => wY_mayMiss_23 post (nI t) (nI m) (fun n => nI (R n)) su co rg n (nI j)) (fun j _ => ∀ k, k < j → m.testBit k = true → k ≠ t → rt_R (xr_E R (-1)) k t) 4 () (fun k hk => by omega) ?_ ?_
  · intro n _ hI
    rw [cx_f (fun z : ym_M _ m t => by obtain ⟨s, h1, h2, h3, h4⟩ := z; exact h4 (hI s h1 h2 h3))] at h
    exact br_t bs_le4 h
  · intro n j _ hj hI ih
    refine br_f (bs_ge4 hj) (bs_br1 hm hj (fun q => pk_eq j t (fun e => nm_r (nI_1 j) (ih () (lt_s hI (fun _ z => absurd e z)))) (fun e => yr_full hR hj (fun m2 hm2 hb2 => bs_br0 hm2 ht (fun w => ?_) (fun w => nm_r (nI_1 j) (ih () (lt_s hI (fun _ _ => (hb2 t ht).mp w))))))) (fun q => nm_r (nI_1 j) (ih () (lt_s hI (fun z => absurd z q)))))
    rw [cx_t (show ym_M _ m t from ⟨j, hj, q, e, fun z => w ((hb2 t ht).mpr z)⟩)] at h
    exact h
theorem ym_eq {post : Int32 → Prop} {R : Nat → Nat} {su co rg : Nat → Int64} {t : Nat} (hR : ∀ n, R n ≤ 9) (ht : t < 4) (h : post 0) : wpY_mayMiss post ((fun n => nI (R n)), su, co, rg) (nI t) (nI t) := by
  refine br_t rfl (nm_r (bs_shl1 t ht) (ym_23 hR ht (bs_one t ht).1 ?_))
  rw [cx_f]
  · exact h
  · rintro ⟨s, h1, h2, h3, _⟩
    rw [(bs_one t ht).2 s h1] at h2
    exact h3 (by simpa using h2)
theorem ym_ne {post : Int32 → Prop} {R : Nat → Nat} {su co rg : Nat → Int64} {i t : Nat} (hR : ∀ n, R n ≤ 9) (hi : i < 4) (ht : t < 4) (hne : i ≠ t)
    (h : ∀ m, m < 16 → (∀ j, j < 4 → (m.testBit j = true ↔ rt_R (yr_E R i (2 ^ t)) i j)) → post (cx_b (ym_M (rt_R (xr_E R (-1))) m t))) : wpY_mayMiss post ((fun n => nI (R n)), su, co, rg) (nI i) (nI t) := by
  refine br_f (fun z => hne ((nI_eq (by omega) (by omega)).mp z)) ?_
  rw [bs_shl1 t ht]
  exact yr_reached hR hi (bs_one t ht).1 (fun m hm hb => ym_23 hR ht hm (h m hm hb))
theorem yt_eq {post : SY → Prop} {R : Nat → Nat} {su co rg : Nat → Int64} {t : Nat} (hR : ∀ n, R n ≤ 9) (ht : t < 4)
    (h : ∀ co' rg', ys_I (yn_N R (yt_H t 0)) (yt_g t 0) 4 co' rg' → post ((fun n => nI (R n)), su, co', rg')) :
    wpY_times post ((fun n => nI (R n)), su, co, rg) (nI t) (nI t) :=
  br_t rfl (yt_21 (m := 0) hR ht (by decide) h)
theorem yt_ne {post : SY → Prop} {R : Nat → Nat} {su co rg : Nat → Int64} {i t : Nat} (hR : ∀ n, R n ≤ 9) (hi : i < 4) (ht : t < 4) (hne : i ≠ t)
    (h : ∀ m, m < 16 → (∀ j, j < 4 → (m.testBit j = true ↔ rt_R (yr_E R i (2 ^ t)) i j)) → ∀ co' rg', ys_I (yn_N R (yt_H t m)) (yt_g t m) 4 co' rg' → post ((fun n => nI (R n)), su, co', rg')) :
    wpY_times post ((fun n => nI (R n)), su, co, rg) (nI i) (nI t) := by
  refine br_f (fun z => hne ((nI_eq (by omega) (by omega)).mp z)) ?_
  rw [bs_shl1 t ht]
  exact yr_reached hR hi (bs_one t ht).1 (fun m hm hb => yt_21 hR ht hm (h m hm hb))
/-! trees -/
def tr_w (root p : Nat) : Nat → Nat → Nat
  | 0, x => x
  | n + 1, x => if x = root then x else tr_w root p n (dg_d p x)
theorem tr_wr (root p : Nat) : ∀ n, tr_w root p n root = root
  | 0 => rfl
  | n + 1 => if_pos rfl
def tr_V (R : Nat → Nat) (root p : Nat) : Nat → Nat → Nat → Nat
  | 0, _, x => x
  | m + 1, i, x => if i = root then tr_V R root p m (i + 1) x else if tr_w root p 4 i = root then tr_V R root p m (i + 1) (x * R (4 * i + dg_d p i)) else 0
theorem yt_24 {post : Int64 → Prop} {J5 : Int64 → Int32 → Prop} {x3 : Int64} {x5 : Int32} {ra : Nat → Int32} {su co rg : Nat → Int64} {root p : Nat} (hp : p < 256) (hroot : root < 4) :
    ∀ m n x k, m + k = 4 → m < n → x < 4 → wY_tree_52 post J5 (nI root) (nI p) x3 x5 (nI (tr_w root p m x)) ra su co rg → wY_tree_24 post J5 (nI root) (nI p) x3 x5 ra su co rg n (nI x) (nI k) := by
  intro m
  induction m with
  | zero =>
    intro n x k hk hn hx h
    cases n with
    | zero => exact absurd hn (Nat.not_lt_zero _)
    | succ n =>
      have e : k = 4 := by omega
      subst e
      exact br_t bs_le4 h
  | succ m ih =>
    intro n x k hk hn hx h
    cases n with
    | zero => exact absurd hn (Nat.not_lt_zero _)
    | succ n =>
      refine br_f (bs_ge4 (by omega)) (pk_eq x root (fun e => ?_) (fun e => nm_r (dg_e p hp x hx) (nm_r (nI_1 k) (ih n (dg_d p x) (k + 1) (by omega) (by omega) (dg_lt p x) ?_))))
      · unfold tr_w at h; rw [if_pos e] at h; exact h
      · unfold tr_w at h; rw [if_neg e] at h; exact h
theorem yt_tree {post : Int64 → Prop} {R : Nat → Nat} {su co rg : Nat → Int64} {root p : Nat} (hR : ∀ n, R n ≤ 9) (hp : p < 256) (hroot : root < 4) (h : post (lN (tr_V R root p 4 0 1))) :
    wpY_tree post ((fun n => nI (R n)), su, co, rg) (nI root) (nI p) := by
  refine loop_0 (fun n i x => wY_tree_5 post (nI root) (nI p) (fun n => nI (R n)) su co rg n (lN x) (nI i)) (fun i x => tr_V R root p (4 - i) i x = tr_V R root p 4 0 1) 4 1 rfl ?_ ?_
  · intro n x hx
    have e : x = tr_V R root p 4 0 1 := hx
    rw [← e] at h
    exact br_t bs_le4 h
  · intro n i x hi hx ih
    rw [show 4 - i = (3 - i) + 1 by omega] at hx
    unfold tr_V at hx
    refine br_f (bs_ge4 hi) (pk_eq i root (fun e => nm_r (nI_1 i) (ih x ?_)) (fun e => ⟨5, yt_24 hp hroot 4 5 i 0 rfl (by omega) hi ?_⟩))
    · rw [if_pos e] at hx
      rw [show 4 - (i + 1) = 3 - i by omega]; exact hx
    · rw [if_neg e] at hx
      have hw : tr_w root p 4 i < 4 := by
        have : ∀ n x, x < 4 → tr_w root p n x < 4 := by
          intro n
          induction n with
          | zero => intro x hx; exact hx
          | succ n ihn =>
            intro x hx
            unfold tr_w
            split
            · exact hx
            · exact ihn _ (dg_lt p x)
        exact this 4 i hi
      refine pk_eq (tr_w root p 4 i) root (fun e2 => ?_) (fun e2 => ?_)
      · rw [if_pos e2] at hx
        have hd := dg_lt p i
        have hr := hR (4 * i + dg_d p i)
        rw [dg_e p hp i hi, bs_iy, nI_clamp (by omega)]
        refine ⟨vp_in_nI (by omega) (by decide), nm_r (e' := lN (x * R (4 * i + dg_d p i))) ?_ (nm_r (nI_1 i) (ih _ ?_))⟩
        · rw [nI_l (by omega), lN_mul]
        · rw [show 4 - (i + 1) = 3 - i by omega]; exact hx
      · rw [if_neg e2] at hx
        have hx2 : 0 = tr_V R root p 4 0 1 := hx
        rw [← hx2] at h
        exact h
def au_S (R : Nat → Nat) (root : Nat) : Nat → Nat
  | 0 => 0
  | p + 1 => au_S R root p + (if dg_d p root = 0 then tr_V R root p 4 0 1 else 0)
def au_I (R : Nat → Nat) (k : Nat) (su : Nat → Int64) : Prop := ∀ r, r < k → su r = lN (au_S R r 256)
theorem yu_16 {post : SY → Prop} {J2 : Int32 → (Nat → Int32) → (Nat → Int64) → (Nat → Int64) → (Nat → Int64) → Prop} {R : Nat → Nat} {su co rg : Nat → Int64} {root : Nat} (hR : ∀ n, R n ≤ 9) (hroot : root < 4) (h0 : au_I R root su) (h1 : su root = 0)
    (h : ∀ su', au_I R (root + 1) su' → J2 (nI (root + 1)) (fun n => nI (R n)) su' co rg) : ∃ n, wY_addUp_16 post J2 (nI root) n 0 (fun n => nI (R n)) su co rg := by
  refine loop_0 (fun n p s => wY_addUp_16 post J2 (nI root) n (nI p) (fun n => nI (R n)) s co rg) (fun p s => au_I R root s ∧ s root = lN (au_S R root p)) 256 su ⟨h0, h1⟩ ?_ ?_
  · intro n s hs
    refine br_t bs_le256 (nm_r (nI_1 root) (h s ?_))
    intro r hr
    by_cases e : r = root
    · subst e; exact hs.2
    · exact hs.1 r (by omega)
  · intro n p s hp hs ih
    refine br_f (bs_ge256 hp) ?_
    rw [dg_e p hp root hroot, nI_clamp (by omega)]
    have hd := dg_lt p root
    refine pk_eq (dg_d p root) 0 (fun e => ⟨vp_in_nI hroot (by decide), yt_tree hR hp hroot ⟨vp_in_nI hroot (by decide), nm_e (nm_r (nI_1 p) (ih _ ⟨?_, ?_⟩))⟩⟩) (fun e => nm_r (nI_1 p) (ih s ⟨hs.1, ?_⟩))
    · intro r hr; rw [pk_uLn (by omega)]; exact hs.1 r hr
    · rw [pk_uLs, hs.2, lN_add]
      show _ = lN (au_S R root p + _)
      rw [if_pos e]
    · rw [hs.2]
      show _ = lN (au_S R root p + _)
      rw [if_neg e]; rfl
theorem yu_add {post : SY → Prop} {R : Nat → Nat} {su co rg : Nat → Int64} (hR : ∀ n, R n ≤ 9) (h : ∀ su', au_I R 4 su' → post ((fun n => nI (R n)), su', co, rg)) : wpY_addUp post ((fun n => nI (R n)), su, co, rg) := by
  refine loop_0 (fun n k s => wY_addUp_2 post n (nI k) (fun n => nI (R n)) s co rg) (fun k s => au_I R k s) 4 su (fun r h => by omega) ?_ ?_
  · intro n s hs
    exact br_t bs_le4 (h s hs)
  · intro n k s hk hs ih
    refine br_f (bs_ge4 hk) ⟨vp_in_nI hk (by decide), ?_⟩
    rw [nI_clamp (by omega)]
    refine nm_e (yu_16 hR hk (fun r hr => ?_) pk_uLs ih)
    rw [pk_uLn (by omega)]; exact hs r hr
def la_G (w : Nat → Nat) : Nat → Nat
  | 0 => 0
  | k + 1 => Nat.gcd (la_G w k) (w k)
theorem la_lt {w : Nat → Nat} {B : Nat} (hB : 0 < B) (hw : ∀ k, w k < B) : ∀ k, la_G w k < B
  | 0 => hB
  | k + 1 => by
    show Nat.gcd (la_G w k) (w k) < B
    rcases Nat.eq_zero_or_pos (w k) with z | z
    · rw [z, Nat.gcd_zero_right]; exact la_lt hB hw k
    · exact Nat.lt_of_le_of_lt (Nat.gcd_le_right _ z) (hw k)
theorem yl_25 {post : Int32 → SY → Prop} {ra : Nat → Int32} {su co rg : Nat → Int64} {w : Nat → Nat} {i : Nat} (hi : i < 4) (hw : ∀ k, w k < 2 ^ 31) (hs : ∀ r, r < 4 → su r = lN (w r))
    (h : post (if la_G w 4 = 0 then -1 else nI (w i / la_G w 4)) (ra, su, co, rg)) : ∃ n, wY_law_25 post (nI i) ra su co rg n 0 0 := by
  have hG := la_lt (by decide) hw
  refine loop_0 (fun n k x => wY_law_25 post (nI i) ra su co rg n (lN x) (nI k)) (fun k x => x = la_G w k) 4 0 rfl ?_ ?_
  · intro n x hx
    subst hx
    have := hG 4
    have := hw i
    refine br_t bs_le4 ?_
    by_cases e : la_G w 4 = 0
    · rw [if_pos e] at h
      rw [e]
      exact br_t rfl h
    · rw [if_neg e] at h
      have hne : ¬ lN (la_G w 4) = 0 := fun z => e ((pk_lEQ (b := 0) (by omega) (by decide)).mp z)
      refine br_f hne ⟨vp_in_nI hi (by decide), hne, ?_⟩
      rw [nI_clamp (by omega), hs i hi, pk_lDiv (by omega) (by omega) (by omega), lN_i]
      exact h
  · intro n k x hk hx ih
    subst hx
    have := hG k
    have := hw k
    refine br_f (bs_ge4 hk) ⟨vp_in_nI hk (by decide), ?_⟩
    rw [nI_clamp (by omega), hs k hk]
    exact yg_gcd (by omega) (by omega) (nm_r (nI_1 k) (ih _ rfl))
end
section
theorem nq_01 : ((0 : Nat) = 1) = False := eq_false (by decide)
theorem nq_02 : ((0 : Nat) = 2) = False := eq_false (by decide)
theorem nq_03 : ((0 : Nat) = 3) = False := eq_false (by decide)
theorem nq_10 : ((1 : Nat) = 0) = False := eq_false (by decide)
theorem nq_12 : ((1 : Nat) = 2) = False := eq_false (by decide)
theorem nq_13 : ((1 : Nat) = 3) = False := eq_false (by decide)
theorem nq_20 : ((2 : Nat) = 0) = False := eq_false (by decide)
theorem nq_21 : ((2 : Nat) = 1) = False := eq_false (by decide)
theorem nq_23 : ((2 : Nat) = 3) = False := eq_false (by decide)
theorem nq_30 : ((3 : Nat) = 0) = False := eq_false (by decide)
theorem nq_31 : ((3 : Nat) = 1) = False := eq_false (by decide)
theorem nq_32 : ((3 : Nat) = 2) = False := eq_false (by decide)
/-! ===== the algebra of three rows ===== -/
theorem dt_c3 {M M' : Nat → Nat → Int} (h : ∀ r c, r < 3 → c < 3 → M r c = M' r c) : dt_3 M = dt_3 M' := by
  unfold dt_3
  rw [h 0 0 (by decide) (by decide), h 0 1 (by decide) (by decide), h 0 2 (by decide) (by decide), h 1 0 (by decide) (by decide), h 1 1 (by decide) (by decide), h 1 2 (by decide) (by decide), h 2 0 (by decide) (by decide), h 2 1 (by decide) (by decide), h 2 2 (by decide) (by decide)]
/-- a held row t of the four takes its row and column out -/
theorem dt_t0 (N : Nat → Nat → Int) (h : ∀ r, r < 4 → N 0 r = id_i r 0) : dt_4 N = dt_3 (fun r c => N (fm_st r 0) (fm_st c 0)) := by
  have h0 : N 0 0 = 1 := h 0 (by decide)
  have h1 : N 0 1 = 0 := h 1 (by decide)
  have h2 : N 0 2 = 0 := h 2 (by decide)
  have h3 : N 0 3 = 0 := h 3 (by decide)
  have e0 : fm_st 0 0 = 1 := rfl
  have e1 : fm_st 1 0 = 2 := rfl
  have e2 : fm_st 2 0 = 3 := rfl
  unfold dt_4 dt_3
  simp only [e0, e1, e2, h0, h1, h2, h3]
  grind
theorem dt_n01 (N : Nat → Nat → Int) (g : Nat → Int) (h : ∀ r, r < 4 → N 0 r = id_i r 0) :
    dt_4 (ye_E N g 1) = dt_3 (xs_N 0 (fun r c => N (fm_st r 0) (fm_st c 0)) (fun r => g (fm_st r 0) - g 0 * N (fm_st r 0) 0)) := by
  have h0 : N 0 0 = 1 := h 0 (by decide)
  have h1 : N 0 1 = 0 := h 1 (by decide)
  have h2 : N 0 2 = 0 := h 2 (by decide)
  have h3 : N 0 3 = 0 := h 3 (by decide)
  have e0 : fm_st 0 0 = 1 := rfl
  have e1 : fm_st 1 0 = 2 := rfl
  have e2 : fm_st 2 0 = 3 := rfl
  unfold dt_4 dt_3 ye_E xs_N
  simp only [e0, e1, e2, h0, h1, h2, h3, reduceIte, nq_01, nq_02, nq_03, nq_10, nq_12, nq_13, nq_20, nq_21, nq_23, nq_30, nq_31, nq_32]
  grind
theorem dt_n02 (N : Nat → Nat → Int) (g : Nat → Int) (h : ∀ r, r < 4 → N 0 r = id_i r 0) :
    dt_4 (ye_E N g 2) = dt_3 (xs_N 1 (fun r c => N (fm_st r 0) (fm_st c 0)) (fun r => g (fm_st r 0) - g 0 * N (fm_st r 0) 0)) := by
  have h0 : N 0 0 = 1 := h 0 (by decide)
  have h1 : N 0 1 = 0 := h 1 (by decide)
  have h2 : N 0 2 = 0 := h 2 (by decide)
  have h3 : N 0 3 = 0 := h 3 (by decide)
  have e0 : fm_st 0 0 = 1 := rfl
  have e1 : fm_st 1 0 = 2 := rfl
  have e2 : fm_st 2 0 = 3 := rfl
  unfold dt_4 dt_3 ye_E xs_N
  simp only [e0, e1, e2, h0, h1, h2, h3, reduceIte, nq_01, nq_02, nq_03, nq_10, nq_12, nq_13, nq_20, nq_21, nq_23, nq_30, nq_31, nq_32]
  grind
theorem dt_n03 (N : Nat → Nat → Int) (g : Nat → Int) (h : ∀ r, r < 4 → N 0 r = id_i r 0) :
    dt_4 (ye_E N g 3) = dt_3 (xs_N 2 (fun r c => N (fm_st r 0) (fm_st c 0)) (fun r => g (fm_st r 0) - g 0 * N (fm_st r 0) 0)) := by
  have h0 : N 0 0 = 1 := h 0 (by decide)
  have h1 : N 0 1 = 0 := h 1 (by decide)
  have h2 : N 0 2 = 0 := h 2 (by decide)
  have h3 : N 0 3 = 0 := h 3 (by decide)
  have e0 : fm_st 0 0 = 1 := rfl
  have e1 : fm_st 1 0 = 2 := rfl
  have e2 : fm_st 2 0 = 3 := rfl
  unfold dt_4 dt_3 ye_E xs_N
  simp only [e0, e1, e2, h0, h1, h2, h3, reduceIte, nq_01, nq_02, nq_03, nq_10, nq_12, nq_13, nq_20, nq_21, nq_23, nq_30, nq_31, nq_32]
  grind
theorem dt_t1 (N : Nat → Nat → Int) (h : ∀ r, r < 4 → N 1 r = id_i r 1) : dt_4 N = dt_3 (fun r c => N (fm_st r 1) (fm_st c 1)) := by
  have h0 : N 1 0 = 0 := h 0 (by decide)
  have h1 : N 1 1 = 1 := h 1 (by decide)
  have h2 : N 1 2 = 0 := h 2 (by decide)
  have h3 : N 1 3 = 0 := h 3 (by decide)
  have e0 : fm_st 0 1 = 0 := rfl
  have e1 : fm_st 1 1 = 2 := rfl
  have e2 : fm_st 2 1 = 3 := rfl
  unfold dt_4 dt_3
  simp only [e0, e1, e2, h0, h1, h2, h3]
  grind
theorem dt_n10 (N : Nat → Nat → Int) (g : Nat → Int) (h : ∀ r, r < 4 → N 1 r = id_i r 1) :
    dt_4 (ye_E N g 0) = dt_3 (xs_N 0 (fun r c => N (fm_st r 1) (fm_st c 1)) (fun r => g (fm_st r 1) - g 1 * N (fm_st r 1) 1)) := by
  have h0 : N 1 0 = 0 := h 0 (by decide)
  have h1 : N 1 1 = 1 := h 1 (by decide)
  have h2 : N 1 2 = 0 := h 2 (by decide)
  have h3 : N 1 3 = 0 := h 3 (by decide)
  have e0 : fm_st 0 1 = 0 := rfl
  have e1 : fm_st 1 1 = 2 := rfl
  have e2 : fm_st 2 1 = 3 := rfl
  unfold dt_4 dt_3 ye_E xs_N
  simp only [e0, e1, e2, h0, h1, h2, h3, reduceIte, nq_01, nq_02, nq_03, nq_10, nq_12, nq_13, nq_20, nq_21, nq_23, nq_30, nq_31, nq_32]
  grind
theorem dt_n12 (N : Nat → Nat → Int) (g : Nat → Int) (h : ∀ r, r < 4 → N 1 r = id_i r 1) :
    dt_4 (ye_E N g 2) = dt_3 (xs_N 1 (fun r c => N (fm_st r 1) (fm_st c 1)) (fun r => g (fm_st r 1) - g 1 * N (fm_st r 1) 1)) := by
  have h0 : N 1 0 = 0 := h 0 (by decide)
  have h1 : N 1 1 = 1 := h 1 (by decide)
  have h2 : N 1 2 = 0 := h 2 (by decide)
  have h3 : N 1 3 = 0 := h 3 (by decide)
  have e0 : fm_st 0 1 = 0 := rfl
  have e1 : fm_st 1 1 = 2 := rfl
  have e2 : fm_st 2 1 = 3 := rfl
  unfold dt_4 dt_3 ye_E xs_N
  simp only [e0, e1, e2, h0, h1, h2, h3, reduceIte, nq_01, nq_02, nq_03, nq_10, nq_12, nq_13, nq_20, nq_21, nq_23, nq_30, nq_31, nq_32]
  grind
theorem dt_n13 (N : Nat → Nat → Int) (g : Nat → Int) (h : ∀ r, r < 4 → N 1 r = id_i r 1) :
    dt_4 (ye_E N g 3) = dt_3 (xs_N 2 (fun r c => N (fm_st r 1) (fm_st c 1)) (fun r => g (fm_st r 1) - g 1 * N (fm_st r 1) 1)) := by
  have h0 : N 1 0 = 0 := h 0 (by decide)
  have h1 : N 1 1 = 1 := h 1 (by decide)
  have h2 : N 1 2 = 0 := h 2 (by decide)
  have h3 : N 1 3 = 0 := h 3 (by decide)
  have e0 : fm_st 0 1 = 0 := rfl
  have e1 : fm_st 1 1 = 2 := rfl
  have e2 : fm_st 2 1 = 3 := rfl
  unfold dt_4 dt_3 ye_E xs_N
  simp only [e0, e1, e2, h0, h1, h2, h3, reduceIte, nq_01, nq_02, nq_03, nq_10, nq_12, nq_13, nq_20, nq_21, nq_23, nq_30, nq_31, nq_32]
  grind
theorem dt_t2 (N : Nat → Nat → Int) (h : ∀ r, r < 4 → N 2 r = id_i r 2) : dt_4 N = dt_3 (fun r c => N (fm_st r 2) (fm_st c 2)) := by
  have h0 : N 2 0 = 0 := h 0 (by decide)
  have h1 : N 2 1 = 0 := h 1 (by decide)
  have h2 : N 2 2 = 1 := h 2 (by decide)
  have h3 : N 2 3 = 0 := h 3 (by decide)
  have e0 : fm_st 0 2 = 0 := rfl
  have e1 : fm_st 1 2 = 1 := rfl
  have e2 : fm_st 2 2 = 3 := rfl
  unfold dt_4 dt_3
  simp only [e0, e1, e2, h0, h1, h2, h3]
  grind
theorem dt_n20 (N : Nat → Nat → Int) (g : Nat → Int) (h : ∀ r, r < 4 → N 2 r = id_i r 2) :
    dt_4 (ye_E N g 0) = dt_3 (xs_N 0 (fun r c => N (fm_st r 2) (fm_st c 2)) (fun r => g (fm_st r 2) - g 2 * N (fm_st r 2) 2)) := by
  have h0 : N 2 0 = 0 := h 0 (by decide)
  have h1 : N 2 1 = 0 := h 1 (by decide)
  have h2 : N 2 2 = 1 := h 2 (by decide)
  have h3 : N 2 3 = 0 := h 3 (by decide)
  have e0 : fm_st 0 2 = 0 := rfl
  have e1 : fm_st 1 2 = 1 := rfl
  have e2 : fm_st 2 2 = 3 := rfl
  unfold dt_4 dt_3 ye_E xs_N
  simp only [e0, e1, e2, h0, h1, h2, h3, reduceIte, nq_01, nq_02, nq_03, nq_10, nq_12, nq_13, nq_20, nq_21, nq_23, nq_30, nq_31, nq_32]
  grind
theorem dt_n21 (N : Nat → Nat → Int) (g : Nat → Int) (h : ∀ r, r < 4 → N 2 r = id_i r 2) :
    dt_4 (ye_E N g 1) = dt_3 (xs_N 1 (fun r c => N (fm_st r 2) (fm_st c 2)) (fun r => g (fm_st r 2) - g 2 * N (fm_st r 2) 2)) := by
  have h0 : N 2 0 = 0 := h 0 (by decide)
  have h1 : N 2 1 = 0 := h 1 (by decide)
  have h2 : N 2 2 = 1 := h 2 (by decide)
  have h3 : N 2 3 = 0 := h 3 (by decide)
  have e0 : fm_st 0 2 = 0 := rfl
  have e1 : fm_st 1 2 = 1 := rfl
  have e2 : fm_st 2 2 = 3 := rfl
  unfold dt_4 dt_3 ye_E xs_N
  simp only [e0, e1, e2, h0, h1, h2, h3, reduceIte, nq_01, nq_02, nq_03, nq_10, nq_12, nq_13, nq_20, nq_21, nq_23, nq_30, nq_31, nq_32]
  grind
theorem dt_n23 (N : Nat → Nat → Int) (g : Nat → Int) (h : ∀ r, r < 4 → N 2 r = id_i r 2) :
    dt_4 (ye_E N g 3) = dt_3 (xs_N 2 (fun r c => N (fm_st r 2) (fm_st c 2)) (fun r => g (fm_st r 2) - g 2 * N (fm_st r 2) 2)) := by
  have h0 : N 2 0 = 0 := h 0 (by decide)
  have h1 : N 2 1 = 0 := h 1 (by decide)
  have h2 : N 2 2 = 1 := h 2 (by decide)
  have h3 : N 2 3 = 0 := h 3 (by decide)
  have e0 : fm_st 0 2 = 0 := rfl
  have e1 : fm_st 1 2 = 1 := rfl
  have e2 : fm_st 2 2 = 3 := rfl
  unfold dt_4 dt_3 ye_E xs_N
  simp only [e0, e1, e2, h0, h1, h2, h3, reduceIte, nq_01, nq_02, nq_03, nq_10, nq_12, nq_13, nq_20, nq_21, nq_23, nq_30, nq_31, nq_32]
  grind
theorem dt_t3 (N : Nat → Nat → Int) (h : ∀ r, r < 4 → N 3 r = id_i r 3) : dt_4 N = dt_3 (fun r c => N (fm_st r 3) (fm_st c 3)) := by
  have h0 : N 3 0 = 0 := h 0 (by decide)
  have h1 : N 3 1 = 0 := h 1 (by decide)
  have h2 : N 3 2 = 0 := h 2 (by decide)
  have h3 : N 3 3 = 1 := h 3 (by decide)
  have e0 : fm_st 0 3 = 0 := rfl
  have e1 : fm_st 1 3 = 1 := rfl
  have e2 : fm_st 2 3 = 2 := rfl
  unfold dt_4 dt_3
  simp only [e0, e1, e2, h0, h1, h2, h3]
  grind
theorem dt_n30 (N : Nat → Nat → Int) (g : Nat → Int) (h : ∀ r, r < 4 → N 3 r = id_i r 3) :
    dt_4 (ye_E N g 0) = dt_3 (xs_N 0 (fun r c => N (fm_st r 3) (fm_st c 3)) (fun r => g (fm_st r 3) - g 3 * N (fm_st r 3) 3)) := by
  have h0 : N 3 0 = 0 := h 0 (by decide)
  have h1 : N 3 1 = 0 := h 1 (by decide)
  have h2 : N 3 2 = 0 := h 2 (by decide)
  have h3 : N 3 3 = 1 := h 3 (by decide)
  have e0 : fm_st 0 3 = 0 := rfl
  have e1 : fm_st 1 3 = 1 := rfl
  have e2 : fm_st 2 3 = 2 := rfl
  unfold dt_4 dt_3 ye_E xs_N
  simp only [e0, e1, e2, h0, h1, h2, h3, reduceIte, nq_01, nq_02, nq_03, nq_10, nq_12, nq_13, nq_20, nq_21, nq_23, nq_30, nq_31, nq_32]
  grind
theorem dt_n31 (N : Nat → Nat → Int) (g : Nat → Int) (h : ∀ r, r < 4 → N 3 r = id_i r 3) :
    dt_4 (ye_E N g 1) = dt_3 (xs_N 1 (fun r c => N (fm_st r 3) (fm_st c 3)) (fun r => g (fm_st r 3) - g 3 * N (fm_st r 3) 3)) := by
  have h0 : N 3 0 = 0 := h 0 (by decide)
  have h1 : N 3 1 = 0 := h 1 (by decide)
  have h2 : N 3 2 = 0 := h 2 (by decide)
  have h3 : N 3 3 = 1 := h 3 (by decide)
  have e0 : fm_st 0 3 = 0 := rfl
  have e1 : fm_st 1 3 = 1 := rfl
  have e2 : fm_st 2 3 = 2 := rfl
  unfold dt_4 dt_3 ye_E xs_N
  simp only [e0, e1, e2, h0, h1, h2, h3, reduceIte, nq_01, nq_02, nq_03, nq_10, nq_12, nq_13, nq_20, nq_21, nq_23, nq_30, nq_31, nq_32]
  grind
theorem dt_n32 (N : Nat → Nat → Int) (g : Nat → Int) (h : ∀ r, r < 4 → N 3 r = id_i r 3) :
    dt_4 (ye_E N g 2) = dt_3 (xs_N 2 (fun r c => N (fm_st r 3) (fm_st c 3)) (fun r => g (fm_st r 3) - g 3 * N (fm_st r 3) 3)) := by
  have h0 : N 3 0 = 0 := h 0 (by decide)
  have h1 : N 3 1 = 0 := h 1 (by decide)
  have h2 : N 3 2 = 0 := h 2 (by decide)
  have h3 : N 3 3 = 1 := h 3 (by decide)
  have e0 : fm_st 0 3 = 0 := rfl
  have e1 : fm_st 1 3 = 1 := rfl
  have e2 : fm_st 2 3 = 2 := rfl
  unfold dt_4 dt_3 ye_E xs_N
  simp only [e0, e1, e2, h0, h1, h2, h3, reduceIte, nq_01, nq_02, nq_03, nq_10, nq_12, nq_13, nq_20, nq_21, nq_23, nq_30, nq_31, nq_32]
  grind
theorem dt_t (t : Nat) (ht : t < 4) (N : Nat → Nat → Int) (h : ∀ r, r < 4 → N t r = id_i r t) : dt_4 N = dt_3 (fun r c => N (fm_st r t) (fm_st c t)) := by
  rcases (by omega : t = 0 ∨ t = 1 ∨ t = 2 ∨ t = 3) with e | e | e | e <;> subst e
  · exact dt_t0 N h
  · exact dt_t1 N h
  · exact dt_t2 N h
  · exact dt_t3 N h
theorem dt_n (t i : Nat) (ht : t < 4) (hi : i < 4) (hne : i ≠ t) (N : Nat → Nat → Int) (g : Nat → Int) (h : ∀ r, r < 4 → N t r = id_i r t) :
    dt_4 (ye_E N g i) = dt_3 (xs_N (sv_c i t) (fun r c => N (fm_st r t) (fm_st c t)) (fun r => g (fm_st r t) - g t * N (fm_st r t) t)) := by
  rcases (by omega : t = 0 ∨ t = 1 ∨ t = 2 ∨ t = 3) with e | e | e | e <;> subst e <;> rcases (by omega : i = 0 ∨ i = 1 ∨ i = 2 ∨ i = 3) with e | e | e | e <;> subst e <;> first | exact absurd rfl hne | skip
  · exact dt_n01 N g h
  · exact dt_n02 N g h
  · exact dt_n03 N g h
  · exact dt_n10 N g h
  · exact dt_n12 N g h
  · exact dt_n13 N g h
  · exact dt_n20 N g h
  · exact dt_n21 N g h
  · exact dt_n23 N g h
  · exact dt_n30 N g h
  · exact dt_n31 N g h
  · exact dt_n32 N g h
/-- column t of the four: with the right side that stands in row t alone -/
theorem dt_same (t : Nat) (ht : t < 4) (N : Nat → Nat → Int) (g : Nat → Int) (h : ∀ r, r < 4 → N t r = id_i r t) (hg : ∀ r, r < 4 → g r = id_i r t) : dt_4 (ye_E N g t) = dt_4 N := by
  have g0 := hg 0 (by decide)
  have g1 := hg 1 (by decide)
  have g2 := hg 2 (by decide)
  have g3 := hg 3 (by decide)
  have h0 := h 0 (by decide)
  have h1 := h 1 (by decide)
  have h2 := h 2 (by decide)
  have h3 := h 3 (by decide)
  rcases (by omega : t = 0 ∨ t = 1 ∨ t = 2 ∨ t = 3) with e | e | e | e <;> subst e <;>
  simp only [id_i, reduceIte, nq_01, nq_02, nq_03, nq_10, nq_12, nq_13, nq_20, nq_21, nq_23, nq_30, nq_31, nq_32] at g0 g1 g2 g3 h0 h1 h2 h3 <;>
  unfold dt_4 ye_E <;>
  simp only [g0, g1, g2, g3, h0, h1, h2, h3, reduceIte, nq_01, nq_02, nq_03, nq_10, nq_12, nq_13, nq_20, nq_21, nq_23, nq_30, nq_31, nq_32] <;>
  grind
end
section
/-! ===== flows over three rows, with an exit ===== -/
def fl_M (x : Nat → Nat → Nat) (xt : Nat → Nat) (r c : Nat) : Int := if r = c then ((xt r + x r 0 + x r 1 + x r 2 : Nat) : Int) else -((x r c : Nat) : Int)
def fl_P (x : Nat → Nat → Nat) (xt : Nat → Nat) : Nat := xt 0 * xt 1 * xt 2 + xt 0 * xt 1 * x 2 0 + xt 0 * xt 1 * x 2 1 + xt 0 * x 1 0 * xt 2 + xt 0 * x 1 0 * x 2 0 + xt 0 * x 1 0 * x 2 1 + xt 0 * x 1 2 * xt 2 + xt 0 * x 1 2 * x 2 0 + x 0 1 * xt 1 * xt 2 + x 0 1 * xt 1 * x 2 0 + x 0 1 * xt 1 * x 2 1 + x 0 1 * x 1 2 * xt 2 + x 0 2 * xt 1 * xt 2 + x 0 2 * xt 1 * x 2 1 + x 0 2 * x 1 0 * xt 2 + x 0 2 * x 1 2 * xt 2
theorem fl_det (x : Nat → Nat → Nat) (xt : Nat → Nat) (h0 : x 0 0 = 0) (h1 : x 1 1 = 0) (h2 : x 2 2 = 0) : dt_3 (fl_M x xt) = (fl_P x xt : Int) := by
  unfold dt_3 fl_M fl_P
  simp only [reduceIte, nq_01, nq_02, nq_10, nq_12, nq_20, nq_21, h0, h1, h2]
  push_cast
  grind
def fl_N0 (x : Nat → Nat → Nat) (xt g : Nat → Nat) : Nat := g 0 * ((xt 1 + x 1 0) * (xt 2 + x 2 0 + x 2 1) + x 1 2 * (xt 2 + x 2 0)) + x 0 1 * (g 1 * (xt 2 + x 2 0 + x 2 1) + x 1 2 * g 2) + x 0 2 * (g 1 * x 2 1 + (xt 1 + x 1 0 + x 1 2) * g 2)
theorem fl_num0 (x : Nat → Nat → Nat) (xt g : Nat → Nat) (h0 : x 0 0 = 0) (h1 : x 1 1 = 0) (h2 : x 2 2 = 0) : dt_3 (xs_N 0 (fl_M x xt) (fun r => (g r : Int))) = (fl_N0 x xt g : Int) := by
  unfold dt_3 xs_N fl_M fl_N0
  simp only [reduceIte, nq_01, nq_02, nq_10, nq_12, nq_20, nq_21, h0, h1, h2]
  push_cast
  grind
def fl_N1 (x : Nat → Nat → Nat) (xt g : Nat → Nat) : Nat := g 1 * ((xt 0 + x 0 1) * (xt 2 + x 2 1 + x 2 0) + x 0 2 * (xt 2 + x 2 1)) + x 1 0 * (g 0 * (xt 2 + x 2 1 + x 2 0) + x 0 2 * g 2) + x 1 2 * (g 0 * x 2 0 + (xt 0 + x 0 1 + x 0 2) * g 2)
theorem fl_num1 (x : Nat → Nat → Nat) (xt g : Nat → Nat) (h0 : x 0 0 = 0) (h1 : x 1 1 = 0) (h2 : x 2 2 = 0) : dt_3 (xs_N 1 (fl_M x xt) (fun r => (g r : Int))) = (fl_N1 x xt g : Int) := by
  unfold dt_3 xs_N fl_M fl_N1
  simp only [reduceIte, nq_01, nq_02, nq_10, nq_12, nq_20, nq_21, h0, h1, h2]
  push_cast
  grind
def fl_N2 (x : Nat → Nat → Nat) (xt g : Nat → Nat) : Nat := g 2 * ((xt 0 + x 0 2) * (xt 1 + x 1 2 + x 1 0) + x 0 1 * (xt 1 + x 1 2)) + x 2 0 * (g 0 * (xt 1 + x 1 2 + x 1 0) + x 0 1 * g 1) + x 2 1 * (g 0 * x 1 0 + (xt 0 + x 0 2 + x 0 1) * g 1)
theorem fl_num2 (x : Nat → Nat → Nat) (xt g : Nat → Nat) (h0 : x 0 0 = 0) (h1 : x 1 1 = 0) (h2 : x 2 2 = 0) : dt_3 (xs_N 2 (fl_M x xt) (fun r => (g r : Int))) = (fl_N2 x xt g : Int) := by
  unfold dt_3 xs_N fl_M fl_N2
  simp only [reduceIte, nq_01, nq_02, nq_10, nq_12, nq_20, nq_21, h0, h1, h2]
  push_cast
  grind
theorem fl_num (k : Nat) (hk : k < 3) (x : Nat → Nat → Nat) (xt g : Nat → Nat) (h0 : x 0 0 = 0) (h1 : x 1 1 = 0) (h2 : x 2 2 = 0) : ∃ n : Nat, dt_3 (xs_N k (fl_M x xt) (fun r => (g r : Int))) = (n : Int) := by
  rcases (by omega : k = 0 ∨ k = 1 ∨ k = 2) with e | e | e <;> subst e
  · exact ⟨_, fl_num0 x xt g h0 h1 h2⟩
  · exact ⟨_, fl_num1 x xt g h0 h1 h2⟩
  · exact ⟨_, fl_num2 x xt g h0 h1 h2⟩
/-- out of every set of rows something flows -/
def fl_H (x : Nat → Nat → Nat) (xt : Nat → Nat) : Prop := ∀ Z : Nat → Prop, (∃ r, r < 3 ∧ Z r) → ∃ r, r < 3 ∧ Z r ∧ (0 < xt r ∨ ∃ c, c < 3 ∧ ¬ Z c ∧ 0 < x r c)
theorem fl_g012 {x : Nat → Nat → Nat} {xt : Nat → Nat} (ha : 0 < xt 0) (hb : 0 < xt 1 ∨ 0 < x 1 0) (hc : 0 < xt 2 ∨ 0 < x 2 0 ∨ 0 < x 2 1) : 0 < fl_P x xt := by
  rcases hb with hb | hb <;> rcases hc with hc | hc | hc <;> have m := Nat.mul_pos (Nat.mul_pos ha hb) hc <;> unfold fl_P <;> omega
theorem fl_g021 {x : Nat → Nat → Nat} {xt : Nat → Nat} (ha : 0 < xt 0) (hb : 0 < xt 2 ∨ 0 < x 2 0) (hc : 0 < xt 1 ∨ 0 < x 1 0 ∨ 0 < x 1 2) : 0 < fl_P x xt := by
  rcases hb with hb | hb <;> rcases hc with hc | hc | hc <;> have m := Nat.mul_pos (Nat.mul_pos ha hc) hb <;> unfold fl_P <;> omega
theorem fl_g102 {x : Nat → Nat → Nat} {xt : Nat → Nat} (ha : 0 < xt 1) (hb : 0 < xt 0 ∨ 0 < x 0 1) (hc : 0 < xt 2 ∨ 0 < x 2 1 ∨ 0 < x 2 0) : 0 < fl_P x xt := by
  rcases hb with hb | hb <;> rcases hc with hc | hc | hc <;> have m := Nat.mul_pos (Nat.mul_pos hb ha) hc <;> unfold fl_P <;> omega
theorem fl_g120 {x : Nat → Nat → Nat} {xt : Nat → Nat} (ha : 0 < xt 1) (hb : 0 < xt 2 ∨ 0 < x 2 1) (hc : 0 < xt 0 ∨ 0 < x 0 1 ∨ 0 < x 0 2) : 0 < fl_P x xt := by
  rcases hb with hb | hb <;> rcases hc with hc | hc | hc <;> have m := Nat.mul_pos (Nat.mul_pos hc ha) hb <;> unfold fl_P <;> omega
theorem fl_g201 {x : Nat → Nat → Nat} {xt : Nat → Nat} (ha : 0 < xt 2) (hb : 0 < xt 0 ∨ 0 < x 0 2) (hc : 0 < xt 1 ∨ 0 < x 1 2 ∨ 0 < x 1 0) : 0 < fl_P x xt := by
  rcases hb with hb | hb <;> rcases hc with hc | hc | hc <;> have m := Nat.mul_pos (Nat.mul_pos hb hc) ha <;> unfold fl_P <;> omega
theorem fl_g210 {x : Nat → Nat → Nat} {xt : Nat → Nat} (ha : 0 < xt 2) (hb : 0 < xt 1 ∨ 0 < x 1 2) (hc : 0 < xt 0 ∨ 0 < x 0 2 ∨ 0 < x 0 1) : 0 < fl_P x xt := by
  rcases hb with hb | hb <;> rcases hc with hc | hc | hc <;> have m := Nat.mul_pos (Nat.mul_pos hc hb) ha <;> unfold fl_P <;> omega
theorem fl_one {x : Nat → Nat → Nat} {xt : Nat → Nat} (H : fl_H x xt) (c : Nat) (hc : c < 3) : ∃ d, d < 3 ∧ d = c ∧ (0 < xt c ∨ ∃ e, e < 3 ∧ e ≠ c ∧ 0 < x c e) := by
  obtain ⟨r, h1, h2, h3⟩ := H (fun r => r = c) ⟨c, hc, rfl⟩
  subst h2
  exact ⟨r, h1, rfl, h3⟩
theorem fl_pos {x : Nat → Nat → Nat} {xt : Nat → Nat} (H : fl_H x xt) : 0 < fl_P x xt := by
  obtain ⟨a, ha, _, h1⟩ := H (fun _ => True) ⟨0, by decide, trivial⟩
  have ha1 : 0 < xt a := h1.elim id (fun ⟨c, _, z, _⟩ => absurd trivial z)
  have h2 : ∃ b, b < 3 ∧ b ≠ a ∧ (0 < xt b ∨ 0 < x b a) := by
    have hx : ∃ r, r < 3 ∧ r ≠ a := by
      by_cases e : a = 0
      · exact ⟨1, by decide, by omega⟩
      · exact ⟨0, by decide, by omega⟩
    obtain ⟨r, g1, g2, g3⟩ := H (fun r => r ≠ a) hx
    refine ⟨r, g1, g2, g3.imp id ?_⟩
    rintro ⟨c, c1, c2, c3⟩
    have e : c = a := Classical.byContradiction c2
    exact e ▸ c3
  obtain ⟨b, hb, hba, hb1⟩ := h2
  have h3 : ∃ c, c < 3 ∧ c ≠ a ∧ c ≠ b := by
    rcases (by omega : (a ≠ 0 ∧ b ≠ 0) ∨ (a ≠ 1 ∧ b ≠ 1) ∨ (a ≠ 2 ∧ b ≠ 2)) with h | h | h
    · exact ⟨0, by decide, by omega, by omega⟩
    · exact ⟨1, by decide, by omega, by omega⟩
    · exact ⟨2, by decide, by omega, by omega⟩
  obtain ⟨c, hc, hca, hcb⟩ := h3
  have hc1 : 0 < xt c ∨ 0 < x c a ∨ 0 < x c b := by
    obtain ⟨_, _, _, h⟩ := fl_one H c hc
    rcases h with h | ⟨e, e1, e2, e3⟩
    · exact .inl h
    · rcases (by omega : e = a ∨ e = b) with z | z
      · exact .inr (.inl (z ▸ e3))
      · exact .inr (.inr (z ▸ e3))
  rcases (by omega : (a = 0 ∧ b = 1 ∧ c = 2) ∨ (a = 0 ∧ b = 2 ∧ c = 1) ∨ (a = 1 ∧ b = 0 ∧ c = 2) ∨ (a = 1 ∧ b = 2 ∧ c = 0) ∨ (a = 2 ∧ b = 0 ∧ c = 1) ∨ (a = 2 ∧ b = 1 ∧ c = 0)) with ⟨e1, e2, e3⟩ | ⟨e1, e2, e3⟩ | ⟨e1, e2, e3⟩ | ⟨e1, e2, e3⟩ | ⟨e1, e2, e3⟩ | ⟨e1, e2, e3⟩ <;> subst e1 e2 e3
  · exact fl_g012 ha1 hb1 hc1
  · exact fl_g021 ha1 hb1 hc1
  · exact fl_g102 ha1 hb1 hc1
  · exact fl_g120 ha1 hb1 hc1
  · exact fl_g201 ha1 hb1 hc1
  · exact fl_g210 ha1 hb1 hc1
/-! bounds -/
theorem bd_mul {a b : Int} {x y : Nat} (ha : a.natAbs ≤ x) (hb : b.natAbs ≤ y) : (a * b).natAbs ≤ x * y := by
  rw [Int.natAbs_mul]; exact Nat.mul_le_mul ha hb
theorem bd_det {M : Nat → Nat → Int} (h : ∀ r c, r < 3 → c < 3 → (M r c).natAbs ≤ 36) : (dt_3 M).natAbs ≤ 279936 := by
  have H : ∀ r c, r < 3 → c < 3 → ∀ r' c', r' < 3 → c' < 3 → (M r c * M r' c').natAbs ≤ 1296 := fun r c h1 h2 r' c' h3 h4 => bd_mul (h r c h1 h2) (h r' c' h3 h4)
  have a1 := H 1 1 (by decide) (by decide) 2 2 (by decide) (by decide)
  have a2 := H 1 2 (by decide) (by decide) 2 1 (by decide) (by decide)
  have a3 := H 1 0 (by decide) (by decide) 2 2 (by decide) (by decide)
  have a4 := H 1 2 (by decide) (by decide) 2 0 (by decide) (by decide)
  have a5 := H 1 0 (by decide) (by decide) 2 1 (by decide) (by decide)
  have a6 := H 1 1 (by decide) (by decide) 2 0 (by decide) (by decide)
  have b1 : (M 1 1 * M 2 2 - M 1 2 * M 2 1).natAbs ≤ 2592 := by omega
  have b2 : (M 1 0 * M 2 2 - M 1 2 * M 2 0).natAbs ≤ 2592 := by omega
  have b3 : (M 1 0 * M 2 1 - M 1 1 * M 2 0).natAbs ≤ 2592 := by omega
  have c1 := bd_mul (h 0 0 (by decide) (by decide)) b1
  have c2 := bd_mul (h 0 1 (by decide) (by decide)) b2
  have c3 := bd_mul (h 0 2 (by decide) (by decide)) b3
  unfold dt_3
  generalize M 0 0 * (M 1 1 * M 2 2 - M 1 2 * M 2 1) = p at *
  generalize M 0 1 * (M 1 0 * M 2 2 - M 1 2 * M 2 0) = q at *
  generalize M 0 2 * (M 1 0 * M 2 1 - M 1 1 * M 2 0) = r at *
  omega
/-! held rows as flows -/
noncomputable def ci_n (p : Prop) (a b : Nat) : Nat := @ite Nat p (Classical.propDecidable p) a b
theorem cn_t {p : Prop} {a b : Nat} (h : p) : ci_n p a b = a := by unfold ci_n; rw [if_pos h]
theorem cn_f {p : Prop} {a b : Nat} (h : ¬ p) : ci_n p a b = b := by unfold ci_n; rw [if_neg h]
noncomputable def cs_M (w : Nat → Nat → Nat) (wt : Nat → Nat) (K : Nat → Prop) (r c : Nat) : Int := ci_i (K r) (if r = c then 1 else 0) (fl_M w wt r c)
noncomputable def cs_b (b : Nat → Nat) (K : Nat → Prop) (r : Nat) : Int := ci_i (K r) 0 (b r : Int)
noncomputable def ef_x (w : Nat → Nat → Nat) (K : Nat → Prop) (r c : Nat) : Nat := ci_n (K r) 0 (w r c)
noncomputable def ef_t (wt : Nat → Nat) (K : Nat → Prop) (r : Nat) : Nat := ci_n (K r) 1 (wt r)
theorem ef_M (w : Nat → Nat → Nat) (wt : Nat → Nat) (K : Nat → Prop) (r c : Nat) : cs_M w wt K r c = fl_M (ef_x w K) (ef_t wt K) r c := by
  unfold cs_M fl_M ef_x ef_t
  by_cases h : K r
  · simp only [ci_t h, cn_t h]
    split <;> rfl
  · simp only [ci_f h, cn_f h]
theorem ef_b (b : Nat → Nat) (K : Nat → Prop) (r : Nat) : cs_b b K r = (ci_n (K r) 0 (b r) : Nat) := by
  unfold cs_b
  by_cases h : K r
  · rw [ci_t h, cn_t h]; rfl
  · rw [ci_f h, cn_f h]
/-- the times' system -/
theorem tm_sys (w : Nat → Nat → Nat) (wt b : Nat → Nat) (K : Nat → Prop) (hw : ∀ r, r < 3 → w r r = 0) (H : fl_H (ef_x w K) (ef_t wt K)) :
    ∃ d : Nat, 0 < d ∧ dt_3 (cs_M w wt K) = (d : Int) ∧ ∀ k, k < 3 → ∃ n : Nat, dt_3 (xs_N k (cs_M w wt K) (cs_b b K)) = (n : Int) := by
  have e : ∀ r, r < 3 → ef_x w K r r = 0 := fun r hr => by
    unfold ef_x
    by_cases h : K r
    · exact cn_t h
    · rw [cn_f h]; exact hw r hr
  have e0 := e 0 (by decide)
  have e1 := e 1 (by decide)
  have e2 := e 2 (by decide)
  refine ⟨fl_P (ef_x w K) (ef_t wt K), fl_pos H, ?_, fun k hk => ?_⟩
  · rw [dt_c3 (fun r c _ _ => ef_M w wt K r c)]
    exact fl_det _ _ e0 e1 e2
  · obtain ⟨n, hn⟩ := fl_num k hk (ef_x w K) (ef_t wt K) (fun r => ci_n (K r) 0 (b r)) e0 e1 e2
    refine ⟨n, hn ▸ dt_c3 (fun r c _ _ => ?_)⟩
    unfold xs_N
    rw [ef_b, ef_M]
end
section
/-! ===== the chances' system: two rows ===== -/
def q2_D (a1 a2 a3 b1 b2 b3 : Nat) : Nat := (a1 + a2) * (b1 + b2 + b3) + a3 * (b1 + b2)
def q2_N (a1 a2 a3 b1 b2 b3 : Nat) : Nat := a1 * (b1 + b2 + b3) + a3 * b1
theorem q2_p {a1 a2 a3 b1 b2 b3 : Nat} (h : (0 < a1 + a2 ∧ 0 < b1 + b2 + b3) ∨ (0 < a3 ∧ 0 < b1 + b2)) : 0 < q2_D a1 a2 a3 b1 b2 b3 := by
  unfold q2_D
  rcases h with h | h
  · have := Nat.mul_pos h.1 h.2; omega
  · have := Nat.mul_pos h.1 h.2; omega
theorem q2_main (a1 a2 a3 b1 b2 b3 : Nat) (La Lb Da Db : Prop) (hLa : La ↔ (a1 = 0 ∧ a2 = 0 ∧ (a3 = 0 ∨ (b1 = 0 ∧ b2 = 0)))) (hLb : Lb ↔ (b1 = 0 ∧ b2 = 0 ∧ (b3 = 0 ∨ (a1 = 0 ∧ a2 = 0))))
    (hDa : Da ↔ (a1 = 0 ∧ (a3 = 0 ∨ b1 = 0))) (hDb : Db ↔ (b1 = 0 ∧ (b3 = 0 ∨ a1 = 0))) :
    ∃ c : Nat, 0 < c ∧ 0 < q2_D (ci_n Da 0 a1) (ci_n Da 1 a2) (ci_n Da 0 a3) (ci_n Db 0 b1) (ci_n Db 1 b2) (ci_n Db 0 b3)
      ∧ q2_D (ci_n La 0 a1) (ci_n La 1 a2) (ci_n La 0 a3) (ci_n Lb 0 b1) (ci_n Lb 1 b2) (ci_n Lb 0 b3) = c * q2_D (ci_n Da 0 a1) (ci_n Da 1 a2) (ci_n Da 0 a3) (ci_n Db 0 b1) (ci_n Db 1 b2) (ci_n Db 0 b3)
      ∧ q2_N (ci_n La 0 a1) (ci_n La 1 a2) (ci_n La 0 a3) (ci_n Lb 0 b1) (ci_n Lb 1 b2) (ci_n Lb 0 b3) = c * q2_N (ci_n Da 0 a1) (ci_n Da 1 a2) (ci_n Da 0 a3) (ci_n Db 0 b1) (ci_n Db 1 b2) (ci_n Db 0 b3)
      ∧ q2_N (ci_n Lb 0 b1) (ci_n Lb 1 b2) (ci_n Lb 0 b3) (ci_n La 0 a1) (ci_n La 1 a2) (ci_n La 0 a3) = c * q2_N (ci_n Db 0 b1) (ci_n Db 1 b2) (ci_n Db 0 b3) (ci_n Da 0 a1) (ci_n Da 1 a2) (ci_n Da 0 a3) := by
  by_cases da : Da <;> by_cases db : Db <;> by_cases la : La <;> by_cases lb : Lb <;> simp only [cn_t, cn_f, da, db, la, lb, not_false_eq_true] <;> rw [hLa] at la <;> rw [hLb] at lb <;> rw [hDa] at da <;> rw [hDb] at db
  · exact ⟨1, by decide, by decide, by decide, by decide, by decide⟩
  · refine ⟨b1 + b2 + b3, by omega, by decide, ?_, ?_, ?_⟩ <;> simp only [q2_D, q2_N] <;> grind
  · refine ⟨a1 + a2 + a3, by omega, by decide, ?_, ?_, ?_⟩ <;> simp only [q2_D, q2_N] <;> grind
  · refine ⟨q2_D a1 a2 a3 b1 b2 b3, q2_p (by omega), by decide, ?_, ?_, ?_⟩
    · unfold q2_D; grind
    · unfold q2_D q2_N; rw [da.1, db.1]; grind
    · unfold q2_D q2_N; rw [da.1, db.1]; grind
  · exfalso; omega
  · refine ⟨1, by decide, q2_p (by omega), ?_, ?_, ?_⟩ <;> omega
  · exfalso; omega
  · have z1 : a1 = 0 := da.1
    have z3 : a3 = 0 := by omega
    subst z1 z3
    refine ⟨a2, by omega, q2_p (by omega), ?_, ?_, ?_⟩ <;> simp only [q2_D, q2_N] <;> grind
  · exfalso; omega
  · exfalso; omega
  · refine ⟨1, by decide, q2_p (by omega), ?_, ?_, ?_⟩ <;> omega
  · have z1 : b1 = 0 := db.1
    have z3 : b3 = 0 := by omega
    subst z1 z3
    refine ⟨b2, by omega, q2_p (by omega), ?_, ?_, ?_⟩ <;> simp only [q2_D, q2_N] <;> grind
  · exfalso; omega
  · exfalso; omega
  · exfalso; omega
  · refine ⟨1, by decide, q2_p (by omega), ?_, ?_, ?_⟩ <;> omega
theorem q3_r0 (w : Nat → Nat → Nat) (wt : Nat → Nat) (K : Nat → Prop) (hw : ∀ r, r < 3 → w r r = 0) (hK : K 0) :
    dt_3 (cs_M w wt K) = ((q2_D (ci_n (K 1) 0 (wt 1)) (ci_n (K 1) 1 (w 1 0)) (ci_n (K 1) 0 (w 1 2)) (ci_n (K 2) 0 (wt 2)) (ci_n (K 2) 1 (w 2 0)) (ci_n (K 2) 0 (w 2 1)) : Nat) : Int) ∧ dt_3 (xs_N 0 (cs_M w wt K) (cs_b wt K)) = 0
      ∧ dt_3 (xs_N 1 (cs_M w wt K) (cs_b wt K)) = ((q2_N (ci_n (K 1) 0 (wt 1)) (ci_n (K 1) 1 (w 1 0)) (ci_n (K 1) 0 (w 1 2)) (ci_n (K 2) 0 (wt 2)) (ci_n (K 2) 1 (w 2 0)) (ci_n (K 2) 0 (w 2 1)) : Nat) : Int) ∧ dt_3 (xs_N 2 (cs_M w wt K) (cs_b wt K)) = ((q2_N (ci_n (K 2) 0 (wt 2)) (ci_n (K 2) 1 (w 2 0)) (ci_n (K 2) 0 (w 2 1)) (ci_n (K 1) 0 (wt 1)) (ci_n (K 1) 1 (w 1 0)) (ci_n (K 1) 0 (w 1 2)) : Nat) : Int) := by
  have h0 := hw 0 (by decide)
  have h1 := hw 1 (by decide)
  have h2 := hw 2 (by decide)
  unfold dt_3 xs_N cs_M cs_b fl_M q2_D q2_N
  simp only [reduceIte, nq_01, nq_02, nq_10, nq_12, nq_20, nq_21, h0, h1, h2, ci_t hK]
  by_cases ka : K 1 <;> by_cases kb : K 2 <;> simp only [ci_t, ci_f, cn_t, cn_f, ka, kb, not_false_eq_true] <;> push_cast <;> refine ⟨?_, ?_, ?_, ?_⟩ <;> grind
theorem q3_r1 (w : Nat → Nat → Nat) (wt : Nat → Nat) (K : Nat → Prop) (hw : ∀ r, r < 3 → w r r = 0) (hK : K 1) :
    dt_3 (cs_M w wt K) = ((q2_D (ci_n (K 0) 0 (wt 0)) (ci_n (K 0) 1 (w 0 1)) (ci_n (K 0) 0 (w 0 2)) (ci_n (K 2) 0 (wt 2)) (ci_n (K 2) 1 (w 2 1)) (ci_n (K 2) 0 (w 2 0)) : Nat) : Int) ∧ dt_3 (xs_N 1 (cs_M w wt K) (cs_b wt K)) = 0
      ∧ dt_3 (xs_N 0 (cs_M w wt K) (cs_b wt K)) = ((q2_N (ci_n (K 0) 0 (wt 0)) (ci_n (K 0) 1 (w 0 1)) (ci_n (K 0) 0 (w 0 2)) (ci_n (K 2) 0 (wt 2)) (ci_n (K 2) 1 (w 2 1)) (ci_n (K 2) 0 (w 2 0)) : Nat) : Int) ∧ dt_3 (xs_N 2 (cs_M w wt K) (cs_b wt K)) = ((q2_N (ci_n (K 2) 0 (wt 2)) (ci_n (K 2) 1 (w 2 1)) (ci_n (K 2) 0 (w 2 0)) (ci_n (K 0) 0 (wt 0)) (ci_n (K 0) 1 (w 0 1)) (ci_n (K 0) 0 (w 0 2)) : Nat) : Int) := by
  have h0 := hw 0 (by decide)
  have h1 := hw 1 (by decide)
  have h2 := hw 2 (by decide)
  unfold dt_3 xs_N cs_M cs_b fl_M q2_D q2_N
  simp only [reduceIte, nq_01, nq_02, nq_10, nq_12, nq_20, nq_21, h0, h1, h2, ci_t hK]
  by_cases ka : K 0 <;> by_cases kb : K 2 <;> simp only [ci_t, ci_f, cn_t, cn_f, ka, kb, not_false_eq_true] <;> push_cast <;> refine ⟨?_, ?_, ?_, ?_⟩ <;> grind
theorem q3_r2 (w : Nat → Nat → Nat) (wt : Nat → Nat) (K : Nat → Prop) (hw : ∀ r, r < 3 → w r r = 0) (hK : K 2) :
    dt_3 (cs_M w wt K) = ((q2_D (ci_n (K 0) 0 (wt 0)) (ci_n (K 0) 1 (w 0 2)) (ci_n (K 0) 0 (w 0 1)) (ci_n (K 1) 0 (wt 1)) (ci_n (K 1) 1 (w 1 2)) (ci_n (K 1) 0 (w 1 0)) : Nat) : Int) ∧ dt_3 (xs_N 2 (cs_M w wt K) (cs_b wt K)) = 0
      ∧ dt_3 (xs_N 0 (cs_M w wt K) (cs_b wt K)) = ((q2_N (ci_n (K 0) 0 (wt 0)) (ci_n (K 0) 1 (w 0 2)) (ci_n (K 0) 0 (w 0 1)) (ci_n (K 1) 0 (wt 1)) (ci_n (K 1) 1 (w 1 2)) (ci_n (K 1) 0 (w 1 0)) : Nat) : Int) ∧ dt_3 (xs_N 1 (cs_M w wt K) (cs_b wt K)) = ((q2_N (ci_n (K 1) 0 (wt 1)) (ci_n (K 1) 1 (w 1 2)) (ci_n (K 1) 0 (w 1 0)) (ci_n (K 0) 0 (wt 0)) (ci_n (K 0) 1 (w 0 2)) (ci_n (K 0) 0 (w 0 1)) : Nat) : Int) := by
  have h0 := hw 0 (by decide)
  have h1 := hw 1 (by decide)
  have h2 := hw 2 (by decide)
  unfold dt_3 xs_N cs_M cs_b fl_M q2_D q2_N
  simp only [reduceIte, nq_01, nq_02, nq_10, nq_12, nq_20, nq_21, h0, h1, h2, ci_t hK]
  by_cases ka : K 0 <;> by_cases kb : K 1 <;> simp only [ci_t, ci_f, cn_t, cn_f, ka, kb, not_false_eq_true] <;> push_cast <;> refine ⟨?_, ?_, ?_, ?_⟩ <;> grind
def ch_F (w : Nat → Nat → Nat) (wt : Nat → Nat) (u : Nat) (KX KY : Nat → Prop) : Prop := KX u ∧ KY u ∧ ∀ a b, a < 3 → b < 3 → a ≠ u → b ≠ u → a ≠ b →
  (KX a ↔ (wt a = 0 ∧ w a u = 0 ∧ (w a b = 0 ∨ (wt b = 0 ∧ w b u = 0)))) ∧ (KY a ↔ (wt a = 0 ∧ (w a b = 0 ∨ wt b = 0)))
def ch_Q (w : Nat → Nat → Nat) (wt : Nat → Nat) (KX KY : Nat → Prop) (k : Nat) : Prop := ∃ c d n : Nat, 0 < c ∧ 0 < d ∧ dt_3 (cs_M w wt KY) = (d : Int) ∧ dt_3 (cs_M w wt KX) = ((c * d : Nat) : Int)
  ∧ dt_3 (xs_N k (cs_M w wt KY) (cs_b wt KY)) = (n : Int) ∧ dt_3 (xs_N k (cs_M w wt KX) (cs_b wt KX)) = ((c * n : Nat) : Int)
theorem ch_u0 (w : Nat → Nat → Nat) (wt : Nat → Nat) (KX KY : Nat → Prop) (hw : ∀ r, r < 3 → w r r = 0) (h : ch_F w wt 0 KX KY) (k : Nat) (hk : k < 3) : ch_Q w wt KX KY k := by
  obtain ⟨hx, hy, hf⟩ := h
  have f1 := hf 1 2 (by decide) (by decide) (by decide) (by decide) (by decide)
  have f2 := hf 2 1 (by decide) (by decide) (by decide) (by decide) (by decide)
  obtain ⟨c, c0, d0, e1, e2, e3⟩ := q2_main (wt 1) (w 1 0) (w 1 2) (wt 2) (w 2 0) (w 2 1) (KX 1) (KX 2) (KY 1) (KY 2) f1.1 f2.1 f1.2 f2.2
  obtain ⟨x1, x2, x3, x4⟩ := q3_r0 w wt KX hw hx
  obtain ⟨y1, y2, y3, y4⟩ := q3_r0 w wt KY hw hy
  rw [e1] at x1
  rw [e2] at x3
  rw [e3] at x4
  rcases (by omega : k = 0 ∨ k = 1 ∨ k = 2) with e | e | e <;> subst e
  · exact ⟨c, _, 0, c0, d0, y1, x1, y2, x2⟩
  · exact ⟨c, _, _, c0, d0, y1, x1, y3, x3⟩
  · exact ⟨c, _, _, c0, d0, y1, x1, y4, x4⟩
theorem ch_u1 (w : Nat → Nat → Nat) (wt : Nat → Nat) (KX KY : Nat → Prop) (hw : ∀ r, r < 3 → w r r = 0) (h : ch_F w wt 1 KX KY) (k : Nat) (hk : k < 3) : ch_Q w wt KX KY k := by
  obtain ⟨hx, hy, hf⟩ := h
  have f1 := hf 0 2 (by decide) (by decide) (by decide) (by decide) (by decide)
  have f2 := hf 2 0 (by decide) (by decide) (by decide) (by decide) (by decide)
  obtain ⟨c, c0, d0, e1, e2, e3⟩ := q2_main (wt 0) (w 0 1) (w 0 2) (wt 2) (w 2 1) (w 2 0) (KX 0) (KX 2) (KY 0) (KY 2) f1.1 f2.1 f1.2 f2.2
  obtain ⟨x1, x2, x3, x4⟩ := q3_r1 w wt KX hw hx
  obtain ⟨y1, y2, y3, y4⟩ := q3_r1 w wt KY hw hy
  rw [e1] at x1
  rw [e2] at x3
  rw [e3] at x4
  rcases (by omega : k = 1 ∨ k = 0 ∨ k = 2) with e | e | e <;> subst e
  · exact ⟨c, _, 0, c0, d0, y1, x1, y2, x2⟩
  · exact ⟨c, _, _, c0, d0, y1, x1, y3, x3⟩
  · exact ⟨c, _, _, c0, d0, y1, x1, y4, x4⟩
theorem ch_u2 (w : Nat → Nat → Nat) (wt : Nat → Nat) (KX KY : Nat → Prop) (hw : ∀ r, r < 3 → w r r = 0) (h : ch_F w wt 2 KX KY) (k : Nat) (hk : k < 3) : ch_Q w wt KX KY k := by
  obtain ⟨hx, hy, hf⟩ := h
  have f1 := hf 0 1 (by decide) (by decide) (by decide) (by decide) (by decide)
  have f2 := hf 1 0 (by decide) (by decide) (by decide) (by decide) (by decide)
  obtain ⟨c, c0, d0, e1, e2, e3⟩ := q2_main (wt 0) (w 0 2) (w 0 1) (wt 1) (w 1 2) (w 1 0) (KX 0) (KX 1) (KY 0) (KY 1) f1.1 f2.1 f1.2 f2.2
  obtain ⟨x1, x2, x3, x4⟩ := q3_r2 w wt KX hw hx
  obtain ⟨y1, y2, y3, y4⟩ := q3_r2 w wt KY hw hy
  rw [e1] at x1
  rw [e2] at x3
  rw [e3] at x4
  rcases (by omega : k = 2 ∨ k = 0 ∨ k = 1) with e | e | e <;> subst e
  · exact ⟨c, _, 0, c0, d0, y1, x1, y2, x2⟩
  · exact ⟨c, _, _, c0, d0, y1, x1, y3, x3⟩
  · exact ⟨c, _, _, c0, d0, y1, x1, y4, x4⟩
theorem ch_sys (w : Nat → Nat → Nat) (wt : Nat → Nat) (KX KY : Nat → Prop) (hw : ∀ r, r < 3 → w r r = 0) (u : Nat) (hu : u < 3) (h : ch_F w wt u KX KY) (k : Nat) (hk : k < 3) : ch_Q w wt KX KY k := by
  rcases (by omega : u = 0 ∨ u = 1 ∨ u = 2) with e | e | e <;> subst e
  · exact ch_u0 w wt KX KY hw h k hk
  · exact ch_u1 w wt KX KY hw h k hk
  · exact ch_u2 w wt KX KY hw h k hk
end
section
/-! ===== from the rates to the three rows ===== -/
def cs_w (R : Nat → Nat) (t r c : Nat) : Nat := R (4 * fm_st r t + fm_st c t)
def cs_t (R : Nat → Nat) (t r : Nat) : Nat := R (4 * fm_st r t + t)
theorem fm_inj {r c t : Nat} (h : fm_st r t = fm_st c t) : r = c := by unfold fm_st at h; split at h <;> split at h <;> omega
theorem fm_ne (r t : Nat) : fm_st r t ≠ t := by unfold fm_st; split <;> omega
theorem fm_sv {i t : Nat} (h : i ≠ t) : fm_st (sv_c i t) t = i := by
  unfold sv_c
  split
  · unfold fm_st; split <;> omega
  · unfold fm_st; split <;> omega
theorem sv_lt {i t : Nat} (hi : i < 4) (ht : t < 4) (h : i ≠ t) : sv_c i t < 3 := by unfold sv_c; split <;> omega
theorem fm_o (R : Nat → Nat) {t r : Nat} (ht : t < 4) (hr : r < 3) : of_O R (fm_st r t) = cs_t R t r + cs_w R t r 0 + cs_w R t r 1 + cs_w R t r 2 := by
  rcases (by omega : t = 0 ∨ t = 1 ∨ t = 2 ∨ t = 3) with e | e | e | e <;> subst e <;> rcases (by omega : r = 0 ∨ r = 1 ∨ r = 2) with e | e | e <;> subst e
  · show 0 + R 4 + R 5 + R 6 + R 7 = R 4 + R 5 + R 6 + R 7; omega
  · show 0 + R 8 + R 9 + R 10 + R 11 = R 8 + R 9 + R 10 + R 11; omega
  · show 0 + R 12 + R 13 + R 14 + R 15 = R 12 + R 13 + R 14 + R 15; omega
  · show 0 + R 0 + R 1 + R 2 + R 3 = R 1 + R 0 + R 2 + R 3; omega
  · show 0 + R 8 + R 9 + R 10 + R 11 = R 9 + R 8 + R 10 + R 11; omega
  · show 0 + R 12 + R 13 + R 14 + R 15 = R 13 + R 12 + R 14 + R 15; omega
  · show 0 + R 0 + R 1 + R 2 + R 3 = R 2 + R 0 + R 1 + R 3; omega
  · show 0 + R 4 + R 5 + R 6 + R 7 = R 6 + R 4 + R 5 + R 7; omega
  · show 0 + R 12 + R 13 + R 14 + R 15 = R 14 + R 12 + R 13 + R 15; omega
  · show 0 + R 0 + R 1 + R 2 + R 3 = R 3 + R 0 + R 1 + R 2; omega
  · show 0 + R 4 + R 5 + R 6 + R 7 = R 7 + R 4 + R 5 + R 6; omega
  · show 0 + R 8 + R 9 + R 10 + R 11 = R 11 + R 8 + R 9 + R 10; omega
theorem fm_fa (R : Nat → Nat) {t r c : Nat} (ht : t < 4) (hr : r < 3) : fm_A R (fm_st r t) (fm_st c t) = fl_M (cs_w R t) (cs_t R t) r c := by
  unfold fm_A fl_M
  by_cases e : r = c
  · subst e
    rw [if_pos rfl, if_pos rfl, fm_o R ht hr]
  · rw [if_neg (fun z => e (fm_inj z)), if_neg e]; rfl
theorem cs_x (R : Nat → Nat) {t : Nat} (ht : t < 4) (H : Nat → Prop) (r c : Nat) (hr : r < 3) : xs_M H (fm_M R t) r c = cs_M (cs_w R t) (cs_t R t) H r c := by
  unfold xs_M cs_M fm_M
  rw [fm_fa R ht hr]
theorem cs_y (R : Nat → Nat) {t : Nat} (ht : t < 4) (H : Nat → Prop) (r c : Nat) (hr : r < 3) : yn_N R H (fm_st r t) (fm_st c t) = cs_M (cs_w R t) (cs_t R t) (fun r => H (fm_st r t)) r c := by
  unfold yn_N cs_M
  rw [fm_fa R ht hr]
  refine congrArg (fun z => ci_i _ z _) ?_
  unfold id_i
  by_cases e : r = c
  · subst e; rw [if_pos rfl, if_pos rfl]
  · rw [if_neg (fun z => e (fm_inj z).symm), if_neg e]
theorem cs_K {w : Nat → Nat → Nat} {wt : Nat → Nat} {K K' : Nat → Prop} {r : Nat} (h : K r ↔ K' r) (c : Nat) : cs_M w wt K r c = cs_M w wt K' r c := by
  unfold cs_M; exact ci_c h
theorem cs_bd {R : Nat → Nat} (hR : ∀ n, R n ≤ 9) (t : Nat) (K : Nat → Prop) (r c : Nat) : (cs_M (cs_w R t) (cs_t R t) K r c).natAbs ≤ 36 := by
  unfold cs_M
  by_cases h : K r
  · rw [ci_t h]; split <;> decide
  · rw [ci_f h]
    unfold fl_M cs_w cs_t
    have h0 := hR (4 * fm_st r t + t)
    have h1 := hR (4 * fm_st r t + fm_st 0 t)
    have h2 := hR (4 * fm_st r t + fm_st 1 t)
    have h3 := hR (4 * fm_st r t + fm_st 2 t)
    have h4 := hR (4 * fm_st r t + fm_st c t)
    split
    · omega
    · omega
theorem cs_bb {b : Nat → Nat} (hb : ∀ r, b r ≤ 9) (K : Nat → Prop) (r : Nat) : (cs_b b K r).natAbs ≤ 36 := by
  unfold cs_b
  by_cases h : K r
  · rw [ci_t h]; decide
  · rw [ci_f h]; have := hb r; omega
theorem cs_bn {R : Nat → Nat} (hR : ∀ n, R n ≤ 9) (t : Nat) (K : Nat → Prop) {b : Nat → Nat} (hb : ∀ r, b r ≤ 9) (k : Nat) : (dt_3 (xs_N k (cs_M (cs_w R t) (cs_t R t) K) (cs_b b K))).natAbs ≤ 279936 := by
  apply bd_det
  intro r c _ _
  unfold xs_N
  split
  · exact cs_bb hb K r
  · exact cs_bd hR t K r c
theorem cs_bm {R : Nat → Nat} (hR : ∀ n, R n ≤ 9) (t : Nat) (K : Nat → Prop) : (dt_3 (cs_M (cs_w R t) (cs_t R t) K)).natAbs ≤ 279936 := bd_det (fun r c _ _ => cs_bd hR t K r c)
theorem cs_z {R : Nat → Nat} (hz : ∀ a, a < 4 → R (4 * a + a) = 0) (t : Nat) (r : Nat) (hr : r < 3) : cs_w R t r r = 0 := hz _ (fm_st4 hr)
/-! graphs -/
theorem gr_m1 {a : Nat} (ha : a < 4) : ¬ nI a = -1 := by
  rcases (by omega : a = 0 ∨ a = 1 ∨ a = 2 ∨ a = 3) with h | h | h | h <;> subst h <;> decide
theorem gr_1 (R : Nat → Nat) {a b t u : Nat} (ha : a < 4) (hb : b < 4) (ht : t < 4) (hu : u < 4) (d1 : a ≠ b) (d2 : a ≠ t) (d3 : a ≠ u) (d4 : b ≠ t) (d5 : b ≠ u) (d6 : t ≠ u) :
    (¬ rt_R (xr_E R (-1)) a t ∧ ¬ rt_R (xr_E R (-1)) a u) ↔ (R (4 * a + t) = 0 ∧ R (4 * a + u) = 0 ∧ (R (4 * a + b) = 0 ∨ (R (4 * b + t) = 0 ∧ R (4 * b + u) = 0))) := by
  have na := gr_m1 ha
  have nb := gr_m1 hb
  constructor
  · rintro ⟨h1, h2⟩
    have e1 : R (4 * a + t) = 0 := Nat.eq_zero_of_not_pos (fun p => h1 (rt_edge ha ht (rt_refl a) ⟨na, p⟩))
    have e2 : R (4 * a + u) = 0 := Nat.eq_zero_of_not_pos (fun p => h2 (rt_edge ha hu (rt_refl a) ⟨na, p⟩))
    refine ⟨e1, e2, ?_⟩
    rcases Nat.eq_zero_or_pos (R (4 * a + b)) with z | z
    · exact .inl z
    · have r1 : rt_R (xr_E R (-1)) a b := rt_edge ha hb (rt_refl a) ⟨na, z⟩
      exact .inr ⟨Nat.eq_zero_of_not_pos (fun p => h1 (rt_edge hb ht r1 ⟨nb, p⟩)), Nat.eq_zero_of_not_pos (fun p => h2 (rt_edge hb hu r1 ⟨nb, p⟩))⟩
  · rintro ⟨e1, e2, e3⟩
    have cl : ∀ x y, x < 4 → y < 4 → (x = a ∨ (0 < R (4 * a + b) ∧ x = b)) → xr_E R (-1) x y → (y = a ∨ (0 < R (4 * a + b) ∧ y = b)) := by
      intro x y _ hy hx he
      rcases (by omega : y = a ∨ y = b ∨ y = t ∨ y = u) with q | q | q | q
      · exact .inl q
      · rcases hx with hx | hx
        · subst hx q; exact .inr ⟨he.2, rfl⟩
        · exact .inr ⟨hx.1, q⟩
      · exfalso
        have p := he.2
        rcases hx with hx | hx
        · subst hx q; omega
        · have x2 := hx.2; subst x2 q; omega
      · exfalso
        have p := he.2
        rcases hx with hx | hx
        · subst hx q; omega
        · have x2 := hx.2; subst x2 q; omega
    refine ⟨fun h => ?_, fun h => ?_⟩
    · have := h (fun x => x = a ∨ (0 < R (4 * a + b) ∧ x = b)) (.inl rfl) cl
      omega
    · have := h (fun x => x = a ∨ (0 < R (4 * a + b) ∧ x = b)) (.inl rfl) cl
      omega
theorem gr_tu {t u x : Nat} (ht : t < 4) (hu : u < 4) (hx : x < 4) : (2 ^ t ||| 2 ^ u).testBit x = true ↔ (x = t ∨ x = u) := by
  rw [bs_orb _ (bs_one t ht).1 u hu x hx, (bs_one t ht).2 x hx]
  simp
theorem gr_2 (R : Nat → Nat) {a b t u : Nat} (ha : a < 4) (hb : b < 4) (ht : t < 4) (hu : u < 4) (d1 : a ≠ b) (d2 : a ≠ t) (d3 : a ≠ u) (d4 : b ≠ t) (d5 : b ≠ u) (d6 : t ≠ u) :
    (¬ rt_R (yr_E R a (2 ^ t ||| 2 ^ u)) a t) ↔ (R (4 * a + t) = 0 ∧ (R (4 * a + b) = 0 ∨ R (4 * b + t) = 0)) := by
  have nb : ¬ (2 ^ t ||| 2 ^ u).testBit b = true := fun z => by have := (gr_tu ht hu hb).mp z; omega
  constructor
  · intro h1
    have e1 : R (4 * a + t) = 0 := Nat.eq_zero_of_not_pos (fun p => h1 (rt_edge ha ht (rt_refl a) ⟨.inl rfl, p⟩))
    refine ⟨e1, ?_⟩
    rcases Nat.eq_zero_or_pos (R (4 * a + b)) with z | z
    · exact .inl z
    · exact .inr (Nat.eq_zero_of_not_pos (fun p => h1 (rt_edge hb ht (rt_edge ha hb (rt_refl a) ⟨.inl rfl, z⟩) ⟨.inr nb, p⟩)))
  · rintro ⟨e1, e3⟩ h
    have cl : ∀ x y, x < 4 → y < 4 → (x = a ∨ (0 < R (4 * a + b) ∧ x = b) ∨ x = u) → yr_E R a (2 ^ t ||| 2 ^ u) x y → (y = a ∨ (0 < R (4 * a + b) ∧ y = b) ∨ y = u) := by
      intro x y x4 hy hx he
      have xu : x ≠ u := by
        intro e
        rcases he.1 with q | q
        · omega
        · exact q ((gr_tu ht hu x4).mpr (.inr e))
      rcases (by omega : y = a ∨ y = b ∨ y = t ∨ y = u) with q | q | q | q
      · exact .inl q
      · rcases hx with hx | hx | hx
        · subst hx q; exact .inr (.inl ⟨he.2, rfl⟩)
        · exact .inr (.inl ⟨hx.1, q⟩)
        · exact absurd hx xu
      · exfalso
        have p := he.2
        rcases hx with hx | hx | hx
        · subst hx q; omega
        · have x2 := hx.2; subst x2 q; omega
        · exact xu hx
      · exact .inr (.inr q)
    have := h (fun x => x = a ∨ (0 < R (4 * a + b) ∧ x = b) ∨ x = u) (.inl rfl) cl
    omega
theorem gr_ch (R : Nat → Nat) {t u : Nat} (ht : t < 4) (hu : u < 4) (htu : t ≠ u) : ch_F (cs_w R t) (cs_t R t) (sv_c u t) (ch_H R t u) (fun r => yc_D R t u (fm_st r t)) := by
  have hs : fm_st (sv_c u t) t = u := fm_sv (Ne.symm htu)
  refine ⟨.inl hs, .inl hs, ?_⟩
  intro a b ha hb hau hbu hab
  have sa := fm_st4 (out := t) ha
  have sb := fm_st4 (out := t) hb
  have d1 : fm_st a t ≠ fm_st b t := fun z => hab (fm_inj z)
  have d3 : fm_st a t ≠ u := fun z => hau (fm_inj (z.trans hs.symm))
  have d5 : fm_st b t ≠ u := fun z => hbu (fm_inj (z.trans hs.symm))
  have g1 := gr_1 R sa sb ht hu d1 (fm_ne a t) d3 (fm_ne b t) d5 htu
  have g2 := gr_2 R sa sb ht hu d1 (fm_ne a t) d3 (fm_ne b t) d5 htu
  unfold cs_w cs_t
  rw [hs]
  exact ⟨⟨fun h => g1.mp (h.resolve_left d3), fun h => .inr (g1.mpr h)⟩, ⟨fun h => g2.mp (h.resolve_left d3), fun h => .inr (g2.mpr h)⟩⟩
theorem gr_ti (R : Nat → Nat) {i t : Nat} (hi : i < 4) (ht : t < 4) (hno : ∀ s, s < 4 → rt_R (xr_E R (nI t)) i s → rt_R (xr_E R (nI t)) s t) :
    fl_H (ef_x (cs_w R t) (ti_H R i t)) (ef_t (cs_t R t) (ti_H R i t)) := by
  intro Z ⟨r0, hr0, hz0⟩
  apply Classical.byContradiction
  intro hno2
  have act : ∀ r, r < 3 → Z r → ¬ ti_H R i t r := by
    intro r hr hz hk
    refine hno2 ⟨r, hr, hz, .inl ?_⟩
    unfold ef_t; rw [cn_t hk]; decide
  have rr : rt_R (xr_E R (nI t)) i (fm_st r0 t) := Classical.byContradiction (act r0 hr0 hz0)
  have rt0 := hno _ (fm_st4 hr0) rr
  have := rt0 (fun x => ∃ q, q < 3 ∧ Z q ∧ x = fm_st q t) ⟨r0, hr0, hz0, rfl⟩ (by
    rintro a b _ hb ⟨q, q1, q2, rfl⟩ he
    have hq := act q q1 q2
    by_cases e : b = t
    · exfalso
      subst e
      refine hno2 ⟨q, q1, q2, .inl ?_⟩
      unfold ef_t; rw [cn_f hq]; exact he.2
    · by_cases zc : Z (sv_c b t)
      · exact ⟨sv_c b t, sv_lt hb ht e, zc, (fm_sv e).symm⟩
      · exfalso
        refine hno2 ⟨q, q1, q2, .inr ⟨sv_c b t, sv_lt hb ht e, zc, ?_⟩⟩
        unfold ef_x; rw [cn_f hq]; unfold cs_w; rw [fm_sv e]; exact he.2)
  obtain ⟨q, _, _, h⟩ := this
  exact fm_ne q t h.symm
theorem gr_Et (R : Nat → Nat) {i t : Nat} (ht : t < 4) (hne : i ≠ t) (a b : Nat) : rt_R (yr_E R i (2 ^ t)) a b ↔ rt_R (xr_E R (nI t)) a b := by
  apply rt_congr
  intro x y hx _
  have e : (2 ^ t).testBit x = true ↔ x = t := by rw [(bs_one t ht).2 x hx]; simp
  unfold yr_E xr_E
  rw [nI_eq (by omega) (by omega), e]
  constructor
  · rintro ⟨h1, h2⟩
    exact ⟨fun z => h1.elim (fun q => hne (q.symm.trans z)) (fun q => q z), h2⟩
  · rintro ⟨h1, h2⟩
    exact ⟨.inr h1, h2⟩
/-- to come to t it doesn't matter what leads out of t -/
theorem gr_st (R : Nat → Nat) {s t : Nat} (hs : s < 4) (ht : t < 4) : rt_R (xr_E R (nI t)) s t ↔ rt_R (xr_E R (-1)) s t := by
  constructor
  · intro h S h1 h2
    exact h S h1 (fun a b ha hb hS he => h2 a b ha hb hS ⟨gr_m1 ha, he.2⟩)
  · intro h
    apply Classical.byContradiction
    intro hn
    have := h (fun x => x < 4 ∧ ¬ rt_R (xr_E R (nI t)) x t) ⟨hs, hn⟩ (by
      rintro a b ha hb ⟨_, hS⟩ he
      refine ⟨hb, fun z => hS ?_⟩
      have e : a ≠ t := fun e => hS (by rw [e]; exact rt_refl t)
      exact rt_trans (rt_edge ha hb (rt_refl a) ⟨fun q => e ((nI_eq (by omega) (by omega)).mp q), he.2⟩) z)
    exact this.2 (rt_refl t)
theorem gr_miss (R : Nat → Nat) {i t m : Nat} (ht : t < 4) (hne : i ≠ t) (hb : ∀ j, j < 4 → (m.testBit j = true ↔ rt_R (yr_E R i (2 ^ t)) i j)) :
    mm_M (rt_R (xr_E R (nI t))) i t ↔ ym_M (rt_R (xr_E R (-1))) m t := by
  constructor
  · rintro ⟨s, h1, h2, h3⟩
    exact ⟨s, h1, (hb s h1).mpr ((gr_Et R ht hne i s).mpr h2), fun e => h3 (by rw [e]; exact rt_refl t), fun z => h3 ((gr_st R h1 ht).mpr z)⟩
  · rintro ⟨s, h1, h2, _, h4⟩
    exact ⟨s, h1, (gr_Et R ht hne i s).mp ((hb s h1).mp h2), fun z => h4 ((gr_st R h1 ht).mp z)⟩
end
section
/-! ===== trees and determinants ===== -/
def tr_k (root p : Nat) : Nat → Nat → Bool
  | 0, _ => true
  | m + 1, i => if i = root then tr_k root p m (i + 1) else if tr_w root p 4 i = root then tr_k root p m (i + 1) else false
theorem tr_kf (R : Nat → Nat) (root p : Nat) : ∀ m i x, tr_k root p m i = false → tr_V R root p m i x = 0
  | 0, _, _, h => absurd (show true = false from h) (by decide)
  | m + 1, i, x, h => by
    unfold tr_k at h
    unfold tr_V
    by_cases e : i = root
    · rw [if_pos e] at h ⊢; exact tr_kf R root p m _ _ h
    · rw [if_neg e] at h ⊢
      by_cases e2 : tr_w root p 4 i = root
      · rw [if_pos e2] at h ⊢; exact tr_kf R root p m _ _ h
      · rw [if_neg e2]
def au_b (root p : Nat) : Bool := Nat.beq (dg_d p root) 0 && tr_k root p 4 0
def au_F (root : Nat) : Nat → List Nat → List Nat
  | 0, l => l
  | p + 1, l => au_F root p (if au_b root p = true then p :: l else l)
def au_L (R : Nat → Nat) (root : Nat) : List Nat → Nat
  | [] => 0
  | p :: l => tr_V R root p 4 0 1 + au_L R root l
theorem au_SF (R : Nat → Nat) (root : Nat) : ∀ n l, au_S R root n + au_L R root l = au_L R root (au_F root n l)
  | 0, l => by show 0 + au_L R root l = au_L R root l; omega
  | n + 1, l => by
    show au_S R root n + (if dg_d n root = 0 then tr_V R root n 4 0 1 else 0) + au_L R root l = au_L R root (au_F root n (if au_b root n = true then n :: l else l))
    rw [← au_SF R root n]
    by_cases e : dg_d n root = 0
    · rw [if_pos e]
      cases k : tr_k root n 4 0 with
      | false =>
        have b : ¬ au_b root n = true := by unfold au_b; rw [k, Bool.and_false]; decide
        rw [if_neg b, tr_kf R root n 4 0 1 k]; omega
      | true =>
        have b : au_b root n = true := by unfold au_b; rw [k, e]; rfl
        rw [if_pos b]
        show _ = au_S R root n + (tr_V R root n 4 0 1 + au_L R root l)
        omega
    · rw [if_neg e]
      have b : ¬ au_b root n = true := by
        unfold au_b
        rw [Bool.and_eq_true]
        exact fun z => e (Nat.eq_of_beq_eq_true z.1)
      rw [if_neg b]; omega
theorem au_F0 : au_F 0 256 [] = [0, 8, 12, 16, 28, 48, 56, 60, 64, 72, 80, 112, 128, 136, 140, 144] := by decide +kernel
theorem au_0p0 (R : Nat → Nat) : tr_V R 0 0 4 0 1 = 1 * R 4 * R 8 * R 12 := rfl
theorem au_0p8 (R : Nat → Nat) : tr_V R 0 8 4 0 1 = 1 * R 6 * R 8 * R 12 := rfl
theorem au_0p12 (R : Nat → Nat) : tr_V R 0 12 4 0 1 = 1 * R 7 * R 8 * R 12 := rfl
theorem au_0p16 (R : Nat → Nat) : tr_V R 0 16 4 0 1 = 1 * R 4 * R 9 * R 12 := rfl
theorem au_0p28 (R : Nat → Nat) : tr_V R 0 28 4 0 1 = 1 * R 7 * R 9 * R 12 := rfl
theorem au_0p48 (R : Nat → Nat) : tr_V R 0 48 4 0 1 = 1 * R 4 * R 11 * R 12 := rfl
theorem au_0p56 (R : Nat → Nat) : tr_V R 0 56 4 0 1 = 1 * R 6 * R 11 * R 12 := rfl
theorem au_0p60 (R : Nat → Nat) : tr_V R 0 60 4 0 1 = 1 * R 7 * R 11 * R 12 := rfl
theorem au_0p64 (R : Nat → Nat) : tr_V R 0 64 4 0 1 = 1 * R 4 * R 8 * R 13 := rfl
theorem au_0p72 (R : Nat → Nat) : tr_V R 0 72 4 0 1 = 1 * R 6 * R 8 * R 13 := rfl
theorem au_0p80 (R : Nat → Nat) : tr_V R 0 80 4 0 1 = 1 * R 4 * R 9 * R 13 := rfl
theorem au_0p112 (R : Nat → Nat) : tr_V R 0 112 4 0 1 = 1 * R 4 * R 11 * R 13 := rfl
theorem au_0p128 (R : Nat → Nat) : tr_V R 0 128 4 0 1 = 1 * R 4 * R 8 * R 14 := rfl
theorem au_0p136 (R : Nat → Nat) : tr_V R 0 136 4 0 1 = 1 * R 6 * R 8 * R 14 := rfl
theorem au_0p140 (R : Nat → Nat) : tr_V R 0 140 4 0 1 = 1 * R 7 * R 8 * R 14 := rfl
theorem au_0p144 (R : Nat → Nat) : tr_V R 0 144 4 0 1 = 1 * R 4 * R 9 * R 14 := rfl
theorem au_t0 (R : Nat → Nat) : au_S R 0 256 = fl_P (cs_w R 0) (cs_t R 0) := by
  have h := au_SF R 0 256 []
  rw [au_F0] at h
  simp only [au_L, au_0p0, au_0p8, au_0p12, au_0p16, au_0p28, au_0p48, au_0p56, au_0p60, au_0p64, au_0p72, au_0p80, au_0p112, au_0p128, au_0p136, au_0p140, au_0p144, Nat.one_mul] at h
  have t0 : cs_t R 0 0 = R 4 := rfl
  have w01 : cs_w R 0 0 1 = R 6 := rfl
  have w02 : cs_w R 0 0 2 = R 7 := rfl
  have t1 : cs_t R 0 1 = R 8 := rfl
  have w10 : cs_w R 0 1 0 = R 9 := rfl
  have w12 : cs_w R 0 1 2 = R 11 := rfl
  have t2 : cs_t R 0 2 = R 12 := rfl
  have w20 : cs_w R 0 2 0 = R 13 := rfl
  have w21 : cs_w R 0 2 1 = R 14 := rfl
  unfold fl_P
  simp only [t0, t1, t2, w01, w02, w10, w12, w20, w21]
  omega
theorem au_F1 : au_F 1 256 [] = [1, 17, 18, 49, 65, 67, 81, 82, 83, 113, 114, 115, 129, 145, 146, 147] := by decide +kernel
theorem au_1p1 (R : Nat → Nat) : tr_V R 1 1 4 0 1 = 1 * R 1 * R 8 * R 12 := rfl
theorem au_1p17 (R : Nat → Nat) : tr_V R 1 17 4 0 1 = 1 * R 1 * R 9 * R 12 := rfl
theorem au_1p18 (R : Nat → Nat) : tr_V R 1 18 4 0 1 = 1 * R 2 * R 9 * R 12 := rfl
theorem au_1p49 (R : Nat → Nat) : tr_V R 1 49 4 0 1 = 1 * R 1 * R 11 * R 12 := rfl
theorem au_1p65 (R : Nat → Nat) : tr_V R 1 65 4 0 1 = 1 * R 1 * R 8 * R 13 := rfl
theorem au_1p67 (R : Nat → Nat) : tr_V R 1 67 4 0 1 = 1 * R 3 * R 8 * R 13 := rfl
theorem au_1p81 (R : Nat → Nat) : tr_V R 1 81 4 0 1 = 1 * R 1 * R 9 * R 13 := rfl
theorem au_1p82 (R : Nat → Nat) : tr_V R 1 82 4 0 1 = 1 * R 2 * R 9 * R 13 := rfl
theorem au_1p83 (R : Nat → Nat) : tr_V R 1 83 4 0 1 = 1 * R 3 * R 9 * R 13 := rfl
theorem au_1p113 (R : Nat → Nat) : tr_V R 1 113 4 0 1 = 1 * R 1 * R 11 * R 13 := rfl
theorem au_1p114 (R : Nat → Nat) : tr_V R 1 114 4 0 1 = 1 * R 2 * R 11 * R 13 := rfl
theorem au_1p115 (R : Nat → Nat) : tr_V R 1 115 4 0 1 = 1 * R 3 * R 11 * R 13 := rfl
theorem au_1p129 (R : Nat → Nat) : tr_V R 1 129 4 0 1 = 1 * R 1 * R 8 * R 14 := rfl
theorem au_1p145 (R : Nat → Nat) : tr_V R 1 145 4 0 1 = 1 * R 1 * R 9 * R 14 := rfl
theorem au_1p146 (R : Nat → Nat) : tr_V R 1 146 4 0 1 = 1 * R 2 * R 9 * R 14 := rfl
theorem au_1p147 (R : Nat → Nat) : tr_V R 1 147 4 0 1 = 1 * R 3 * R 9 * R 14 := rfl
theorem au_t1 (R : Nat → Nat) : au_S R 1 256 = fl_P (cs_w R 1) (cs_t R 1) := by
  have h := au_SF R 1 256 []
  rw [au_F1] at h
  simp only [au_L, au_1p1, au_1p17, au_1p18, au_1p49, au_1p65, au_1p67, au_1p81, au_1p82, au_1p83, au_1p113, au_1p114, au_1p115, au_1p129, au_1p145, au_1p146, au_1p147, Nat.one_mul] at h
  have t0 : cs_t R 1 0 = R 1 := rfl
  have w01 : cs_w R 1 0 1 = R 2 := rfl
  have w02 : cs_w R 1 0 2 = R 3 := rfl
  have t1 : cs_t R 1 1 = R 9 := rfl
  have w10 : cs_w R 1 1 0 = R 8 := rfl
  have w12 : cs_w R 1 1 2 = R 11 := rfl
  have t2 : cs_t R 1 2 = R 13 := rfl
  have w20 : cs_w R 1 2 0 = R 12 := rfl
  have w21 : cs_w R 1 2 1 = R 14 := rfl
  unfold fl_P
  simp only [t0, t1, t2, w01, w02, w10, w12, w20, w21]
  omega
theorem au_F2 : au_F 2 256 [] = [2, 9, 10, 14, 66, 73, 74, 75, 130, 131, 137, 138, 139, 141, 142, 143] := by decide +kernel
theorem au_2p2 (R : Nat → Nat) : tr_V R 2 2 4 0 1 = 1 * R 2 * R 4 * R 12 := rfl
theorem au_2p9 (R : Nat → Nat) : tr_V R 2 9 4 0 1 = 1 * R 1 * R 6 * R 12 := rfl
theorem au_2p10 (R : Nat → Nat) : tr_V R 2 10 4 0 1 = 1 * R 2 * R 6 * R 12 := rfl
theorem au_2p14 (R : Nat → Nat) : tr_V R 2 14 4 0 1 = 1 * R 2 * R 7 * R 12 := rfl
theorem au_2p66 (R : Nat → Nat) : tr_V R 2 66 4 0 1 = 1 * R 2 * R 4 * R 13 := rfl
theorem au_2p73 (R : Nat → Nat) : tr_V R 2 73 4 0 1 = 1 * R 1 * R 6 * R 13 := rfl
theorem au_2p74 (R : Nat → Nat) : tr_V R 2 74 4 0 1 = 1 * R 2 * R 6 * R 13 := rfl
theorem au_2p75 (R : Nat → Nat) : tr_V R 2 75 4 0 1 = 1 * R 3 * R 6 * R 13 := rfl
theorem au_2p130 (R : Nat → Nat) : tr_V R 2 130 4 0 1 = 1 * R 2 * R 4 * R 14 := rfl
theorem au_2p131 (R : Nat → Nat) : tr_V R 2 131 4 0 1 = 1 * R 3 * R 4 * R 14 := rfl
theorem au_2p137 (R : Nat → Nat) : tr_V R 2 137 4 0 1 = 1 * R 1 * R 6 * R 14 := rfl
theorem au_2p138 (R : Nat → Nat) : tr_V R 2 138 4 0 1 = 1 * R 2 * R 6 * R 14 := rfl
theorem au_2p139 (R : Nat → Nat) : tr_V R 2 139 4 0 1 = 1 * R 3 * R 6 * R 14 := rfl
theorem au_2p141 (R : Nat → Nat) : tr_V R 2 141 4 0 1 = 1 * R 1 * R 7 * R 14 := rfl
theorem au_2p142 (R : Nat → Nat) : tr_V R 2 142 4 0 1 = 1 * R 2 * R 7 * R 14 := rfl
theorem au_2p143 (R : Nat → Nat) : tr_V R 2 143 4 0 1 = 1 * R 3 * R 7 * R 14 := rfl
theorem au_t2 (R : Nat → Nat) : au_S R 2 256 = fl_P (cs_w R 2) (cs_t R 2) := by
  have h := au_SF R 2 256 []
  rw [au_F2] at h
  simp only [au_L, au_2p2, au_2p9, au_2p10, au_2p14, au_2p66, au_2p73, au_2p74, au_2p75, au_2p130, au_2p131, au_2p137, au_2p138, au_2p139, au_2p141, au_2p142, au_2p143, Nat.one_mul] at h
  have t0 : cs_t R 2 0 = R 2 := rfl
  have w01 : cs_w R 2 0 1 = R 1 := rfl
  have w02 : cs_w R 2 0 2 = R 3 := rfl
  have t1 : cs_t R 2 1 = R 6 := rfl
  have w10 : cs_w R 2 1 0 = R 4 := rfl
  have w12 : cs_w R 2 1 2 = R 7 := rfl
  have t2 : cs_t R 2 2 = R 14 := rfl
  have w20 : cs_w R 2 2 0 = R 12 := rfl
  have w21 : cs_w R 2 2 1 = R 13 := rfl
  unfold fl_P
  simp only [t0, t1, t2, w01, w02, w10, w12, w20, w21]
  omega
theorem au_F3 : au_F 3 256 [] = [3, 11, 13, 15, 19, 29, 30, 31, 50, 51, 57, 58, 59, 61, 62, 63] := by decide +kernel
theorem au_3p3 (R : Nat → Nat) : tr_V R 3 3 4 0 1 = 1 * R 3 * R 4 * R 8 := rfl
theorem au_3p11 (R : Nat → Nat) : tr_V R 3 11 4 0 1 = 1 * R 3 * R 6 * R 8 := rfl
theorem au_3p13 (R : Nat → Nat) : tr_V R 3 13 4 0 1 = 1 * R 1 * R 7 * R 8 := rfl
theorem au_3p15 (R : Nat → Nat) : tr_V R 3 15 4 0 1 = 1 * R 3 * R 7 * R 8 := rfl
theorem au_3p19 (R : Nat → Nat) : tr_V R 3 19 4 0 1 = 1 * R 3 * R 4 * R 9 := rfl
theorem au_3p29 (R : Nat → Nat) : tr_V R 3 29 4 0 1 = 1 * R 1 * R 7 * R 9 := rfl
theorem au_3p30 (R : Nat → Nat) : tr_V R 3 30 4 0 1 = 1 * R 2 * R 7 * R 9 := rfl
theorem au_3p31 (R : Nat → Nat) : tr_V R 3 31 4 0 1 = 1 * R 3 * R 7 * R 9 := rfl
theorem au_3p50 (R : Nat → Nat) : tr_V R 3 50 4 0 1 = 1 * R 2 * R 4 * R 11 := rfl
theorem au_3p51 (R : Nat → Nat) : tr_V R 3 51 4 0 1 = 1 * R 3 * R 4 * R 11 := rfl
theorem au_3p57 (R : Nat → Nat) : tr_V R 3 57 4 0 1 = 1 * R 1 * R 6 * R 11 := rfl
theorem au_3p58 (R : Nat → Nat) : tr_V R 3 58 4 0 1 = 1 * R 2 * R 6 * R 11 := rfl
theorem au_3p59 (R : Nat → Nat) : tr_V R 3 59 4 0 1 = 1 * R 3 * R 6 * R 11 := rfl
theorem au_3p61 (R : Nat → Nat) : tr_V R 3 61 4 0 1 = 1 * R 1 * R 7 * R 11 := rfl
theorem au_3p62 (R : Nat → Nat) : tr_V R 3 62 4 0 1 = 1 * R 2 * R 7 * R 11 := rfl
theorem au_3p63 (R : Nat → Nat) : tr_V R 3 63 4 0 1 = 1 * R 3 * R 7 * R 11 := rfl
theorem au_t3 (R : Nat → Nat) : au_S R 3 256 = fl_P (cs_w R 3) (cs_t R 3) := by
  have h := au_SF R 3 256 []
  rw [au_F3] at h
  simp only [au_L, au_3p3, au_3p11, au_3p13, au_3p15, au_3p19, au_3p29, au_3p30, au_3p31, au_3p50, au_3p51, au_3p57, au_3p58, au_3p59, au_3p61, au_3p62, au_3p63, Nat.one_mul] at h
  have t0 : cs_t R 3 0 = R 3 := rfl
  have w01 : cs_w R 3 0 1 = R 1 := rfl
  have w02 : cs_w R 3 0 2 = R 2 := rfl
  have t1 : cs_t R 3 1 = R 7 := rfl
  have w10 : cs_w R 3 1 0 = R 4 := rfl
  have w12 : cs_w R 3 1 2 = R 6 := rfl
  have t2 : cs_t R 3 2 = R 11 := rfl
  have w20 : cs_w R 3 2 0 = R 8 := rfl
  have w21 : cs_w R 3 2 1 = R 9 := rfl
  unfold fl_P
  simp only [t0, t1, t2, w01, w02, w10, w12, w20, w21]
  omega
theorem au_t (R : Nat → Nat) {root : Nat} (hr : root < 4) : au_S R root 256 = fl_P (cs_w R root) (cs_t R root) := by
  rcases (by omega : root = 0 ∨ root = 1 ∨ root = 2 ∨ root = 3) with e | e | e | e <;> subst e
  · exact au_t0 R
  · exact au_t1 R
  · exact au_t2 R
  · exact au_t3 R
theorem au_det {R : Nat → Nat} (hz : ∀ a, a < 4 → R (4 * a + a) = 0) {root : Nat} (hr : root < 4) : dt_3 (fm_M R root) = (au_S R root 256 : Int) := by
  rw [au_t R hr, ← fl_det _ _ (cs_z hz root 0 (by decide)) (cs_z hz root 1 (by decide)) (cs_z hz root 2 (by decide))]
  exact dt_c3 (fun r c h1 _ => fm_fa R hr h1)
theorem au_lt {R : Nat → Nat} (hR : ∀ n, R n ≤ 9) (hz : ∀ a, a < 4 → R (4 * a + a) = 0) {root : Nat} (hr : root < 4) : au_S R root 256 < 2 ^ 31 := by
  have e := au_det hz hr
  have b : (dt_3 (fm_M R root)).natAbs ≤ 279936 := by
    apply bd_det
    intro r c h1 _
    have := cs_bd hR root (fun _ => False) r c
    unfold cs_M at this
    rw [ci_f (fun z => z), ← fm_fa R hr h1] at this
    exact this
  omega
/-! X's law -/
def wl_w (R : Nat → Nat) (k : Nat) : Nat := if k < 4 then au_S R k 256 else 0
theorem xl_23 {post : Int32 → SX → Prop} {fu fl : Int32} {R : Nat → Nat} {re ma ri : Nat → Int32} {i : Nat} (hR : ∀ n, R n ≤ 9) (hz : ∀ a, a < 4 → R (4 * a + a) = 0) (hi : i < 4)
    (h : ∀ ma', post (if la_G (wl_w R) 4 = 0 then -1 else nI (wl_w R i / la_G (wl_w R) 4)) (fu, fl, (fun n => nI (R n)), re, ma', ri)) :
    ∃ n, wX_law_23 post (nI i) n 0 0 0 fu fl (fun n => nI (R n)) re ma ri := by
  have hw : ∀ k, wl_w R k < 2 ^ 31 := by
    intro k
    unfold wl_w
    split
    · rename_i hk; exact au_lt hR hz hk
    · decide
  have hG := la_lt (by decide) hw
  refine loop_0 (fun n k (s : Nat × (Nat → Int32)) => wX_law_23 post (nI i) n (nI s.1) (nI (la_G (wl_w R) k)) (nI k) fu fl (fun n => nI (R n)) re s.2 ri) (fun k s => i < k → s.1 = wl_w R i) 4 (0, ma) (fun h => by omega) ?_ ?_
  · intro n s hs
    have e := hs hi
    have hi2 := hw i
    have hg := hG 4
    have h' := h s.2
    refine br_t bs_le4 ?_
    rw [e]
    by_cases z : la_G (wl_w R) 4 = 0
    · rw [if_pos z] at h'
      rw [z]
      exact br_f (by decide) h'
    · rw [if_neg z] at h'
      refine br_t (nI_le (a := 1) (by omega) (by omega)) ⟨nI_ne0 (by omega) (by omega), ?_⟩
      rw [pk_div hi2 (by omega) hg]
      exact h'
  · intro n k s hk hs ih
    have e : wl_w R k = au_S R k 256 := if_pos hk
    refine br_f (bs_ge4 hk) (xf_fill hk (fun ma' hm => xd_det hm ?_))
    rw [au_det hz hk, ← e]
    refine xg_gcd (hG k) (hw k) (pk_eq k i (fun q => nm_r (nI_1 k) (ih (wl_w R k, ma') (fun _ => by rw [q]))) (fun q => nm_r (nI_1 k) (ih (s.1, ma') (fun z => hs (by omega)))))
end
section
/-! ===== one answer for both sides ===== -/
theorem an_frac {c n d : Nat} (hc : 0 < c) : (c * n) / Nat.gcd (c * n) (c * d) = n / Nat.gcd n d := by
  rw [Nat.gcd_mul_left, Nat.mul_div_mul_left _ _ hc]
theorem an_frac2 {c n d : Nat} (hc : 0 < c) : (c * d) / Nat.gcd (c * n) (c * d) = d / Nat.gcd n d := by
  rw [Nat.gcd_mul_left, Nat.mul_div_mul_left _ _ hc]
theorem an_ref {post : Int32 → Prop} {i t u : Nat} (hi : i < 4) (ht : t < 4) (hu : u < 4) (htu : t ≠ u) (h : post 0) : wpY_refused post (nI i) (nI t) (nI u) :=
  cy_badOk hi (br_t rfl (cy_badOk ht (br_t rfl (cy_badOk hu (br_t rfl (br_f (fun z => htu ((nI_eq (by omega) (by omega)).mp z)) h))))))
theorem an_refB {post : Int32 → Prop} {v1 v2 v3 : Int32} (hb : (v1 < 0 ∨ nI 4 ≤ v1) ∨ (v2 < 0 ∨ nI 4 ≤ v2) ∨ (v3 < 0 ∨ nI 4 ≤ v3) ∨ v2 = v3) (h : post 1) : wpY_refused post v1 v2 v3 := by
  unfold wpY_refused
  rcases cx_st v1 with h1 | ⟨a, ha, rfl⟩
  · exact cy_badNo h1 (br_f (by decide) h)
  · refine cy_badOk ha (br_t rfl ?_)
    rcases cx_st v2 with h2 | ⟨b, hb2, rfl⟩
    · exact cy_badNo h2 (br_f (by decide) h)
    · refine cy_badOk hb2 (br_t rfl ?_)
      rcases cx_st v3 with h3 | ⟨c, hc, rfl⟩
      · exact cy_badNo h3 (br_f (by decide) h)
      · refine cy_badOk hc (br_t rfl ?_)
        have nb : ∀ x, x < 4 → ¬ (nI x < 0 ∨ nI 4 ≤ nI x) := fun x hx z => z.elim (nI_pos (by omega)) (nI_ge hx (by decide))
        exact br_t ((((hb.resolve_left (nb a ha)).resolve_left (nb b hb2)).resolve_left (nb c hc))) h
theorem an_fcB {post : SX → Prop} {fu fl : Int32} {ra re ma ri : Nat → Int32} {v1 v2 v3 : Int32} (hb : (v1 < 0 ∨ nI 4 ≤ v1) ∨ (v2 < 0 ∨ nI 4 ≤ v2) ∨ (v3 < 0 ∨ nI 4 ≤ v3) ∨ v2 = v3)
    (h : post (-1, -1, ra, re, ma, ri)) : wpX_findChance post (fu, fl, ra, re, ma, ri) v1 v2 v3 := by
  unfold wpX_findChance wpX_forgetFraction
  dsimp only
  rcases cx_st v1 with h1 | ⟨a, ha, rfl⟩
  · exact cx_isNo h1 (br_t rfl h)
  · refine cx_isOk ha (br_f (by decide) ?_)
    rcases cx_st v2 with h2 | ⟨b, hb2, rfl⟩
    · exact cx_isNo h2 (br_t rfl h)
    · refine cx_isOk hb2 (br_f (by decide) ?_)
      rcases cx_st v3 with h3 | ⟨c, hc, rfl⟩
      · exact cx_isNo h3 (br_t rfl h)
      · refine cx_isOk hc (br_f (by decide) ?_)
        have nb : ∀ x, x < 4 → ¬ (nI x < 0 ∨ nI 4 ≤ nI x) := fun x hx z => z.elim (nI_pos (by omega)) (nI_ge hx (by decide))
        exact br_t ((((hb.resolve_left (nb a ha)).resolve_left (nb b hb2)).resolve_left (nb c hc))) h
theorem an_fcE {post : SX → Prop} {fu fl : Int32} {ra re ma ri : Nat → Int32} {t u : Nat} (ht : t < 4) (hu : u < 4) (htu : t ≠ u)
    (h : post (nI 1, nI 1, ra, re, ma, ri)) : wpX_findChance post (fu, fl, ra, re, ma, ri) (nI t) (nI t) (nI u) := by
  unfold wpX_findChance wpX_forgetFraction
  dsimp only
  exact cx_isOk ht (br_f (by decide) (cx_isOk ht (br_f (by decide) (cx_isOk hu (br_f (by decide) (br_f (fun z => htu ((nI_eq (by omega) (by omega)).mp z)) (br_t rfl (xg_set (n := 1) (d := 1) (by decide) (by decide) (by decide) h))))))))
theorem an_fcN {post : SX → Prop} {fu fl : Int32} {R : Nat → Nat} {re ma ri : Nat → Int32} {i t u n d : Nat} (hR : ∀ n, R n ≤ 9) (hi : i < 4) (ht : t < 4) (hu : u < 4) (htu : t ≠ u) (hit : i ≠ t)
    (hd : dt_3 (xs_M (ch_H R t u) (fm_M R t)) = (d : Int)) (hn : dt_3 (xs_N (sv_c i t) (xs_M (ch_H R t u) (fm_M R t)) (xs_b (ch_H R t u) (ch_b R t))) = (n : Int)) (h0 : 0 < d) (bd : d < 2 ^ 31) (bn : n < 2 ^ 31)
    (h : ∀ re' ma' ri', post (nI (n / Nat.gcd n d), nI (d / Nat.gcd n d), (fun n => nI (R n)), re', ma', ri')) : wpX_findChance post (fu, fl, (fun n => nI (R n)), re, ma, ri) (nI i) (nI t) (nI u) := by
  unfold wpX_findChance wpX_forgetFraction
  dsimp only
  refine cx_isOk hi (br_f (by decide) (cx_isOk ht (br_f (by decide) (cx_isOk hu (br_f (by decide) (br_f (fun z => htu ((nI_eq (by omega) (by omega)).mp z)) (br_f (fun z => hit ((nI_eq (by omega) (by omega)).mp z)) (xr_find hR (fun re' hre => ?_)))))))))
  dsimp only
  refine xf_fill ht (fun ma' hm => ?_)
  dsimp only
  exact xc_56 hi ht hu hit hre hm hd hn h0 bd bn (fun m2 r2 => h re' m2 r2)
theorem an_ch {R : Nat → Nat} (hR : ∀ n, R n ≤ 9) (hz : ∀ a, a < 4 → R (4 * a + a) = 0) (v1 v2 v3 : Int32) : ∃ U L : Int32,
    (∀ (post : SX → Prop) (fu fl : Int32) (re ma ri : Nat → Int32), (∀ re' ma' ri', post (U, L, (fun n => nI (R n)), re', ma', ri')) → wpX_findChance post (fu, fl, (fun n => nI (R n)), re, ma, ri) v1 v2 v3) ∧
    (∀ (post : Int32 → SY → Prop) (su co rg : Nat → Int64), (∀ co' rg', post U ((fun n => nI (R n)), su, co', rg')) → wpY_chanceUpper post ((fun n => nI (R n)), su, co, rg) v1 v2 v3) ∧
    (∀ (post : Int32 → SY → Prop) (su co rg : Nat → Int64), (∀ co' rg', post L ((fun n => nI (R n)), su, co', rg')) → wpY_chanceLower post ((fun n => nI (R n)), su, co, rg) v1 v2 v3) := by
  by_cases hb : (v1 < 0 ∨ nI 4 ≤ v1) ∨ (v2 < 0 ∨ nI 4 ≤ v2) ∨ (v3 < 0 ∨ nI 4 ≤ v3) ∨ v2 = v3
  · refine ⟨-1, -1, fun post fu fl re ma ri h => an_fcB hb (h re ma ri), fun post su co rg h => ?_, fun post su co rg h => ?_⟩
    · unfold wpY_chanceUpper; dsimp only; exact an_refB hb (br_f (by decide) (h co rg))
    · unfold wpY_chanceLower; dsimp only; exact an_refB hb (br_f (by decide) (h co rg))
  · obtain ⟨i, hi, rfl⟩ := (cx_st v1).resolve_left (fun z => hb (.inl z))
    obtain ⟨t, ht, rfl⟩ := (cx_st v2).resolve_left (fun z => hb (.inr (.inl z)))
    obtain ⟨u, hu, rfl⟩ := (cx_st v3).resolve_left (fun z => hb (.inr (.inr (.inl z))))
    have htu : t ≠ u := fun z => hb (.inr (.inr (.inr (by rw [z]))))
    have hut : sv_c u t < 3 := sv_lt hu ht (Ne.symm htu)
    have hNt : ∀ r, r < 4 → yn_N R (yc_H R t u) t r = id_i r t := fun r _ => by unfold yn_N; exact ci_t (.inl rfl)
    have SYS := fun k hk => ch_sys (cs_w R t) (cs_t R t) (ch_H R t u) (fun r => yc_D R t u (fm_st r t)) (fun r hr => cs_z hz t r hr) (sv_c u t) hut (gr_ch R ht hu htu) k hk
    have YM : ∀ r c, r < 3 → c < 3 → yn_N R (yc_H R t u) (fm_st r t) (fm_st c t) = cs_M (cs_w R t) (cs_t R t) (fun r => yc_D R t u (fm_st r t)) r c := by
      intro r c hr _
      rw [cs_y R ht _ r c hr]
      exact cs_K ⟨fun z => z.resolve_left (fm_ne r t), .inr⟩ c
    have YD : dt_4 (yn_N R (yc_H R t u)) = dt_3 (cs_M (cs_w R t) (cs_t R t) (fun r => yc_D R t u (fm_st r t))) := by
      rw [dt_t t ht _ hNt]; exact dt_c3 YM
    by_cases hit : i = t
    · subst hit
      obtain ⟨c, d, n, hc, hd, y1, x1, y2, x2⟩ := SYS 0 (by decide)
      rw [y1] at YD
      have b1 := cs_bm hR i (fun r => yc_D R i u (fm_st r i))
      have YN : dt_4 (ye_E (yn_N R (yc_H R i u)) (fun s => id_i s i) i) = (d : Int) := by
        rw [dt_same i hi _ _ hNt (fun r _ => rfl), YD]
      have e1 : d / Nat.gcd d d = 1 := by rw [Nat.gcd_self]; exact Nat.div_self hd
      refine ⟨nI 1, nI 1, fun post fu fl re ma ri h => an_fcE hi hu htu (h re ma ri), fun post su co rg h => ?_, fun post su co rg h => ?_⟩
      · unfold wpY_chanceUpper; dsimp only
        refine an_ref hi ht hu htu (br_t rfl (yc_ch hR ht hu (fun co' rg' hs => ?_)))
        dsimp only
        refine yf_up hi hs YD YN hd (by omega) (by omega) ?_
        rw [e1, lN_i]; exact h co' rg'
      · unfold wpY_chanceLower; dsimp only
        refine an_ref hi ht hu htu (br_t rfl (yc_ch hR ht hu (fun co' rg' hs => ?_)))
        dsimp only
        refine yf_low hi hs YD YN hd (by omega) (by omega) ?_
        rw [e1, lN_i]; exact h co' rg'
    · obtain ⟨c, d, n, hc, hd, y1, x1, y2, x2⟩ := SYS (sv_c i t) (sv_lt hi ht hit)
      have bx := cs_bm hR t (ch_H R t u)
      have bxn := cs_bn hR t (ch_H R t u) (b := cs_t R t) (fun r => hR _) (sv_c i t)
      have byy := cs_bm hR t (fun r => yc_D R t u (fm_st r t))
      have byn := cs_bn hR t (fun r => yc_D R t u (fm_st r t)) (b := cs_t R t) (fun r => hR _) (sv_c i t)
      rw [x1] at bx
      rw [x2] at bxn
      rw [y1] at byy YD
      rw [y2] at byn
      have YN : dt_4 (ye_E (yn_N R (yc_H R t u)) (fun s => id_i s t) i) = (n : Int) := by
        rw [dt_n t i ht hi hit _ _ hNt, ← y2]
        apply dt_c3
        intro r k hr hk
        unfold xs_N
        by_cases e : k = sv_c i t
        · rw [if_pos e, if_pos e]
          have g1 : id_i (fm_st r t) t = 0 := if_neg (fm_ne r t)
          have g2 : id_i t t = 1 := if_pos rfl
          dsimp only
          rw [g1, g2]
          unfold yn_N cs_b
          by_cases q : yc_D R t u (fm_st r t)
          · rw [ci_t (show yc_H R t u (fm_st r t) from .inr q), ci_t q]
            have g3 : id_i t (fm_st r t) = 0 := if_neg (fun z => fm_ne r t z.symm)
            rw [g3]; rfl
          · rw [ci_f (fun z : yc_H R t u (fm_st r t) => q (z.resolve_left (fm_ne r t))), ci_f q]
            unfold fm_A
            rw [if_neg (fm_ne r t)]
            unfold cs_t
            omega
        · rw [if_neg e, if_neg e]; exact YM r k hr hk
      have XD : dt_3 (xs_M (ch_H R t u) (fm_M R t)) = ((c * d : Nat) : Int) := by
        rw [← x1]; exact dt_c3 (fun r k hr _ => cs_x R ht _ r k hr)
      have XN : dt_3 (xs_N (sv_c i t) (xs_M (ch_H R t u) (fm_M R t)) (xs_b (ch_H R t u) (ch_b R t))) = ((c * n : Nat) : Int) := by
        rw [← x2]
        apply dt_c3
        intro r k hr _
        unfold xs_N
        by_cases e : k = sv_c i t
        · rw [if_pos e, if_pos e]; rfl
        · rw [if_neg e, if_neg e]; exact cs_x R ht _ r k hr
      have hcd : 0 < c * d := Nat.mul_pos hc hd
      refine ⟨nI (n / Nat.gcd n d), nI (d / Nat.gcd n d), fun post fu fl re ma ri h => an_fcN hR hi ht hu htu hit XD XN hcd (by omega) (by omega) (fun re' ma' ri' => ?_), fun post su co rg h => ?_, fun post su co rg h => ?_⟩
      · rw [an_frac hc, an_frac2 hc]; exact h re' ma' ri'
      · unfold wpY_chanceUpper; dsimp only
        refine an_ref hi ht hu htu (br_t rfl (yc_ch hR ht hu (fun co' rg' hs => ?_)))
        dsimp only
        refine yf_up hi hs YD YN hd (by omega) (by omega) ?_
        rw [lN_i]; exact h co' rg'
      · unfold wpY_chanceLower; dsimp only
        refine an_ref hi ht hu htu (br_t rfl (yc_ch hR ht hu (fun co' rg' hs => ?_)))
        dsimp only
        refine yf_low hi hs YD YN hd (by omega) (by omega) ?_
        rw [lN_i]; exact h co' rg'
end
section
/-! ===== times: one answer for both sides ===== -/
theorem an_ftB {post : SX → Prop} {fu fl : Int32} {ra re ma ri : Nat → Int32} {v1 v2 : Int32} (hb : (v1 < 0 ∨ nI 4 ≤ v1) ∨ (v2 < 0 ∨ nI 4 ≤ v2))
    (h : post (-1, -1, ra, re, ma, ri)) : wpX_findTime post (fu, fl, ra, re, ma, ri) v1 v2 := by
  unfold wpX_findTime wpX_forgetFraction
  dsimp only
  rcases cx_st v1 with h1 | ⟨a, ha, rfl⟩
  · exact cx_isNo h1 (br_t rfl h)
  · refine cx_isOk ha (br_f (by decide) ?_)
    have nb : ¬ (nI a < 0 ∨ nI 4 ≤ nI a) := fun z => z.elim (nI_pos (by omega)) (nI_ge ha (by decide))
    exact cx_isNo (hb.resolve_left nb) (br_t rfl h)
theorem an_ftE {post : SX → Prop} {fu fl : Int32} {ra re ma ri : Nat → Int32} {t : Nat} (ht : t < 4)
    (h : post (nI 0, nI 1, ra, re, ma, ri)) : wpX_findTime post (fu, fl, ra, re, ma, ri) (nI t) (nI t) := by
  unfold wpX_findTime wpX_forgetFraction
  dsimp only
  exact cx_isOk ht (br_f (by decide) (cx_isOk ht (br_f (by decide) (br_t rfl (xg_set (n := 0) (d := 1) (by decide) (by decide) (by decide) h)))))
theorem an_ftM {post : SX → Prop} {fu fl : Int32} {R : Nat → Nat} {re ma ri : Nat → Int32} {i t : Nat} (hR : ∀ n, R n ≤ 9) (hi : i < 4) (ht : t < 4) (hit : i ≠ t) (hm : mm_M (rt_R (xr_E R (nI t))) i t)
    (h : ∀ re', post (-1, -1, (fun n => nI (R n)), re', ma, ri)) : wpX_findTime post (fu, fl, (fun n => nI (R n)), re, ma, ri) (nI i) (nI t) := by
  unfold wpX_findTime wpX_forgetFraction
  dsimp only
  refine cx_isOk hi (br_f (by decide) (cx_isOk ht (br_f (by decide) (br_f (fun z => hit ((nI_eq (by omega) (by omega)).mp z)) (xr_find hR (fun re' hre => ?_))))))
  dsimp only
  exact xm_miss hi ht hre (cx_br0 (fun z => absurd hm z) (fun _ => h re'))
theorem an_ftN {post : SX → Prop} {fu fl : Int32} {R : Nat → Nat} {re ma ri : Nat → Int32} {i t n d : Nat} (hR : ∀ n, R n ≤ 9) (hi : i < 4) (ht : t < 4) (hit : i ≠ t) (hm : ¬ mm_M (rt_R (xr_E R (nI t))) i t)
    (hd : dt_3 (xs_M (ti_H R i t) (fm_M R t)) = (d : Int)) (hn : dt_3 (xs_N (sv_c i t) (xs_M (ti_H R i t) (fm_M R t)) (xs_b (ti_H R i t) (fun _ => 1))) = (n : Int)) (h0 : 0 < d) (bd : d < 2 ^ 31) (bn : n < 2 ^ 31)
    (h : ∀ re' ma' ri', post (nI (n / Nat.gcd n d), nI (d / Nat.gcd n d), (fun n => nI (R n)), re', ma', ri')) : wpX_findTime post (fu, fl, (fun n => nI (R n)), re, ma, ri) (nI i) (nI t) := by
  unfold wpX_findTime wpX_forgetFraction
  dsimp only
  refine cx_isOk hi (br_f (by decide) (cx_isOk ht (br_f (by decide) (br_f (fun z => hit ((nI_eq (by omega) (by omega)).mp z)) (xr_find hR (fun re' hre => ?_))))))
  dsimp only
  refine xm_miss hi ht hre (cx_br0 (fun _ => ?_) (fun z => absurd z hm))
  refine xf_fill ht (fun ma' hma => ?_)
  dsimp only
  exact xt_53 hi ht hit hre hma hd hn h0 bd bn (fun m2 r2 => h re' m2 r2)
theorem an_ti0 (R : Nat → Nat) {t : Nat} (ht : t < 4) : dt_4 (yn_N R (yt_H t 0)) = ((1 : Nat) : Int) ∧ dt_4 (ye_E (yn_N R (yt_H t 0)) (yt_g t 0) t) = ((0 : Nat) : Int) := by
  have h1 : yn_N R (yt_H t 0) = fun s r => id_i r s := by
    funext s r
    unfold yn_N
    exact ci_t (.inr (by simp))
  have h2 : yt_g t 0 = fun _ => 0 := by
    funext s
    unfold yt_g
    exact ci_t (.inr (by simp))
  rw [h1, h2]
  rcases (by omega : t = 0 ∨ t = 1 ∨ t = 2 ∨ t = 3) with e | e | e | e <;> subst e <;> exact ⟨by decide, by decide⟩
theorem an_ti {R : Nat → Nat} (hR : ∀ n, R n ≤ 9) (hz : ∀ a, a < 4 → R (4 * a + a) = 0) (v1 v2 : Int32) : ∃ U L : Int32,
    (∀ (post : SX → Prop) (fu fl : Int32) (re ma ri : Nat → Int32), (∀ re' ma' ri', post (U, L, (fun n => nI (R n)), re', ma', ri')) → wpX_findTime post (fu, fl, (fun n => nI (R n)), re, ma, ri) v1 v2) ∧
    (∀ (post : Int64 → SY → Prop) (su co rg : Nat → Int64), (∀ co' rg', post U.toInt64 ((fun n => nI (R n)), su, co', rg')) → wpY_timeUpper post ((fun n => nI (R n)), su, co, rg) v1 v2) ∧
    (∀ (post : Int64 → SY → Prop) (su co rg : Nat → Int64), (∀ co' rg', post L.toInt64 ((fun n => nI (R n)), su, co', rg')) → wpY_timeLower post ((fun n => nI (R n)), su, co, rg) v1 v2) := by
  have m1 : (-1 : Int32).toInt64 = -1 := by decide
  by_cases hb : (v1 < 0 ∨ nI 4 ≤ v1) ∨ (v2 < 0 ∨ nI 4 ≤ v2)
  · have nb : ∀ x, x < 4 → ¬ (nI x < 0 ∨ nI 4 ≤ nI x) := fun x hx z => z.elim (nI_pos (by omega)) (nI_ge hx (by decide))
    refine ⟨-1, -1, fun post fu fl re ma ri h => an_ftB hb (h re ma ri), fun post su co rg h => ?_, fun post su co rg h => ?_⟩
    · unfold wpY_timeUpper; dsimp only
      rw [m1] at h
      rcases cx_st v1 with h1 | ⟨a, ha, rfl⟩
      · exact cy_badNo h1 (br_f (by decide) (h co rg))
      · exact cy_badOk ha (br_t rfl (cy_badNo (hb.resolve_left (nb a ha)) (br_f (by decide) (h co rg))))
    · unfold wpY_timeLower; dsimp only
      rw [m1] at h
      rcases cx_st v1 with h1 | ⟨a, ha, rfl⟩
      · exact cy_badNo h1 (br_f (by decide) (h co rg))
      · exact cy_badOk ha (br_t rfl (cy_badNo (hb.resolve_left (nb a ha)) (br_f (by decide) (h co rg))))
  · obtain ⟨i, hi, rfl⟩ := (cx_st v1).resolve_left (fun z => hb (.inl z))
    obtain ⟨t, ht, rfl⟩ := (cx_st v2).resolve_left (fun z => hb (.inr z))
    by_cases hit : i = t
    · subst hit
      obtain ⟨YD, YN⟩ := an_ti0 R hi
      refine ⟨nI 0, nI 1, fun post fu fl re ma ri h => an_ftE hi (h re ma ri), fun post su co rg h => ?_, fun post su co rg h => ?_⟩
      · unfold wpY_timeUpper; dsimp only
        refine cy_badOk hi (br_t rfl (cy_badOk hi (br_t rfl (ym_eq hR hi (br_t rfl (yt_eq hR hi (fun co' rg' hs => ?_)))))))
        dsimp only
        refine yf_up hi hs YD YN (by decide) (by decide) (by decide) ?_
        exact h co' rg'
      · unfold wpY_timeLower; dsimp only
        refine cy_badOk hi (br_t rfl (cy_badOk hi (br_t rfl (ym_eq hR hi (br_t rfl (yt_eq hR hi (fun co' rg' hs => ?_)))))))
        dsimp only
        refine yf_low hi hs YD YN (by decide) (by decide) (by decide) ?_
        exact h co' rg'
    · by_cases hmm : mm_M (rt_R (xr_E R (nI t))) i t
      · refine ⟨-1, -1, fun post fu fl re ma ri h => an_ftM hR hi ht hit hmm (fun re' => h re' ma ri), fun post su co rg h => ?_, fun post su co rg h => ?_⟩
        · unfold wpY_timeUpper; dsimp only
          rw [m1] at h
          exact cy_badOk hi (br_t rfl (cy_badOk ht (br_t rfl (ym_ne hR hi ht hit (fun m hm hmb => cx_br0 (fun z => absurd ((gr_miss R ht hit hmb).mp hmm) z) (fun _ => h co rg))))))
        · unfold wpY_timeLower; dsimp only
          rw [m1] at h
          exact cy_badOk hi (br_t rfl (cy_badOk ht (br_t rfl (ym_ne hR hi ht hit (fun m hm hmb => cx_br0 (fun z => absurd ((gr_miss R ht hit hmb).mp hmm) z) (fun _ => h co rg))))))
      · have hno : ∀ s, s < 4 → rt_R (xr_E R (nI t)) i s → rt_R (xr_E R (nI t)) s t := fun s hs h => Classical.byContradiction (fun z => hmm ⟨s, hs, h, z⟩)
        obtain ⟨d, hd, x1, hn⟩ := tm_sys (cs_w R t) (cs_t R t) (fun _ => 1) (ti_H R i t) (fun r hr => cs_z hz t r hr) (gr_ti R hi ht hno)
        obtain ⟨n, x2⟩ := hn (sv_c i t) (sv_lt hi ht hit)
        have bx := cs_bm hR t (ti_H R i t)
        have bxn := cs_bn hR t (ti_H R i t) (b := fun _ => 1) (fun r => by decide) (sv_c i t)
        rw [x1] at bx
        rw [x2] at bxn
        have XD : dt_3 (xs_M (ti_H R i t) (fm_M R t)) = (d : Int) := by
          rw [← x1]; exact dt_c3 (fun r k hr _ => cs_x R ht _ r k hr)
        have XN : dt_3 (xs_N (sv_c i t) (xs_M (ti_H R i t) (fm_M R t)) (xs_b (ti_H R i t) (fun _ => 1))) = (n : Int) := by
          rw [← x2]
          apply dt_c3
          intro r k hr _
          unfold xs_N
          by_cases e : k = sv_c i t
          · rw [if_pos e, if_pos e]; rfl
          · rw [if_neg e, if_neg e]; exact cs_x R ht _ r k hr
        have YY : ∀ m, (∀ j, j < 4 → (m.testBit j = true ↔ rt_R (yr_E R i (2 ^ t)) i j)) → dt_4 (yn_N R (yt_H t m)) = (d : Int) ∧ dt_4 (ye_E (yn_N R (yt_H t m)) (yt_g t m) i) = (n : Int) := by
          intro m hmb
          have hK : ∀ r, r < 3 → (yt_H t m (fm_st r t) ↔ ti_H R i t r) := by
            intro r hr
            have e := (hmb _ (fm_st4 (out := t) hr)).trans (gr_Et R ht hit i (fm_st r t))
            unfold yt_H ti_H
            rw [e]
            exact ⟨fun z => z.resolve_left (fm_ne r t), .inr⟩
          have hNt : ∀ r, r < 4 → yn_N R (yt_H t m) t r = id_i r t := fun r _ => by unfold yn_N; exact ci_t (.inl rfl)
          have YM : ∀ r c, r < 3 → c < 3 → yn_N R (yt_H t m) (fm_st r t) (fm_st c t) = cs_M (cs_w R t) (cs_t R t) (ti_H R i t) r c := by
            intro r c hr _
            rw [cs_y R ht _ r c hr]
            exact cs_K (hK r hr) c
          refine ⟨by rw [dt_t t ht _ hNt, ← x1]; exact dt_c3 YM, ?_⟩
          rw [dt_n t i ht hi hit _ _ hNt, ← x2]
          apply dt_c3
          intro r k hr hk
          unfold xs_N
          by_cases e : k = sv_c i t
          · rw [if_pos e, if_pos e]
            dsimp only
            have g2 : yt_g t m t = 0 := by unfold yt_g; exact ci_t (.inl rfl)
            rw [g2, Int.zero_mul, Int.sub_zero]
            unfold yt_g cs_b
            exact ci_c (hK r hr)
          · rw [if_neg e, if_neg e]; exact YM r k hr hk
        have q1 : n / Nat.gcd n d ≤ n := Nat.div_le_self _ _
        have q2 : d / Nat.gcd n d ≤ d := Nat.div_le_self _ _
        refine ⟨nI (n / Nat.gcd n d), nI (d / Nat.gcd n d), fun post fu fl re ma ri h => an_ftN hR hi ht hit hmm XD XN hd (by omega) (by omega) h, fun post su co rg h => ?_, fun post su co rg h => ?_⟩
        · unfold wpY_timeUpper; dsimp only
          rw [nI_l (by omega)] at h
          refine cy_badOk hi (br_t rfl (cy_badOk ht (br_t rfl (ym_ne hR hi ht hit (fun m hm hmb => cx_br0 (fun _ => yt_ne hR hi ht hit (fun m2 hm2 hmb2 co' rg' hs => ?_)) (fun z => absurd ((gr_miss R ht hit hmb).mpr z) hmm))))))
          dsimp only
          obtain ⟨YD, YN⟩ := YY m2 hmb2
          exact yf_up hi hs YD YN hd (by omega) (by omega) (h co' rg')
        · unfold wpY_timeLower; dsimp only
          rw [nI_l (by omega)] at h
          refine cy_badOk hi (br_t rfl (cy_badOk ht (br_t rfl (ym_ne hR hi ht hit (fun m hm hmb => cx_br0 (fun _ => yt_ne hR hi ht hit (fun m2 hm2 hmb2 co' rg' hs => ?_)) (fun z => absurd ((gr_miss R ht hit hmb).mpr z) hmm))))))
          dsimp only
          obtain ⟨YD, YN⟩ := YY m2 hmb2
          exact yf_low hi hs YD YN hd (by omega) (by omega) (h co' rg')
end
section
/-- both sides hold the same rates, 0 to 9, and 0 from a state to itself; all else is scratch -/
def i_Rel (k : Nat) (u : SX) (v : SY) : Prop := ∃ R : Nat → Nat, (∀ n, R n ≤ 9) ∧ (∀ a, a < 4 → R (4 * a + a) = 0) ∧ ∃ (fu fl : Int32) (re ma ri : Nat → Int32) (su co rg : Nat → Int64), u = (fu, fl, (fun n => nI (R n)), re, ma, ri) ∧ v = ((fun n => nI (R n)), su, co, rg)
theorem i_up {k : Nat} {u : SX} {v : SY} (h : i_Rel k u v) : i_Rel (k + 4) u v := h
theorem i_vc0 : wpX_init (fun u => wpY_init (fun v => i_Rel 0 u v)) :=
  ⟨fun _ => 0, fun _ => Nat.zero_le 9, fun _ _ => rfl, 0, 0, _, _, _, _, _, _, rfl, rfl⟩
theorem rl_J {R : Nat → Nat} (hR : ∀ n, R n ≤ 9) (hz : ∀ a, a < 4 → R (4 * a + a) = 0) (k : Nat) (fu fl : Int32) (re ma ri : Nat → Int32) (su co rg : Nat → Int64) : i_Rel k (fu, fl, (fun n => nI (R n)), re, ma, ri) ((fun n => nI (R n)), su, co, rg) :=
  ⟨R, hR, hz, fu, fl, re, ma, ri, su, co, rg, rfl, rfl⟩
theorem rl_u (R : Nat → Nat) (n j : Nat) : upd (fun n => nI (R n)) n (nI j) = fun m => nI (if m = n then j else R m) := by
  funext m
  unfold upd
  split <;> rfl
theorem i_vc_rate {k : Nat} {u : SX} {v : SY} (I : i_Rel k u v) (hk : k + 4 ≤ 2048) (v1 : Int32) (v2 : Int32) (v3 : Int32) : wpX_rate (fun r u' => wpY_rate (fun r' v' => r' = r ∧ i_Rel (k + 4) u' v') v v1 v2 v3) u v1 v2 v3 := by
  obtain ⟨R, hR, hz, fu, fl, re, ma, ri, su, co, rg, rfl, rfl⟩ := I
  have J := rl_J hR hz (k + 4) fu fl re ma ri su co rg
  unfold wpX_rate
  dsimp only
  rcases cx_st v1 with h1 | ⟨a, ha, rfl⟩
  · refine cx_isNo h1 (br_t rfl ?_)
    unfold wpY_rate; dsimp only
    exact cy_badNo h1 (br_f (by decide) ⟨rfl, J⟩)
  · refine cx_isOk ha (br_f (by decide) ?_)
    rcases cx_st v2 with h2 | ⟨b, hb, rfl⟩
    · refine cx_isNo h2 (br_t rfl ?_)
      unfold wpY_rate; dsimp only
      exact cy_badOk ha (br_t rfl (cy_badNo h2 (br_f (by decide) ⟨rfl, J⟩)))
    · refine cx_isOk hb (br_f (by decide) ?_)
      by_cases hab : nI a = nI b
      · refine br_t hab ?_
        unfold wpY_rate; dsimp only
        exact cy_badOk ha (br_t rfl (cy_badOk hb (br_t rfl (br_t hab ⟨rfl, J⟩))))
      · refine br_f hab ?_
        by_cases h0 : v3 < 0
        · refine br_t h0 ?_
          unfold wpY_rate; dsimp only
          exact cy_badOk ha (br_t rfl (cy_badOk hb (br_t rfl (br_f hab (br_t h0 ⟨rfl, J⟩)))))
        · refine br_f h0 ?_
          by_cases h9 : v3 ≤ 9
          · have hin : vp_in (nI (4 * a + b)) 16 := vp_in_nI (by omega) (by decide)
            refine br_t h9 ?_
            rw [bs_ix, nI_clamp (by omega)]
            refine ⟨hin, nm_e ⟨hin, nm_e ?_⟩⟩
            unfold wpY_rate; dsimp only
            refine cy_badOk ha (br_t rfl (cy_badOk hb (br_t rfl (br_f hab (br_f h0 (br_t h9 ?_))))))
            rw [bs_iy, nI_clamp (by omega)]
            refine ⟨hin, nm_e ⟨hin, nm_e ⟨rfl, ?_⟩⟩⟩
            obtain ⟨j, hj, rfl⟩ := nI_of2 (M := 9) (n := 9) (by decide) h0 h9
            rw [rl_u]
            have hne : a ≠ b := fun e => hab (by rw [e])
            refine rl_J (fun n => ?_) (fun c hc => ?_) _ _ _ _ _ _ _ _ _
            · split
              · exact hj
              · exact hR n
            · rw [if_neg (by omega)]; exact hz c hc
          · refine br_f h9 ?_
            unfold wpY_rate; dsimp only
            exact cy_badOk ha (br_t rfl (cy_badOk hb (br_t rfl (br_f hab (br_f h0 (br_f h9 ⟨rfl, J⟩))))))
theorem i_vc_closed {k : Nat} {u : SX} {v : SY} (I : i_Rel k u v) (hk : k + 4 ≤ 2048) (v1 : Int32) : wpX_closed (fun r u' => wpY_closed (fun r' => r' = r ∧ i_Rel (k + 4) u' v) v v1) u v1 := by
  obtain ⟨R, hR, hz, fu, fl, re, ma, ri, su, co, rg, rfl, rfl⟩ := I
  unfold wpX_closed
  dsimp only
  rcases cx_st v1 with h1 | ⟨a, ha, rfl⟩
  · refine cx_isNo h1 (br_t rfl ?_)
    unfold wpY_closed; dsimp only
    exact cy_badNo h1 (br_f (by decide) ⟨rfl, rl_J hR hz _ _ _ _ _ _ _ _ _⟩)
  · refine cx_isOk ha (br_f (by decide) (xr_find hR (fun re' hre => ?_)))
    dsimp only
    refine cx_isC hre ha (cx_br0 (fun q => ?_) (fun q => ?_))
    · unfold wpY_closed; dsimp only
      exact cy_badOk ha (br_t rfl (cy_isC hR ha (cx_br0 (fun _ => ⟨rfl, rl_J hR hz _ _ _ _ _ _ _ _ _⟩) (fun z => absurd z q))))
    · unfold wpY_closed; dsimp only
      exact cy_badOk ha (br_t rfl (cy_isC hR ha (cx_br0 (fun z => absurd q z) (fun _ => ⟨rfl, rl_J hR hz _ _ _ _ _ _ _ _ _⟩))))
theorem i_vc_unique {k : Nat} {u : SX} {v : SY} (I : i_Rel k u v) (hk : k + 4 ≤ 2048) : wpX_unique (fun r u' => wpY_unique (fun r' => r' = r ∧ i_Rel (k + 4) u' v) v) u := by
  obtain ⟨R, hR, hz, fu, fl, re, ma, ri, su, co, rg, rfl, rfl⟩ := I
  unfold wpX_unique
  dsimp only
  refine cx_one hR (fun re' => ?_)
  dsimp only
  refine cx_br0 (fun q => cy_un hR ?_) (fun q => cy_un hR ?_)
  · exact ⟨cx_f q, rl_J hR hz _ _ _ _ _ _ _ _ _⟩
  · exact ⟨cx_t q, rl_J hR hz _ _ _ _ _ _ _ _ _⟩
theorem i_vc_law {k : Nat} {u : SX} {v : SY} (I : i_Rel k u v) (hk : k + 4 ≤ 2048) (v1 : Int32) : wpX_law (fun r u' => wpY_law (fun r' v' => r' = r ∧ i_Rel (k + 4) u' v') v v1) u v1 := by
  obtain ⟨R, hR, hz, fu, fl, re, ma, ri, su, co, rg, rfl, rfl⟩ := I
  unfold wpX_law
  dsimp only
  rcases cx_st v1 with h1 | ⟨a, ha, rfl⟩
  · refine cx_isNo h1 (br_t rfl ?_)
    unfold wpY_law; dsimp only
    exact cy_badNo h1 (br_f (by decide) ⟨rfl, rl_J hR hz _ _ _ _ _ _ _ _ _⟩)
  · refine cx_isOk ha (br_f (by decide) (cx_one hR (fun re' => ?_)))
    dsimp only
    refine cx_br0 (fun q => ?_) (fun q => xl_23 hR hz ha (fun ma' => ?_))
    · unfold wpY_law; dsimp only
      exact cy_badOk ha (br_t rfl (cy_un hR (cx_br0 (fun _ => ⟨rfl, rl_J hR hz _ _ _ _ _ _ _ _ _⟩) (fun z => absurd z q))))
    · unfold wpY_law; dsimp only
      refine cy_badOk ha (br_t rfl (cy_un hR (cx_br0 (fun z => absurd q z) (fun _ => yu_add hR (fun su' hs => ?_)))))
      dsimp only
      have hw : ∀ k, wl_w R k < 2 ^ 31 := by
        intro k
        unfold wl_w
        split
        · rename_i hk; exact au_lt hR hz hk
        · decide
      refine yl_25 (w := wl_w R) ha hw (fun r hr => ?_) ⟨rfl, rl_J hR hz _ _ _ _ _ _ _ _ _⟩
      rw [hs r hr]
      unfold wl_w
      rw [if_pos hr]
theorem i_vc_chanceUpper {k : Nat} {u : SX} {v : SY} (I : i_Rel k u v) (hk : k + 4 ≤ 2048) (v1 : Int32) (v2 : Int32) (v3 : Int32) : wpX_chanceUpper (fun r u' => wpY_chanceUpper (fun r' v' => r' = r ∧ i_Rel (k + 4) u' v') v v1 v2 v3) u v1 v2 v3 := by
  obtain ⟨R, hR, hz, fu, fl, re, ma, ri, su, co, rg, rfl, rfl⟩ := I
  obtain ⟨U, L, hX, hU, hL⟩ := an_ch hR hz v1 v2 v3
  unfold wpX_chanceUpper
  dsimp only
  exact hX _ _ _ _ _ _ (fun re' ma' ri' => hU _ _ _ _ (fun co' rg' => ⟨rfl, rl_J hR hz _ _ _ _ _ _ _ _ _⟩))
theorem i_vc_chanceLower {k : Nat} {u : SX} {v : SY} (I : i_Rel k u v) (hk : k + 4 ≤ 2048) (v1 : Int32) (v2 : Int32) (v3 : Int32) : wpX_chanceLower (fun r u' => wpY_chanceLower (fun r' v' => r' = r ∧ i_Rel (k + 4) u' v') v v1 v2 v3) u v1 v2 v3 := by
  obtain ⟨R, hR, hz, fu, fl, re, ma, ri, su, co, rg, rfl, rfl⟩ := I
  obtain ⟨U, L, hX, hU, hL⟩ := an_ch hR hz v1 v2 v3
  unfold wpX_chanceLower
  dsimp only
  exact hX _ _ _ _ _ _ (fun re' ma' ri' => hL _ _ _ _ (fun co' rg' => ⟨rfl, rl_J hR hz _ _ _ _ _ _ _ _ _⟩))
theorem i_vc_timeUpper {k : Nat} {u : SX} {v : SY} (I : i_Rel k u v) (hk : k + 4 ≤ 2048) (v1 : Int32) (v2 : Int32) : wpX_timeUpper (fun r u' => wpY_timeUpper (fun r' v' => r' = r ∧ i_Rel (k + 4) u' v') v v1 v2) u v1 v2 := by
  obtain ⟨R, hR, hz, fu, fl, re, ma, ri, su, co, rg, rfl, rfl⟩ := I
  obtain ⟨U, L, hX, hU, hL⟩ := an_ti hR hz v1 v2
  unfold wpX_timeUpper
  dsimp only
  exact hX _ _ _ _ _ _ (fun re' ma' ri' => hU _ _ _ _ (fun co' rg' => ⟨rfl, rl_J hR hz _ _ _ _ _ _ _ _ _⟩))
theorem i_vc_timeLower {k : Nat} {u : SX} {v : SY} (I : i_Rel k u v) (hk : k + 4 ≤ 2048) (v1 : Int32) (v2 : Int32) : wpX_timeLower (fun r u' => wpY_timeLower (fun r' v' => r' = r ∧ i_Rel (k + 4) u' v') v v1 v2) u v1 v2 := by
  obtain ⟨R, hR, hz, fu, fl, re, ma, ri, su, co, rg, rfl, rfl⟩ := I
  obtain ⟨U, L, hX, hU, hL⟩ := an_ti hR hz v1 v2
  unfold wpX_timeLower
  dsimp only
  exact hX _ _ _ _ _ _ (fun re' ma' ri' => hL _ _ _ _ (fun co' rg' => ⟨rfl, rl_J hR hz _ _ _ _ _ _ _ _ _⟩))
end
