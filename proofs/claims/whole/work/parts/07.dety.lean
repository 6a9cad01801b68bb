/-! ===== Y: determinant, fraction ===== -/
def dg_d (p r : Nat) : Nat := p / 4 ^ r % 4
theorem dg_lt (p r : Nat) : dg_d p r < 4 := Nat.mod_lt _ (by decide)
theorem dg_e : ∀ p, p < 256 → ∀ r, r < 4 → (nI p >>> ((2 * nI r) &&& 31)) &&& 3 = nI (dg_d p r) := by decide +kernel
def dy_fp (seen c : Nat) : Nat → Int
  | 0 => 1
  | k + 1 => dy_fp seen c k * (if seen.testBit (c + 1 + k) then -1 else 1)
def dy_fl (seen c : Nat) : Int := dy_fp seen c (3 - c)
def dy_seen (p : Nat) : Nat → Nat
  | 0 => 0
  | r + 1 => dy_seen p r ||| 2 ^ (dg_d p r)
def dy_sg (p : Nat) : Nat → Int
  | 0 => 1
  | r + 1 => dy_sg p r * dy_fl (dy_seen p r) (dg_d p r)
def dy_pr (E : Nat → Nat → Int) (p : Nat) : Nat → Int
  | 0 => 1
  | r + 1 => dy_pr E p r * E r (dg_d p r)
def dy_T (E : Nat → Nat → Int) (p : Nat) : Int := if dy_seen p 4 = 15 then dy_sg p 4 * dy_pr E p 4 else 0
def dy_S (E : Nat → Nat → Int) : Nat → Int
  | 0 => 0
  | p + 1 => dy_S E p + dy_T E p
theorem dy_seen16 (p : Nat) : ∀ r, dy_seen p r < 16
  | 0 => (by decide : 0 < 16)
  | r + 1 => bs_or16 _ (dy_seen16 p r) _ (dg_lt p r)
def dy_E (E : Nat → Nat → Int) (co rg : Nat → Int64) (x : Int32) : Prop := ∀ r c, r < 4 → c < 4 → (nI c = x → rg r = Int64.ofInt (E r c)) ∧ (¬ nI c = x → co (4 * r + c) = Int64.ofInt (E r c))
theorem yd_ent {post : Int64 → Prop} {ra : Nat → Int32} {su co rg : Nat → Int64} {x : Int32} {E : Nat → Nat → Int} {r c : Nat} (hE : dy_E E co rg x) (hr : r < 4) (hc : c < 4) (h : post (Int64.ofInt (E r c))) :
    wpY_entry post (ra, su, co, rg) (nI r) (nI c) x := by
  unfold wpY_entry
  dsimp only
  rw [bs_iy, nI_clamp (by omega), nI_clamp (by omega)]
  refine br_c (fun e => ⟨vp_in_nI hr (by decide), ?_⟩) (fun e => ⟨vp_in_nI (by omega) (by decide), ?_⟩)
  · rw [(hE r c hr hc).1 e]; exact h
  · rw [(hE r c hr hc).2 e]; exact h
theorem yd_45 {post : Int64 → Prop} {J5 : Int64 → Int32 → Prop} {J22 : Int32 → Int64 → Int32 → Prop} {x1 x4 : Int32} {x2 : Int64} {ra : Nat → Int32} {su co rg : Nat → Int64} {E : Nat → Nat → Int} {seen r c : Nat} {z0 : Int}
    (hE : dy_E E co rg x1) (hs : seen < 16) (hr : r < 4) (hc : c < 4) (h : J22 (nI (seen ||| 2 ^ c)) (Int64.ofInt (z0 * dy_fl seen c * E r c)) (nI (r + 1))) :
    ∃ n, wY_determinant_45 post J5 J22 x1 x2 x4 (nI seen) (nI r) (nI c) ra su co rg n (Int64.ofInt z0) (nI (c + 1)) := by
  refine pk_loop (fun n b z => wY_determinant_45 post J5 J22 x1 x2 x4 (nI seen) (nI r) (nI c) ra su co rg n (Int64.ofInt z) (nI b)) (fun b z => c + 1 ≤ b ∧ z = z0 * dy_fp seen c (b - (c + 1))) 4 (c + 1) z0 (by omega) ⟨Nat.le_refl _, ?_⟩ ?_ ?_
  · rw [Nat.sub_self]; show z0 = z0 * 1; rw [Int.mul_one]
  · intro n z hz
    refine br_t bs_le4 (nm_r (bs_or seen hs c hc) (yd_ent hE hr hc (nm_r ?_ (nm_r (nI_1 r) h))))
    rw [hz.2, Int64.ofInt_mul (z0 * dy_fl seen c)]
    unfold dy_fl
    rw [show 4 - (c + 1) = 3 - c by omega]
  · intro n b z hb hz ih
    have e : b + 1 - (c + 1) = (b - (c + 1)) + 1 := by omega
    have e2 : c + 1 + (b - (c + 1)) = b := by omega
    refine br_f (bs_ge4 hb) (bs_br1 hs hb (fun q => ?_) (fun q => ?_))
    · rw [← Int64.ofInt_neg]
      refine nm_e (nm_r (nI_1 b) (ih _ ⟨by omega, ?_⟩))
      rw [e]; show _ = z0 * (dy_fp seen c (b - (c + 1)) * _)
      rw [e2, if_pos q, hz.2]; grind
    · refine nm_r (nI_1 b) (ih _ ⟨by omega, ?_⟩)
      rw [e]; show _ = z0 * (dy_fp seen c (b - (c + 1)) * _)
      rw [e2, if_neg q, hz.2]; grind
theorem yd_22 {post : Int64 → Prop} {J5 : Int64 → Int32 → Prop} {x1 : Int32} {ra : Nat → Int32} {su co rg : Nat → Int64} {E : Nat → Nat → Int} {p : Nat} {s : Int} (hp : p < 256)
    (hE : dy_E E co rg x1) (h : J5 (Int64.ofInt (s + dy_T E p)) (nI (p + 1))) :
    ∃ n, wY_determinant_22 post J5 x1 (Int64.ofInt s) (nI p) ra su co rg n 0 1 0 := by
  refine loop_0 (fun n r (q : Nat × Int) => wY_determinant_22 post J5 x1 (Int64.ofInt s) (nI p) ra su co rg n (nI q.1) (Int64.ofInt q.2) (nI r)) (fun r q => q.1 = dy_seen p r ∧ q.2 = dy_sg p r * dy_pr E p r) 4 (0, 1) ⟨rfl, rfl⟩ ?_ ?_
  · intro n q hq
    refine br_t bs_le4 ?_
    rw [hq.1, hq.2]
    have := dy_seen16 p 4
    unfold dy_T at h
    refine pk_eq (dy_seen p 4) 15 (fun e => ?_) (fun e => ?_)
    · rw [if_pos e] at h
      rw [← Int64.ofInt_add]
      exact nm_e (nm_r (nI_1 p) h)
    · rw [if_neg e, Int.add_zero] at h
      exact nm_r (nI_1 p) h
  · intro n r q hr hq ih
    have hs := dy_seen16 p r
    have hc := dg_lt p r
    refine br_f (bs_ge4 hr) (nm_r (dg_e p hp r hr) (nm_r (nI_1 _) ?_))
    rw [hq.1, hq.2]
    refine yd_45 hE hs hr hc (ih (_, _) ⟨rfl, ?_⟩)
    show _ = dy_sg p r * dy_fl (dy_seen p r) (dg_d p r) * (dy_pr E p r * E r (dg_d p r))
    grind
theorem yd_det {post : Int64 → Prop} {x1 : Int32} {ra : Nat → Int32} {su co rg : Nat → Int64} {E : Nat → Nat → Int}
    (hE : dy_E E co rg x1) (h : post (Int64.ofInt (dy_S E 256))) : wpY_determinant post (ra, su, co, rg) x1 := by
  refine loop_0 (fun n p (s : Int) => wY_determinant_5 post x1 ra su co rg n (Int64.ofInt s) (nI p)) (fun p s => s = dy_S E p) 256 0 rfl ?_ ?_
  · intro n s hs
    subst hs
    exact br_t bs_le256 h
  · intro n p s hp hs ih
    subst hs
    exact br_f (bs_ge256 hp) (yd_22 hp hE (ih _ rfl))
/-! the sum is the determinant -/
def dt_4 (E : Nat → Nat → Int) : Int :=
  E 0 0 * (E 1 1 * (E 2 2 * E 3 3 - E 2 3 * E 3 2) - E 1 2 * (E 2 1 * E 3 3 - E 2 3 * E 3 1) + E 1 3 * (E 2 1 * E 3 2 - E 2 2 * E 3 1))
  - E 0 1 * (E 1 0 * (E 2 2 * E 3 3 - E 2 3 * E 3 2) - E 1 2 * (E 2 0 * E 3 3 - E 2 3 * E 3 0) + E 1 3 * (E 2 0 * E 3 2 - E 2 2 * E 3 0))
  + E 0 2 * (E 1 0 * (E 2 1 * E 3 3 - E 2 3 * E 3 1) - E 1 1 * (E 2 0 * E 3 3 - E 2 3 * E 3 0) + E 1 3 * (E 2 0 * E 3 1 - E 2 1 * E 3 0))
  - E 0 3 * (E 1 0 * (E 2 1 * E 3 2 - E 2 2 * E 3 1) - E 1 1 * (E 2 0 * E 3 2 - E 2 2 * E 3 0) + E 1 2 * (E 2 0 * E 3 1 - E 2 1 * E 3 0))
def dy_L (E : Nat → Nat → Int) : List Nat → Int
  | [] => 0
  | p :: l => dy_sg p 4 * dy_pr E p 4 + dy_L E l
def dy_F : Nat → List Nat → List Nat
  | 0, l => l
  | p + 1, l => dy_F p (if dy_seen p 4 = 15 then p :: l else l)
theorem dy_SF (E : Nat → Nat → Int) : ∀ n l, dy_S E n + dy_L E l = dy_L E (dy_F n l)
  | 0, l => by show 0 + dy_L E l = dy_L E l; rw [Int.zero_add]
  | n + 1, l => by
    show dy_S E n + dy_T E n + dy_L E l = dy_L E (dy_F n (if dy_seen n 4 = 15 then n :: l else l))
    rw [← dy_SF E n]
    unfold dy_T
    split
    · show _ = dy_S E n + (dy_sg n 4 * dy_pr E n 4 + dy_L E l); grind
    · grind
theorem dy_Fl : dy_F 256 [] = [27, 30, 39, 45, 54, 57, 75, 78, 99, 108, 114, 120, 135, 141, 147, 156, 177, 180, 198, 201, 210, 216, 225, 228] := by decide +kernel
theorem dy_p27 (E : Nat → Nat → Int) : dy_sg 27 4 * dy_pr E 27 4 = (E 0 3 * E 1 2 * E 2 1 * E 3 0) := by
  have h : dy_sg 27 4 = 1 := by decide +kernel
  have g : dy_pr E 27 4 = 1 * E 0 3 * E 1 2 * E 2 1 * E 3 0 := rfl
  rw [h, g]; grind
theorem dy_p30 (E : Nat → Nat → Int) : dy_sg 30 4 * dy_pr E 30 4 = -(E 0 2 * E 1 3 * E 2 1 * E 3 0) := by
  have h : dy_sg 30 4 = -1 := by decide +kernel
  have g : dy_pr E 30 4 = 1 * E 0 2 * E 1 3 * E 2 1 * E 3 0 := rfl
  rw [h, g]; grind
theorem dy_p39 (E : Nat → Nat → Int) : dy_sg 39 4 * dy_pr E 39 4 = -(E 0 3 * E 1 1 * E 2 2 * E 3 0) := by
  have h : dy_sg 39 4 = -1 := by decide +kernel
  have g : dy_pr E 39 4 = 1 * E 0 3 * E 1 1 * E 2 2 * E 3 0 := rfl
  rw [h, g]; grind
theorem dy_p45 (E : Nat → Nat → Int) : dy_sg 45 4 * dy_pr E 45 4 = (E 0 1 * E 1 3 * E 2 2 * E 3 0) := by
  have h : dy_sg 45 4 = 1 := by decide +kernel
  have g : dy_pr E 45 4 = 1 * E 0 1 * E 1 3 * E 2 2 * E 3 0 := rfl
  rw [h, g]; grind
theorem dy_p54 (E : Nat → Nat → Int) : dy_sg 54 4 * dy_pr E 54 4 = (E 0 2 * E 1 1 * E 2 3 * E 3 0) := by
  have h : dy_sg 54 4 = 1 := by decide +kernel
  have g : dy_pr E 54 4 = 1 * E 0 2 * E 1 1 * E 2 3 * E 3 0 := rfl
  rw [h, g]; grind
theorem dy_p57 (E : Nat → Nat → Int) : dy_sg 57 4 * dy_pr E 57 4 = -(E 0 1 * E 1 2 * E 2 3 * E 3 0) := by
  have h : dy_sg 57 4 = -1 := by decide +kernel
  have g : dy_pr E 57 4 = 1 * E 0 1 * E 1 2 * E 2 3 * E 3 0 := rfl
  rw [h, g]; grind
theorem dy_p75 (E : Nat → Nat → Int) : dy_sg 75 4 * dy_pr E 75 4 = -(E 0 3 * E 1 2 * E 2 0 * E 3 1) := by
  have h : dy_sg 75 4 = -1 := by decide +kernel
  have g : dy_pr E 75 4 = 1 * E 0 3 * E 1 2 * E 2 0 * E 3 1 := rfl
  rw [h, g]; grind
theorem dy_p78 (E : Nat → Nat → Int) : dy_sg 78 4 * dy_pr E 78 4 = (E 0 2 * E 1 3 * E 2 0 * E 3 1) := by
  have h : dy_sg 78 4 = 1 := by decide +kernel
  have g : dy_pr E 78 4 = 1 * E 0 2 * E 1 3 * E 2 0 * E 3 1 := rfl
  rw [h, g]; grind
theorem dy_p99 (E : Nat → Nat → Int) : dy_sg 99 4 * dy_pr E 99 4 = (E 0 3 * E 1 0 * E 2 2 * E 3 1) := by
  have h : dy_sg 99 4 = 1 := by decide +kernel
  have g : dy_pr E 99 4 = 1 * E 0 3 * E 1 0 * E 2 2 * E 3 1 := rfl
  rw [h, g]; grind
theorem dy_p108 (E : Nat → Nat → Int) : dy_sg 108 4 * dy_pr E 108 4 = -(E 0 0 * E 1 3 * E 2 2 * E 3 1) := by
  have h : dy_sg 108 4 = -1 := by decide +kernel
  have g : dy_pr E 108 4 = 1 * E 0 0 * E 1 3 * E 2 2 * E 3 1 := rfl
  rw [h, g]; grind
theorem dy_p114 (E : Nat → Nat → Int) : dy_sg 114 4 * dy_pr E 114 4 = -(E 0 2 * E 1 0 * E 2 3 * E 3 1) := by
  have h : dy_sg 114 4 = -1 := by decide +kernel
  have g : dy_pr E 114 4 = 1 * E 0 2 * E 1 0 * E 2 3 * E 3 1 := rfl
  rw [h, g]; grind
theorem dy_p120 (E : Nat → Nat → Int) : dy_sg 120 4 * dy_pr E 120 4 = (E 0 0 * E 1 2 * E 2 3 * E 3 1) := by
  have h : dy_sg 120 4 = 1 := by decide +kernel
  have g : dy_pr E 120 4 = 1 * E 0 0 * E 1 2 * E 2 3 * E 3 1 := rfl
  rw [h, g]; grind
theorem dy_p135 (E : Nat → Nat → Int) : dy_sg 135 4 * dy_pr E 135 4 = (E 0 3 * E 1 1 * E 2 0 * E 3 2) := by
  have h : dy_sg 135 4 = 1 := by decide +kernel
  have g : dy_pr E 135 4 = 1 * E 0 3 * E 1 1 * E 2 0 * E 3 2 := rfl
  rw [h, g]; grind
theorem dy_p141 (E : Nat → Nat → Int) : dy_sg 141 4 * dy_pr E 141 4 = -(E 0 1 * E 1 3 * E 2 0 * E 3 2) := by
  have h : dy_sg 141 4 = -1 := by decide +kernel
  have g : dy_pr E 141 4 = 1 * E 0 1 * E 1 3 * E 2 0 * E 3 2 := rfl
  rw [h, g]; grind
theorem dy_p147 (E : Nat → Nat → Int) : dy_sg 147 4 * dy_pr E 147 4 = -(E 0 3 * E 1 0 * E 2 1 * E 3 2) := by
  have h : dy_sg 147 4 = -1 := by decide +kernel
  have g : dy_pr E 147 4 = 1 * E 0 3 * E 1 0 * E 2 1 * E 3 2 := rfl
  rw [h, g]; grind
theorem dy_p156 (E : Nat → Nat → Int) : dy_sg 156 4 * dy_pr E 156 4 = (E 0 0 * E 1 3 * E 2 1 * E 3 2) := by
  have h : dy_sg 156 4 = 1 := by decide +kernel
  have g : dy_pr E 156 4 = 1 * E 0 0 * E 1 3 * E 2 1 * E 3 2 := rfl
  rw [h, g]; grind
theorem dy_p177 (E : Nat → Nat → Int) : dy_sg 177 4 * dy_pr E 177 4 = (E 0 1 * E 1 0 * E 2 3 * E 3 2) := by
  have h : dy_sg 177 4 = 1 := by decide +kernel
  have g : dy_pr E 177 4 = 1 * E 0 1 * E 1 0 * E 2 3 * E 3 2 := rfl
  rw [h, g]; grind
theorem dy_p180 (E : Nat → Nat → Int) : dy_sg 180 4 * dy_pr E 180 4 = -(E 0 0 * E 1 1 * E 2 3 * E 3 2) := by
  have h : dy_sg 180 4 = -1 := by decide +kernel
  have g : dy_pr E 180 4 = 1 * E 0 0 * E 1 1 * E 2 3 * E 3 2 := rfl
  rw [h, g]; grind
theorem dy_p198 (E : Nat → Nat → Int) : dy_sg 198 4 * dy_pr E 198 4 = -(E 0 2 * E 1 1 * E 2 0 * E 3 3) := by
  have h : dy_sg 198 4 = -1 := by decide +kernel
  have g : dy_pr E 198 4 = 1 * E 0 2 * E 1 1 * E 2 0 * E 3 3 := rfl
  rw [h, g]; grind
theorem dy_p201 (E : Nat → Nat → Int) : dy_sg 201 4 * dy_pr E 201 4 = (E 0 1 * E 1 2 * E 2 0 * E 3 3) := by
  have h : dy_sg 201 4 = 1 := by decide +kernel
  have g : dy_pr E 201 4 = 1 * E 0 1 * E 1 2 * E 2 0 * E 3 3 := rfl
  rw [h, g]; grind
theorem dy_p210 (E : Nat → Nat → Int) : dy_sg 210 4 * dy_pr E 210 4 = (E 0 2 * E 1 0 * E 2 1 * E 3 3) := by
  have h : dy_sg 210 4 = 1 := by decide +kernel
  have g : dy_pr E 210 4 = 1 * E 0 2 * E 1 0 * E 2 1 * E 3 3 := rfl
  rw [h, g]; grind
theorem dy_p216 (E : Nat → Nat → Int) : dy_sg 216 4 * dy_pr E 216 4 = -(E 0 0 * E 1 2 * E 2 1 * E 3 3) := by
  have h : dy_sg 216 4 = -1 := by decide +kernel
  have g : dy_pr E 216 4 = 1 * E 0 0 * E 1 2 * E 2 1 * E 3 3 := rfl
  rw [h, g]; grind
theorem dy_p225 (E : Nat → Nat → Int) : dy_sg 225 4 * dy_pr E 225 4 = -(E 0 1 * E 1 0 * E 2 2 * E 3 3) := by
  have h : dy_sg 225 4 = -1 := by decide +kernel
  have g : dy_pr E 225 4 = 1 * E 0 1 * E 1 0 * E 2 2 * E 3 3 := rfl
  rw [h, g]; grind
theorem dy_p228 (E : Nat → Nat → Int) : dy_sg 228 4 * dy_pr E 228 4 = (E 0 0 * E 1 1 * E 2 2 * E 3 3) := by
  have h : dy_sg 228 4 = 1 := by decide +kernel
  have g : dy_pr E 228 4 = 1 * E 0 0 * E 1 1 * E 2 2 * E 3 3 := rfl
  rw [h, g]; grind
theorem dy_det (E : Nat → Nat → Int) : dy_S E 256 = dt_4 E := by
  have h := dy_SF E 256 []
  rw [dy_Fl] at h
  simp only [dy_L, dy_p27, dy_p30, dy_p39, dy_p45, dy_p54, dy_p57, dy_p75, dy_p78, dy_p99, dy_p108, dy_p114, dy_p120, dy_p135, dy_p141, dy_p147, dy_p156, dy_p177, dy_p180, dy_p198, dy_p201, dy_p210, dy_p216, dy_p225, dy_p228] at h
  unfold dt_4
  grind
