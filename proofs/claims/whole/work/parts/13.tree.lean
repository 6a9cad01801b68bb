/-! ===== trees and determinants ===== -/
def tr_k (root p : Nat) : Nat → Nat → Bool
  | 0, _ => true
  | m + 1, i => if i = root then tr_k root p m (i + 1) else if tr_w root p 4 i = root then tr_k root p m (i + 1) else false
theorem tr_kf (R : Nat → Nat) (root p : Nat) : ∀ m i x, tr_k root p m i = false → tr_V R root p m i x = 0
  | 0, _, _, h => absurd (show true = false from h) (by decide)
  | m + 1, i, x, h => by
    unfold tr_k at h
    unfold tr_V
    by_cases e : i = root
    · rw [if_pos e] at h ⊢; exact tr_kf R root p m _ _ h
    · rw [if_neg e] at h ⊢
      by_cases e2 : tr_w root p 4 i = root
      · rw [if_pos e2] at h ⊢; exact tr_kf R root p m _ _ h
      · rw [if_neg e2]
def au_b (root p : Nat) : Bool := Nat.beq (dg_d p root) 0 && tr_k root p 4 0
def au_F (root : Nat) : Nat → List Nat → List Nat
  | 0, l => l
  | p + 1, l => au_F root p (if au_b root p = true then p :: l else l)
def au_L (R : Nat → Nat) (root : Nat) : List Nat → Nat
  | [] => 0
  | p :: l => tr_V R root p 4 0 1 + au_L R root l
theorem au_SF (R : Nat → Nat) (root : Nat) : ∀ n l, au_S R root n + au_L R root l = au_L R root (au_F root n l)
  | 0, l => by show 0 + au_L R root l = au_L R root l; omega
  | n + 1, l => by
    show au_S R root n + (if dg_d n root = 0 then tr_V R root n 4 0 1 else 0) + au_L R root l = au_L R root (au_F root n (if au_b root n = true then n :: l else l))
    rw [← au_SF R root n]
    by_cases e : dg_d n root = 0
    · rw [if_pos e]
      cases k : tr_k root n 4 0 with
      | false =>
        have b : ¬ au_b root n = true := by unfold au_b; rw [k, Bool.and_false]; decide
        rw [if_neg b, tr_kf R root n 4 0 1 k]; omega
      | true =>
        have b : au_b root n = true := by unfold au_b; rw [k, e]; rfl
        rw [if_pos b]
        show _ = au_S R root n + (tr_V R root n 4 0 1 + au_L R root l)
        omega
    · rw [if_neg e]
      have b : ¬ au_b root n = true := by
        unfold au_b
        rw [Bool.and_eq_true]
        exact fun z => e (Nat.eq_of_beq_eq_true z.1)
      rw [if_neg b]; omega
theorem au_F0 : au_F 0 256 [] = [0, 8, 12, 16, 28, 48, 56, 60, 64, 72, 80, 112, 128, 136, 140, 144] := by decide +kernel
theorem au_0p0 (R : Nat → Nat) : tr_V R 0 0 4 0 1 = 1 * R 4 * R 8 * R 12 := rfl
theorem au_0p8 (R : Nat → Nat) : tr_V R 0 8 4 0 1 = 1 * R 6 * R 8 * R 12 := rfl
theorem au_0p12 (R : Nat → Nat) : tr_V R 0 12 4 0 1 = 1 * R 7 * R 8 * R 12 := rfl
theorem au_0p16 (R : Nat → Nat) : tr_V R 0 16 4 0 1 = 1 * R 4 * R 9 * R 12 := rfl
theorem au_0p28 (R : Nat → Nat) : tr_V R 0 28 4 0 1 = 1 * R 7 * R 9 * R 12 := rfl
theorem au_0p48 (R : Nat → Nat) : tr_V R 0 48 4 0 1 = 1 * R 4 * R 11 * R 12 := rfl
theorem au_0p56 (R : Nat → Nat) : tr_V R 0 56 4 0 1 = 1 * R 6 * R 11 * R 12 := rfl
theorem au_0p60 (R : Nat → Nat) : tr_V R 0 60 4 0 1 = 1 * R 7 * R 11 * R 12 := rfl
theorem au_0p64 (R : Nat → Nat) : tr_V R 0 64 4 0 1 = 1 * R 4 * R 8 * R 13 := rfl
theorem au_0p72 (R : Nat → Nat) : tr_V R 0 72 4 0 1 = 1 * R 6 * R 8 * R 13 := rfl
theorem au_0p80 (R : Nat → Nat) : tr_V R 0 80 4 0 1 = 1 * R 4 * R 9 * R 13 := rfl
theorem au_0p112 (R : Nat → Nat) : tr_V R 0 112 4 0 1 = 1 * R 4 * R 11 * R 13 := rfl
theorem au_0p128 (R : Nat → Nat) : tr_V R 0 128 4 0 1 = 1 * R 4 * R 8 * R 14 := rfl
theorem au_0p136 (R : Nat → Nat) : tr_V R 0 136 4 0 1 = 1 * R 6 * R 8 * R 14 := rfl
theorem au_0p140 (R : Nat → Nat) : tr_V R 0 140 4 0 1 = 1 * R 7 * R 8 * R 14 := rfl
theorem au_0p144 (R : Nat → Nat) : tr_V R 0 144 4 0 1 = 1 * R 4 * R 9 * R 14 := rfl
theorem au_t0 (R : Nat → Nat) : au_S R 0 256 = fl_P (cs_w R 0) (cs_t R 0) := by
  have h := au_SF R 0 256 []
  rw [au_F0] at h
  simp only [au_L, au_0p0, au_0p8, au_0p12, au_0p16, au_0p28, au_0p48, au_0p56, au_0p60, au_0p64, au_0p72, au_0p80, au_0p112, au_0p128, au_0p136, au_0p140, au_0p144, Nat.one_mul] at h
  have t0 : cs_t R 0 0 = R 4 := rfl
  have w01 : cs_w R 0 0 1 = R 6 := rfl
  have w02 : cs_w R 0 0 2 = R 7 := rfl
  have t1 : cs_t R 0 1 = R 8 := rfl
  have w10 : cs_w R 0 1 0 = R 9 := rfl
  have w12 : cs_w R 0 1 2 = R 11 := rfl
  have t2 : cs_t R 0 2 = R 12 := rfl
  have w20 : cs_w R 0 2 0 = R 13 := rfl
  have w21 : cs_w R 0 2 1 = R 14 := rfl
  unfold fl_P
  simp only [t0, t1, t2, w01, w02, w10, w12, w20, w21]
  omega
theorem au_F1 : au_F 1 256 [] = [1, 17, 18, 49, 65, 67, 81, 82, 83, 113, 114, 115, 129, 145, 146, 147] := by decide +kernel
theorem au_1p1 (R : Nat → Nat) : tr_V R 1 1 4 0 1 = 1 * R 1 * R 8 * R 12 := rfl
theorem au_1p17 (R : Nat → Nat) : tr_V R 1 17 4 0 1 = 1 * R 1 * R 9 * R 12 := rfl
theorem au_1p18 (R : Nat → Nat) : tr_V R 1 18 4 0 1 = 1 * R 2 * R 9 * R 12 := rfl
theorem au_1p49 (R : Nat → Nat) : tr_V R 1 49 4 0 1 = 1 * R 1 * R 11 * R 12 := rfl
theorem au_1p65 (R : Nat → Nat) : tr_V R 1 65 4 0 1 = 1 * R 1 * R 8 * R 13 := rfl
theorem au_1p67 (R : Nat → Nat) : tr_V R 1 67 4 0 1 = 1 * R 3 * R 8 * R 13 := rfl
theorem au_1p81 (R : Nat → Nat) : tr_V R 1 81 4 0 1 = 1 * R 1 * R 9 * R 13 := rfl
theorem au_1p82 (R : Nat → Nat) : tr_V R 1 82 4 0 1 = 1 * R 2 * R 9 * R 13 := rfl
theorem au_1p83 (R : Nat → Nat) : tr_V R 1 83 4 0 1 = 1 * R 3 * R 9 * R 13 := rfl
theorem au_1p113 (R : Nat → Nat) : tr_V R 1 113 4 0 1 = 1 * R 1 * R 11 * R 13 := rfl
theorem au_1p114 (R : Nat → Nat) : tr_V R 1 114 4 0 1 = 1 * R 2 * R 11 * R 13 := rfl
theorem au_1p115 (R : Nat → Nat) : tr_V R 1 115 4 0 1 = 1 * R 3 * R 11 * R 13 := rfl
theorem au_1p129 (R : Nat → Nat) : tr_V R 1 129 4 0 1 = 1 * R 1 * R 8 * R 14 := rfl
theorem au_1p145 (R : Nat → Nat) : tr_V R 1 145 4 0 1 = 1 * R 1 * R 9 * R 14 := rfl
theorem au_1p146 (R : Nat → Nat) : tr_V R 1 146 4 0 1 = 1 * R 2 * R 9 * R 14 := rfl
theorem au_1p147 (R : Nat → Nat) : tr_V R 1 147 4 0 1 = 1 * R 3 * R 9 * R 14 := rfl
theorem au_t1 (R : Nat → Nat) : au_S R 1 256 = fl_P (cs_w R 1) (cs_t R 1) := by
  have h := au_SF R 1 256 []
  rw [au_F1] at h
  simp only [au_L, au_1p1, au_1p17, au_1p18, au_1p49, au_1p65, au_1p67, au_1p81, au_1p82, au_1p83, au_1p113, au_1p114, au_1p115, au_1p129, au_1p145, au_1p146, au_1p147, Nat.one_mul] at h
  have t0 : cs_t R 1 0 = R 1 := rfl
  have w01 : cs_w R 1 0 1 = R 2 := rfl
  have w02 : cs_w R 1 0 2 = R 3 := rfl
  have t1 : cs_t R 1 1 = R 9 := rfl
  have w10 : cs_w R 1 1 0 = R 8 := rfl
  have w12 : cs_w R 1 1 2 = R 11 := rfl
  have t2 : cs_t R 1 2 = R 13 := rfl
  have w20 : cs_w R 1 2 0 = R 12 := rfl
  have w21 : cs_w R 1 2 1 = R 14 := rfl
  unfold fl_P
  simp only [t0, t1, t2, w01, w02, w10, w12, w20, w21]
  omega
theorem au_F2 : au_F 2 256 [] = [2, 9, 10, 14, 66, 73, 74, 75, 130, 131, 137, 138, 139, 141, 142, 143] := by decide +kernel
theorem au_2p2 (R : Nat → Nat) : tr_V R 2 2 4 0 1 = 1 * R 2 * R 4 * R 12 := rfl
theorem au_2p9 (R : Nat → Nat) : tr_V R 2 9 4 0 1 = 1 * R 1 * R 6 * R 12 := rfl
theorem au_2p10 (R : Nat → Nat) : tr_V R 2 10 4 0 1 = 1 * R 2 * R 6 * R 12 := rfl
theorem au_2p14 (R : Nat → Nat) : tr_V R 2 14 4 0 1 = 1 * R 2 * R 7 * R 12 := rfl
theorem au_2p66 (R : Nat → Nat) : tr_V R 2 66 4 0 1 = 1 * R 2 * R 4 * R 13 := rfl
theorem au_2p73 (R : Nat → Nat) : tr_V R 2 73 4 0 1 = 1 * R 1 * R 6 * R 13 := rfl
theorem au_2p74 (R : Nat → Nat) : tr_V R 2 74 4 0 1 = 1 * R 2 * R 6 * R 13 := rfl
theorem au_2p75 (R : Nat → Nat) : tr_V R 2 75 4 0 1 = 1 * R 3 * R 6 * R 13 := rfl
theorem au_2p130 (R : Nat → Nat) : tr_V R 2 130 4 0 1 = 1 * R 2 * R 4 * R 14 := rfl
theorem au_2p131 (R : Nat → Nat) : tr_V R 2 131 4 0 1 = 1 * R 3 * R 4 * R 14 := rfl
theorem au_2p137 (R : Nat → Nat) : tr_V R 2 137 4 0 1 = 1 * R 1 * R 6 * R 14 := rfl
theorem au_2p138 (R : Nat → Nat) : tr_V R 2 138 4 0 1 = 1 * R 2 * R 6 * R 14 := rfl
theorem au_2p139 (R : Nat → Nat) : tr_V R 2 139 4 0 1 = 1 * R 3 * R 6 * R 14 := rfl
theorem au_2p141 (R : Nat → Nat) : tr_V R 2 141 4 0 1 = 1 * R 1 * R 7 * R 14 := rfl
theorem au_2p142 (R : Nat → Nat) : tr_V R 2 142 4 0 1 = 1 * R 2 * R 7 * R 14 := rfl
theorem au_2p143 (R : Nat → Nat) : tr_V R 2 143 4 0 1 = 1 * R 3 * R 7 * R 14 := rfl
theorem au_t2 (R : Nat → Nat) : au_S R 2 256 = fl_P (cs_w R 2) (cs_t R 2) := by
  have h := au_SF R 2 256 []
  rw [au_F2] at h
  simp only [au_L, au_2p2, au_2p9, au_2p10, au_2p14, au_2p66, au_2p73, au_2p74, au_2p75, au_2p130, au_2p131, au_2p137, au_2p138, au_2p139, au_2p141, au_2p142, au_2p143, Nat.one_mul] at h
  have t0 : cs_t R 2 0 = R 2 := rfl
  have w01 : cs_w R 2 0 1 = R 1 := rfl
  have w02 : cs_w R 2 0 2 = R 3 := rfl
  have t1 : cs_t R 2 1 = R 6 := rfl
  have w10 : cs_w R 2 1 0 = R 4 := rfl
  have w12 : cs_w R 2 1 2 = R 7 := rfl
  have t2 : cs_t R 2 2 = R 14 := rfl
  have w20 : cs_w R 2 2 0 = R 12 := rfl
  have w21 : cs_w R 2 2 1 = R 13 := rfl
  unfold fl_P
  simp only [t0, t1, t2, w01, w02, w10, w12, w20, w21]
  omega
theorem au_F3 : au_F 3 256 [] = [3, 11, 13, 15, 19, 29, 30, 31, 50, 51, 57, 58, 59, 61, 62, 63] := by decide +kernel
theorem au_3p3 (R : Nat → Nat) : tr_V R 3 3 4 0 1 = 1 * R 3 * R 4 * R 8 := rfl
theorem au_3p11 (R : Nat → Nat) : tr_V R 3 11 4 0 1 = 1 * R 3 * R 6 * R 8 := rfl
theorem au_3p13 (R : Nat → Nat) : tr_V R 3 13 4 0 1 = 1 * R 1 * R 7 * R 8 := rfl
theorem au_3p15 (R : Nat → Nat) : tr_V R 3 15 4 0 1 = 1 * R 3 * R 7 * R 8 := rfl
theorem au_3p19 (R : Nat → Nat) : tr_V R 3 19 4 0 1 = 1 * R 3 * R 4 * R 9 := rfl
theorem au_3p29 (R : Nat → Nat) : tr_V R 3 29 4 0 1 = 1 * R 1 * R 7 * R 9 := rfl
theorem au_3p30 (R : Nat → Nat) : tr_V R 3 30 4 0 1 = 1 * R 2 * R 7 * R 9 := rfl
theorem au_3p31 (R : Nat → Nat) : tr_V R 3 31 4 0 1 = 1 * R 3 * R 7 * R 9 := rfl
theorem au_3p50 (R : Nat → Nat) : tr_V R 3 50 4 0 1 = 1 * R 2 * R 4 * R 11 := rfl
theorem au_3p51 (R : Nat → Nat) : tr_V R 3 51 4 0 1 = 1 * R 3 * R 4 * R 11 := rfl
theorem au_3p57 (R : Nat → Nat) : tr_V R 3 57 4 0 1 = 1 * R 1 * R 6 * R 11 := rfl
theorem au_3p58 (R : Nat → Nat) : tr_V R 3 58 4 0 1 = 1 * R 2 * R 6 * R 11 := rfl
theorem au_3p59 (R : Nat → Nat) : tr_V R 3 59 4 0 1 = 1 * R 3 * R 6 * R 11 := rfl
theorem au_3p61 (R : Nat → Nat) : tr_V R 3 61 4 0 1 = 1 * R 1 * R 7 * R 11 := rfl
theorem au_3p62 (R : Nat → Nat) : tr_V R 3 62 4 0 1 = 1 * R 2 * R 7 * R 11 := rfl
theorem au_3p63 (R : Nat → Nat) : tr_V R 3 63 4 0 1 = 1 * R 3 * R 7 * R 11 := rfl
theorem au_t3 (R : Nat → Nat) : au_S R 3 256 = fl_P (cs_w R 3) (cs_t R 3) := by
  have h := au_SF R 3 256 []
  rw [au_F3] at h
  simp only [au_L, au_3p3, au_3p11, au_3p13, au_3p15, au_3p19, au_3p29, au_3p30, au_3p31, au_3p50, au_3p51, au_3p57, au_3p58, au_3p59, au_3p61, au_3p62, au_3p63, Nat.one_mul] at h
  have t0 : cs_t R 3 0 = R 3 := rfl
  have w01 : cs_w R 3 0 1 = R 1 := rfl
  have w02 : cs_w R 3 0 2 = R 2 := rfl
  have t1 : cs_t R 3 1 = R 7 := rfl
  have w10 : cs_w R 3 1 0 = R 4 := rfl
  have w12 : cs_w R 3 1 2 = R 6 := rfl
  have t2 : cs_t R 3 2 = R 11 := rfl
  have w20 : cs_w R 3 2 0 = R 8 := rfl
  have w21 : cs_w R 3 2 1 = R 9 := rfl
  unfold fl_P
  simp only [t0, t1, t2, w01, w02, w10, w12, w20, w21]
  omega
theorem au_t (R : Nat → Nat) {root : Nat} (hr : root < 4) : au_S R root 256 = fl_P (cs_w R root) (cs_t R root) := by
  rcases (by omega : root = 0 ∨ root = 1 ∨ root = 2 ∨ root = 3) with e | e | e | e <;> subst e
  · exact au_t0 R
  · exact au_t1 R
  · exact au_t2 R
  · exact au_t3 R
theorem au_det {R : Nat → Nat} (hz : ∀ a, a < 4 → R (4 * a + a) = 0) {root : Nat} (hr : root < 4) : dt_3 (fm_M R root) = (au_S R root 256 : Int) := by
  rw [au_t R hr, ← fl_det _ _ (cs_z hz root 0 (by decide)) (cs_z hz root 1 (by decide)) (cs_z hz root 2 (by decide))]
  exact dt_c3 (fun r c h1 _ => fm_fa R hr h1)
theorem au_lt {R : Nat → Nat} (hR : ∀ n, R n ≤ 9) (hz : ∀ a, a < 4 → R (4 * a + a) = 0) {root : Nat} (hr : root < 4) : au_S R root 256 < 2 ^ 31 := by
  have e := au_det hz hr
  have b : (dt_3 (fm_M R root)).natAbs ≤ 279936 := by
    apply bd_det
    intro r c h1 _
    have := cs_bd hR root (fun _ => False) r c
    unfold cs_M at this
    rw [ci_f (fun z => z), ← fm_fa R hr h1] at this
    exact this
  omega
/-! X's law -/
def wl_w (R : Nat → Nat) (k : Nat) : Nat := if k < 4 then au_S R k 256 else 0
theorem xl_23 {post : Int32 → SX → Prop} {fu fl : Int32} {R : Nat → Nat} {re ma ri : Nat → Int32} {i : Nat} (hR : ∀ n, R n ≤ 9) (hz : ∀ a, a < 4 → R (4 * a + a) = 0) (hi : i < 4)
    (h : ∀ ma', post (if la_G (wl_w R) 4 = 0 then -1 else nI (wl_w R i / la_G (wl_w R) 4)) (fu, fl, (fun n => nI (R n)), re, ma', ri)) :
    ∃ n, wX_law_23 post (nI i) n 0 0 0 fu fl (fun n => nI (R n)) re ma ri := by
  have hw : ∀ k, wl_w R k < 2 ^ 31 := by
    intro k
    unfold wl_w
    split
    · rename_i hk; exact au_lt hR hz hk
    · decide
  have hG := la_lt (by decide) hw
  refine loop_0 (fun n k (s : Nat × (Nat → Int32)) => wX_law_23 post (nI i) n (nI s.1) (nI (la_G (wl_w R) k)) (nI k) fu fl (fun n => nI (R n)) re s.2 ri) (fun k s => i < k → s.1 = wl_w R i) 4 (0, ma) (fun h => by omega) ?_ ?_
  · intro n s hs
    have e := hs hi
    have hi2 := hw i
    have hg := hG 4
    have h' := h s.2
    refine br_t bs_le4 ?_
    rw [e]
    by_cases z : la_G (wl_w R) 4 = 0
    · rw [if_pos z] at h'
      rw [z]
      exact br_f (by decide) h'
    · rw [if_neg z] at h'
      refine br_t (nI_le (a := 1) (by omega) (by omega)) ⟨nI_ne0 (by omega) (by omega), ?_⟩
      rw [pk_div hi2 (by omega) hg]
      exact h'
  · intro n k s hk hs ih
    have e : wl_w R k = au_S R k 256 := if_pos hk
    refine br_f (bs_ge4 hk) (xf_fill hk (fun ma' hm => xd_det hm ?_))
    rw [au_det hz hk, ← e]
    refine xg_gcd (hG k) (hw k) (pk_eq k i (fun q => nm_r (nI_1 k) (ih (wl_w R k, ma') (fun _ => by rw [q]))) (fun q => nm_r (nI_1 k) (ih (s.1, ma') (fun z => hs (by omega)))))
