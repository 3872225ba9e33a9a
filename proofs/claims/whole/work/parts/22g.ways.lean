/-! ways: the reference seeks -/
section
variable {L : Nat} {xs : Nat → Int32} {g : Nat → Nat} {b : Value}
theorem zuI_id {I : Nat → Nat → Int32} {o k : Nat} : zuI I o k (I o k) = I := by
  funext o' k'
  rw [zuI_at]
  split
  · rename_i h; rw [h.1, h.2]
  · rfl
/-- the best of the first WAYS -/
def mac (g : Nat → Nat) (P : List Nat) : Nat → Nat × List Nat
  | 0 => (8 * 4294967296, [])
  | w + 1 => lf (kk hM (gPW P (wdg (g 0) P.length w) g)) (wdg (g 0) P.length w) (mac g P w)
theorem mac_0 (P : List Nat) : mac g P 0 = (8 * 4294967296, []) := by rw [mac]
theorem mac_s (P : List Nat) (w : Nat) : mac g P (w + 1) = lf (kk hM (gPW P (wdg (g 0) P.length w) g)) (wdg (g 0) P.length w) (mac g P w) := by rw [mac]
theorem mac_F {α : Type} (f : Nat → α → α) (a : α) (m : Nat → α) (h0 : m 0 = a) (hs : ∀ w, m (w + 1) = f w (m w)) : ∀ n, zF f n a = m n
  | 0 => h0.symm
  | n + 1 => by
    rw [hs n, ← mac_F f a m h0 hs n]
    rfl
def mAc (g : Nat → Nat) (P : List Nat) (I : Nat → Nat → Int32) (w : Nat) : Prop := (w = 0 ∧ I 64 21 = -1000000) ∨ (0 < w ∧ ∃ v c h : Nat, v < 2 ^ 20 ∧ c ≤ 7 ∧ h < 2 ^ 31 ∧ mac g P w = (c * 4294967296 + h, wdg (g 0) P.length v) ∧ I 64 21 = nI v ∧ I 64 22 = nI c ∧ I 64 23 = nI h)
theorem m_sl1 (I A : Nat → Nat → Int32) (i1 i2 i3 i4 i5 : Int32) (y6 : Option Value) (d : Nat) : zE L xs d K_Model_seekLeast 90 [some (.ref 64), some (.int i1), some (.int i2), some (.int i3), some (.int i4), some (.int i5), y6] [.int 1] (zL I A b) = zE L xs d K_Model_seekLeast 18 [some (.ref 64), some (.int i1), some (.int i2), some (.int (i3 + 1)), some (.int i4), some (.int i5), some (.int 1)] [] (zL (zuI (zuI (zuI I 64 21 i3) 64 22 i4) 64 23 i5) A b) := by
  have h : ¬ (1 : Int32) = 0 := by decide
  rw [B_Model_seekLeast_90, if_neg h, zp_64_21, zbS, if_neg h, zp_64_22, zbS, if_neg h, zp_64_23, zbS]
theorem m_sl0 (I A : Nat → Nat → Int32) (i1 i2 i3 i4 i5 : Int32) (y6 : Option Value) (d : Nat) : zE L xs d K_Model_seekLeast 90 [some (.ref 64), some (.int i1), some (.int i2), some (.int i3), some (.int i4), some (.int i5), y6] [.int 0] (zL I A b) = zE L xs d K_Model_seekLeast 18 [some (.ref 64), some (.int i1), some (.int i2), some (.int (i3 + 1)), some (.int i4), some (.int i5), some (.int 0)] [] (zL I A b) := by
  rw [B_Model_seekLeast_90, if_pos rfl, zg_64_21, zbS, zp_64_21, zbS, if_pos rfl, zuI_id, zg_64_22, zbS, zp_64_22, zbS, if_pos rfl, zuI_id, zg_64_23, zbS, zp_64_23, zbS, zuI_id]
theorem pow7 {K n : Nat} (hK : K ≤ 3) (hn : n ≤ 7) : K ^ n < 2 ^ 20 := by
  have h1 : K ^ n ≤ 3 ^ n := Nat.pow_le_pow_left hK n
  have h2 : 3 ^ n ≤ 3 ^ 7 := Nat.pow_le_pow_right (by decide) hn
  have h3 : (3 : Nat) ^ 7 < 2 ^ 20 := by decide
  omega
theorem m_seekLeast {I A : Nat → Nat → Int32} (hm : mR A 68 g) (hD : gD g) {nt : Option Nat} (hnt : ∀ u, nt = some u → u < 7) (hW : Wok (lP g nt) g) (d : Nat) : ∃ I' A', pm_call L xs (d + 6) m_Model_seekLeast [.ref 64, .int (zopt nt)] (zL I A b) = some (none, zL I' A' b) ∧ (∃ v c h : Nat, v < 2 ^ 20 ∧ c ≤ 7 ∧ h < 2 ^ 31 ∧ dfs (kk hM) (lP g nt) g [] (8 * 4294967296, []) = (c * 4294967296 + h, wdg (g 0) (lP g nt).length v) ∧ I' 64 21 = nI v ∧ I' 64 22 = nI c ∧ I' 64 23 = nI h) ∧ tR A' 73 (lP g nt) ∧ I' 64 20 = nI (lP g nt).length ∧ (∀ o k, ¬ (o = 64 ∧ 20 ≤ k ∧ k ≤ 23) → I' o k = I o k) ∧ ∀ q, q ≠ 70 → q ≠ 73 → A' q = A q := by
  have hB := hW.1
  have h0 := hW.2.2.2.2.2.1
  have h03 := hB.2.1
  have h7 := hB.1
  have hP := lP_good hB hD nt
  have hP7 := hP.1
  obtain ⟨I1, A1, x1, x2, x3, x4, x5⟩ := m_lineUp (L := L) (xs := xs) (I := I) (b := b) hm hB hD hnt (d + 3)
  have hm1 : mR A1 68 g := hm.c (x5 68 (by decide))
  obtain ⟨I2, hI2⟩ : ∃ I2, I2 = zuI I1 64 21 (-1000000 : Int32) := ⟨_, rfl⟩
  have i20 : I2 64 20 = nI (lP g nt).length := by rw [hI2, zuI_n (by decide), x3]
  rw [D_Model_seekLeast, B_Model_seekLeast_0, x1, zbV, zp_64_21, zbS, ← hI2, m_waysOf hm1 hB hP7 i20 (d + 4), zbI]
  dsimp only
  obtain ⟨P, hPd⟩ : ∃ P, P = lP g nt := ⟨_, rfl⟩
  rw [← hPd] at hW hP hP7 x2 i20 ⊢
  have hpw := pow7 h03 hP7
  have key : ∀ w, w ≤ g 0 ^ P.length → ∃ I' A' y4 y5 y6, zE L xs (d + 5) K_Model_seekLeast 18 [some (.ref 64), some (.int (zopt nt)), some (.int (nI (g 0 ^ P.length))), some (.int (0 : Int32)), none, none, none] [] (zL I2 A1 b) = zE L xs (d + 5) K_Model_seekLeast 18 [some (.ref 64), some (.int (zopt nt)), some (.int (nI (g 0 ^ P.length))), some (.int (nI w)), y4, y5, y6] [] (zL I' A' b) ∧ mAc g P I' w ∧ (∀ o k, ¬ (o = 64 ∧ 21 ≤ k ∧ k ≤ 23) → I' o k = I2 o k) ∧ ∀ q, q ≠ 70 → A' q = A1 q := by
    intro w
    induction w with
    | zero => intro _; exact ⟨I2, A1, none, none, none, rfl, Or.inl ⟨rfl, by rw [hI2, zuI_s]⟩, fun _ _ _ => rfl, fun _ _ => rfl⟩
    | succ w ih =>
      intro hw
      obtain ⟨I3, A3, y4, y5, y6, e1, e2, e3, e4⟩ := ih (by omega)
      have hm3 : mR A3 68 g := hm1.c (e4 68 (by decide))
      obtain ⟨A4, z1, z2, z3⟩ := m_layWay (L := L) (xs := xs) (I := I3) (b := b) hm3 hW hP (x2.c (e4 73 (by decide))) (by rw [e3 64 20 (by omega), i20]) (show w < 2 ^ 31 by omega) d
      obtain ⟨s, hs⟩ : ∃ s, s = gPW P (wdg (g 0) P.length w) g := ⟨_, rfl⟩
      obtain ⟨hW', hs0⟩ := Wok_PW P (wdg (g 0) P.length w) g hW (wdg_len _ _) (wdg_lt h0 _ _)
      rw [← hs] at z2 hW' hs0
      have hBs := gcr_B hW'.1 (s 3)
      have hcn := gcnt_le hW'.1
      have hhM := hM_lt s hW'.1
      have ecn : zpc (gbroken (gcr s (s 3))) = gcnt s := by rw [gcr_broken]; rfl
      have ehv : gmost (gcr s (s 3)) (gcr s (s 3) 0) = hM s := by rw [gcr_most, gcr_h _ _ (by decide)]; rfl
      have hbl : gbroken (gcr s (s 3)) < 2 ^ 31 := by
        have := zB_128 (fun t => decide (gc (gcr s (s 3)) t = 1)) (n := gcr s (s 3) 3) hBs.1
        unfold gbroken
        omega
      have emac : mac g P (w + 1) = lf (gcnt s * 4294967296 + hM s) (wdg (g 0) P.length w) (mac g P w) := by rw [mac_s, ← hs]; rfl
      rw [e1, B_Model_seekLeast_18, if_neg (nI_ge (by omega) (by omega)), z1, zbV, zr_64_7, zbS, m_broken L xs (d + 3) I3 b z2 hBs, zbI]
      dsimp only
      rw [m_bits L xs (d + 4) hbl, zbI]
      dsimp only
      rw [zr_64_7, zbS, m_heaviest L xs (d + 2) I3 b z2 hBs, zbI]
      dsimp only
      rw [ecn, ehv, zg_64_21, zbS]
      have better : mac g P (w + 1) = (gcnt s * 4294967296 + hM s, wdg (g 0) P.length w) → ∃ I' A' u4 u5 u6, zE L xs (d + 5) K_Model_seekLeast 90 [some (.ref 64), some (.int (zopt nt)), some (.int (nI (g 0 ^ P.length))), some (.int (nI w)), some (.int (nI (gcnt s))), some (.int (nI (hM s))), y6] [.int 1] (zL I3 A4 b) = zE L xs (d + 5) K_Model_seekLeast 18 [some (.ref 64), some (.int (zopt nt)), some (.int (nI (g 0 ^ P.length))), some (.int (nI (w + 1))), u4, u5, u6] [] (zL I' A' b) ∧ mAc g P I' (w + 1) ∧ (∀ o k, ¬ (o = 64 ∧ 21 ≤ k ∧ k ≤ 23) → I' o k = I2 o k) ∧ ∀ q, q ≠ 70 → A' q = A1 q := by
        intro hmac
        rw [m_sl1, nI_1]
        refine ⟨_, _, _, _, _, rfl, Or.inr ⟨by omega, w, gcnt s, hM s, by omega, hcn, hhM, hmac, ?_, ?_, ?_⟩, fun o k hk => ?_, fun q hq => by rw [z3 q hq, e4 q hq]⟩
        · rw [zuI_n (by decide), zuI_n (by decide), zuI_s]
        · rw [zuI_n (by decide), zuI_s]
        · rw [zuI_s]
        · rw [zuI_at, if_neg (by omega), zuI_at, if_neg (by omega), zuI_at, if_neg (by omega), e3 o k hk]
      rcases e2 with ⟨w0, i21⟩ | ⟨wp, v, c, h, v1, c1, h1, m1, i21, i22, i23⟩
      · rw [i21, if_pos rfl]
        have : mac g P w = (8 * 4294967296, []) := by rw [w0, mac_0]
        have hb2 := better (by rw [emac, this]; exact if_pos (by dsimp only; omega))
        exact hb2
      · have worse : mac g P (w + 1) = mac g P w → ∃ I' A' u4 u5 u6, zE L xs (d + 5) K_Model_seekLeast 90 [some (.ref 64), some (.int (zopt nt)), some (.int (nI (g 0 ^ P.length))), some (.int (nI w)), some (.int (nI (gcnt s))), some (.int (nI (hM s))), y6] [.int 0] (zL I3 A4 b) = zE L xs (d + 5) K_Model_seekLeast 18 [some (.ref 64), some (.int (zopt nt)), some (.int (nI (g 0 ^ P.length))), some (.int (nI (w + 1))), u4, u5, u6] [] (zL I' A' b) ∧ mAc g P I' (w + 1) ∧ (∀ o k, ¬ (o = 64 ∧ 21 ≤ k ∧ k ≤ 23) → I' o k = I2 o k) ∧ ∀ q, q ≠ 70 → A' q = A1 q := by
          intro hmac
          rw [m_sl0, nI_1]
          exact ⟨_, _, _, _, _, rfl, Or.inr ⟨by omega, v, c, h, v1, c1, h1, by rw [hmac, m1], i21, i22, i23⟩, e3, fun q hq => by rw [z3 q hq, e4 q hq]⟩
        rw [i21, if_neg (zNn (by omega)), zg_64_22, zbS, i22]
        rw [m1] at emac
        by_cases q1 : gcnt s < c
        · rw [if_pos (nI_lt q1 (by omega))]
          exact better (by rw [emac]; exact if_pos (by dsimp only; omega))
        · rw [if_neg (nI_nlt (by omega) (by omega)), zbS]
          by_cases q2 : gcnt s = c
          · rw [if_neg (fun q => q (by rw [q2])), zg_64_23, zbS, i23]
            by_cases q3 : hM s < h
            · rw [if_neg (nI_ge q3 h1)]
              exact better (by rw [emac]; exact if_pos (by dsimp only; omega))
            · rw [if_pos (nI_le (by omega) hhM)]
              exact worse (by rw [emac, m1]; exact if_neg (by dsimp only; omega))
          · rw [if_pos (fun q => q2 ((nI_eq (by omega) (by omega)).mp q))]
            exact worse (by rw [emac, m1]; exact if_neg (by dsimp only; omega))
  obtain ⟨I3, A3, y4, y5, y6, e1, e2, e3, e4⟩ := key (g 0 ^ P.length) (Nat.le_refl _)
  have hpos : 0 < g 0 ^ P.length := Nat.pow_pos h0
  rcases e2 with ⟨w0, -⟩ | ⟨-, v, c, h, v1, c1, h1, m1, i21, i22, i23⟩
  · omega
  · refine ⟨I3, A3, ?_, ⟨v, c, h, v1, c1, h1, ?_, i21, i22, i23⟩, x2.c (e4 73 (by decide)), by rw [e3 64 20 (by omega), i20], fun o k hk => ?_, fun q q1 q2 => by rw [e4 q q1, x5 q q2]⟩
    · rw [e1, B_Model_seekLeast_18, if_pos (nI_le (Nat.le_refl _) (by omega))]
    · rw [dfs_enum h0 P g [] (8 * 4294967296, []) rfl, mac_F _ _ (mac g P) (mac_0 P) (fun w => by rw [mac_s, List.nil_append])]
      exact m1
    · rw [e3 o k (by omega), hI2, zuI_at, if_neg (by omega), x4 o k (by omega)]
end
