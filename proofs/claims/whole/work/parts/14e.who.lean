/-! who -/
section
variable {L : Nat} {xs : Nat → Int32} {B : Nat} {I A : Nat → Nat → Int32} {b : Value} {g : Nat → Nat}
theorem c_softs (hc : cR I A 22 g) (hB : gB g) {t r j : Nat} (ht : t < g 3) (hr : r < 8) (hj : j + g 3 ≤ 40) (f : Nat → Int32) (hf : ∀ u, u < g 3 → A (3 + r) (j + u) = f u) : ∃ A', pm_call L xs 59 m_Clues_softs [.ref 22, .int (nI t), .ref (3 + r), .int (nI j)] (zL I A b) = some (some (.int (zF (fun k a => if gbk (gu g (6 + 7 * t + 2) k) f = true then a ||| ((1 : Int32) <<< (nI k &&& 31)) else a) 10 0)), zL I A' b) ∧ ∀ q, q ≠ 25 → A' q = A q := by
  have hn := hB.1
  rw [C_Clues_softs, B_Clues_softs_0]
  have lp : ∀ k, k ≤ 10 → ∃ A', zE L xs 58 K_Clues_softs 6 [some (.ref 22), some (.int (nI t)), some (.ref (3 + r)), some (.int (nI j)), some (.int 0), some (.int 0)] [] (zL I A b) = zE L xs 58 K_Clues_softs 6 [some (.ref 22), some (.int (nI t)), some (.ref (3 + r)), some (.int (nI j)), some (.int (zF (fun k a => if gbk (gu g (6 + 7 * t + 2) k) f = true then a ||| ((1 : Int32) <<< (nI k &&& 31)) else a) k 0)), some (.int (nI k))] [] (zL I A' b) ∧ (∃ w, cR I A' 22 (gu g (6 + 7 * t + 2) w)) ∧ ∀ q, q ≠ 25 → A' q = A q := by
    intro k
    induction k with
    | zero => intro _; exact ⟨A, rfl, ⟨g (6 + 7 * t + 2), by rw [gu_id]; exact hc⟩, fun _ _ => rfl⟩
    | succ k ih =>
      intro hk
      obtain ⟨A1, e1, ⟨w, hw⟩, f1⟩ := ih (by omega)
      have h2 := hw.chg (t := t) (w := 2) (v := k) (by decide)
      rw [gu_2] at h2
      have hB2 : gB (gu g (6 + 7 * t + 2) k) := gu_B hB (by omega) (by omega) (fun _ _ _ => by omega)
      have g3 : gu g (6 + 7 * t + 2) k 3 = g 3 := gu_n (by omega)
      have e6 := c_isBroken (L := L) (xs := xs) (b := b) h2 hB2 (za_row hr) (i := j) (by rw [g3]; exact hj) 54
      have e7 : gbk (gu g (6 + 7 * t + 2) k) (fun u => zuA A1 (22 + 1 + 2) t (nI k) (3 + r) (j + u)) = gbk (gu g (6 + 7 * t + 2) k) f := gbk_congr (fun u hu => by rw [zuA_o (by omega), f1 (3 + r) (by omega)]; exact hf u (by rw [g3] at hu; exact hu))
      rw [e7] at e6
      rw [e1, B_Clues_softs_6, zl9, if_neg (nI_nlt (by omega) (by omega))]
      simp only [zSr3 hw.1, zbS, z_wr (zSa3 hw.1) (show t < 7 by omega)]
      have e8 : zuA A1 (22 + 3) t (nI k) = zuA A1 (22 + 1 + 2) t (nI k) := rfl
      simp only [e8, e6, zbI, zne, nI_1]
      refine ⟨zuA A1 (22 + 1 + 2) t (nI k), ?_, ⟨k, h2⟩, fun q hq => by rw [zuA_o hq, f1 q hq]⟩
      rw [show zF (fun k a => if gbk (gu g (6 + 7 * t + 2) k) f = true then a ||| ((1 : Int32) <<< (nI k &&& 31)) else a) (k + 1) 0 = (if gbk (gu g (6 + 7 * t + 2) k) f = true then zF (fun k a => if gbk (gu g (6 + 7 * t + 2) k) f = true then a ||| ((1 : Int32) <<< (nI k &&& 31)) else a) k 0 ||| ((1 : Int32) <<< (nI k &&& 31)) else zF (fun k a => if gbk (gu g (6 + 7 * t + 2) k) f = true then a ||| ((1 : Int32) <<< (nI k &&& 31)) else a) k 0) from rfl]
      by_cases c : gbk (gu g (6 + 7 * t + 2) k) f = true
      · rw [if_neg (fun q => q c), if_pos c]
      · rw [if_pos c, if_neg c, zor0]
  obtain ⟨A2, e2, -, f2⟩ := lp 10 (Nat.le_refl _)
  refine ⟨A2, ?_, f2⟩
  rw [e2, B_Clues_softs_6, zl9, if_pos (nI_lt (by decide) (by decide))]
theorem c_kinds (hc : cR I A 22 g) (hB : gB g) {t r j : Nat} (ht : t < g 3) (hr : r < 8) (hj : j + g 3 ≤ 40) (f : Nat → Int32) (hf : ∀ u, u < g 3 → A (3 + r) (j + u) = f u) : ∃ A', pm_call L xs 59 m_Clues_kinds [.ref 22, .int (nI t), .ref (3 + r), .int (nI j)] (zL I A b) = some (some (.int (zF (fun k a => if gbk (gu g (6 + 7 * t + 0) (1 + k)) f = true then a ||| ((1 : Int32) <<< (nI (1 + k) &&& 31)) else a) 5 0)), zL I A' b) ∧ ∀ q, q ≠ 23 → A' q = A q := by
  have hn := hB.1
  rw [C_Clues_kinds, B_Clues_kinds_0]
  have lp : ∀ k, k ≤ 5 → ∃ A', zE L xs 58 K_Clues_kinds 6 [some (.ref 22), some (.int (nI t)), some (.ref (3 + r)), some (.int (nI j)), some (.int 0), some (.int 1)] [] (zL I A b) = zE L xs 58 K_Clues_kinds 6 [some (.ref 22), some (.int (nI t)), some (.ref (3 + r)), some (.int (nI j)), some (.int (zF (fun k a => if gbk (gu g (6 + 7 * t + 0) (1 + k)) f = true then a ||| ((1 : Int32) <<< (nI (1 + k) &&& 31)) else a) k 0)), some (.int (nI (1 + k)))] [] (zL I A' b) ∧ (∃ w, cR I A' 22 (gu g (6 + 7 * t + 0) w)) ∧ ∀ q, q ≠ 23 → A' q = A q := by
    intro k
    induction k with
    | zero => intro _; exact ⟨A, rfl, ⟨g (6 + 7 * t + 0), by rw [gu_id]; exact hc⟩, fun _ _ => rfl⟩
    | succ k ih =>
      intro hk
      obtain ⟨A1, e1, ⟨w, hw⟩, f1⟩ := ih (by omega)
      have h2 := hw.chg (t := t) (w := 0) (v := 1 + k) (by decide)
      rw [gu_2] at h2
      have hB2 : gB (gu g (6 + 7 * t + 0) (1 + k)) := gu_B hB (by omega) (by omega) (fun _ _ _ => by omega)
      have g3 : gu g (6 + 7 * t + 0) (1 + k) 3 = g 3 := gu_n (by omega)
      have e6 := c_isBroken (L := L) (xs := xs) (b := b) h2 hB2 (za_row hr) (i := j) (by rw [g3]; exact hj) 54
      have e7 : gbk (gu g (6 + 7 * t + 0) (1 + k)) (fun u => zuA A1 (22 + 1 + 0) t (nI (1 + k)) (3 + r) (j + u)) = gbk (gu g (6 + 7 * t + 0) (1 + k)) f := gbk_congr (fun u hu => by rw [zuA_o (by omega), f1 (3 + r) (by omega)]; exact hf u (by rw [g3] at hu; exact hu))
      rw [e7] at e6
      rw [e1, B_Clues_kinds_6, zl5, if_neg (nI_nlt (by omega) (by omega))]
      simp only [zSr1 hw.1, zbS, z_wr (zSa1 hw.1) (show t < 7 by omega)]
      have e8 : zuA A1 (22 + 1) t (nI (1 + k)) = zuA A1 (22 + 1 + 0) t (nI (1 + k)) := rfl
      simp only [e8, e6, zbI, zne, nI_1]
      refine ⟨zuA A1 (22 + 1 + 0) t (nI (1 + k)), ?_, ⟨1 + k, h2⟩, fun q hq => by rw [zuA_o hq, f1 q hq]⟩
      rw [show zF (fun k a => if gbk (gu g (6 + 7 * t + 0) (1 + k)) f = true then a ||| ((1 : Int32) <<< (nI (1 + k) &&& 31)) else a) (k + 1) 0 = (if gbk (gu g (6 + 7 * t + 0) (1 + k)) f = true then zF (fun k a => if gbk (gu g (6 + 7 * t + 0) (1 + k)) f = true then a ||| ((1 : Int32) <<< (nI (1 + k) &&& 31)) else a) k 0 ||| ((1 : Int32) <<< (nI (1 + k) &&& 31)) else zF (fun k a => if gbk (gu g (6 + 7 * t + 0) (1 + k)) f = true then a ||| ((1 : Int32) <<< (nI (1 + k) &&& 31)) else a) k 0) from rfl]
      by_cases c : gbk (gu g (6 + 7 * t + 0) (1 + k)) f = true
      · rw [if_neg (fun q => q c), if_pos c]; rfl
      · rw [if_pos c, if_neg c, zor0]; rfl
  obtain ⟨A2, e2, -, f2⟩ := lp 5 (Nat.le_refl _)
  refine ⟨A2, ?_, f2⟩
  rw [e2, B_Clues_kinds_6, zl5, if_pos (nI_lt (by decide) (by decide))]
theorem m_who0 (hm : mR A 70 g) (hB : gB g) {t r j : Nat} (ht : t < g 3) (hr : r < 8) (hj : j + g 3 ≤ 40) : ∃ A', zE L xs 59 K_Model_who 66 [some (.ref 64), some (.int (nI t)), some (.int 0), some (.int (nI r)), some (.int (nI j)), some (.int 0), some (.int 0), some (.int 0)] [] (zL I A b) = some (some (.int (zF (fun k a => if gbk (gu g (6 + 7 * t + 2) k) (fun u => A 67 (40 * r + j + u)) = true then a ||| ((1 : Int32) <<< (nI k &&& 31)) else a) 10 0)), zL I A' b) ∧ ∀ q, q ≠ 70 → A' q = A q := by
  have hn := hB.1
  have lp : ∀ k, k ≤ 10 → ∃ A', zE L xs 59 K_Model_who 66 [some (.ref 64), some (.int (nI t)), some (.int 0), some (.int (nI r)), some (.int (nI j)), some (.int 0), some (.int 0), some (.int 0)] [] (zL I A b) = zE L xs 59 K_Model_who 66 [some (.ref 64), some (.int (nI t)), some (.int 0), some (.int (nI r)), some (.int (nI j)), some (.int 0), some (.int (zF (fun k a => if gbk (gu g (6 + 7 * t + 2) k) (fun u => A 67 (40 * r + j + u)) = true then a ||| ((1 : Int32) <<< (nI k &&& 31)) else a) k 0)), some (.int (nI k))] [] (zL I A' b) ∧ (∃ w, mR A' 70 (gu g (6 + 7 * t + 2) w)) ∧ ∀ q, q ≠ 70 → A' q = A q := by
    intro k
    induction k with
    | zero => intro _; exact ⟨A, rfl, ⟨g (6 + 7 * t + 2), by rw [gu_id]; exact hm⟩, fun _ _ => rfl⟩
    | succ k ih =>
      intro hk
      obtain ⟨A1, e1, ⟨w, hw⟩, f1⟩ := ih (by omega)
      have f5 : ((6 : Int32) + ((7 : Int32) * nI t)) + (2 : Int32) = nI (6 + 7 * t + 2) := by rw [zl6, zl7, zl2, pk_mul, nI_add, nI_add]
      have h2 := hw.set (6 + 7 * t + 2) k
      rw [gu_2] at h2
      have hB2 : gB (gu g (6 + 7 * t + 2) k) := gu_B hB (by omega) (by omega) (fun _ _ _ => by omega)
      have g3 : gu g (6 + 7 * t + 2) k 3 = g 3 := gu_n (by omega)
      have e6 := m_brokenSo (L := L) (xs := xs) (I := I) (b := b) h2 hB2 (p := 40 * r + j) (by rw [g3]; omega) 55
      have e7 : zuA A1 70 (6 + 7 * t + 2) (nI k) 67 = A 67 := by rw [zuA_o (by decide), f1 67 (by decide)]
      rw [e7] at e6
      rw [e1, B_Model_who_66, if_neg (fun q => q rfl), zl9, if_neg (nI_nlt (by omega) (by omega))]
      simp only [zr_64_7, zbS, f5, z_wr za_70 (show 6 + 7 * t + 2 < 55 by omega), zga 0, e6, zbI, zne, nI_1]
      refine ⟨zuA A1 70 (6 + 7 * t + 2) (nI k), ?_, ⟨k, h2⟩, fun q hq => by rw [zuA_o hq, f1 q hq]⟩
      rw [show zF (fun k a => if gbk (gu g (6 + 7 * t + 2) k) (fun u => A 67 (40 * r + j + u)) = true then a ||| ((1 : Int32) <<< (nI k &&& 31)) else a) (k + 1) 0 = (if gbk (gu g (6 + 7 * t + 2) k) (fun u => A 67 (40 * r + j + u)) = true then zF (fun k a => if gbk (gu g (6 + 7 * t + 2) k) (fun u => A 67 (40 * r + j + u)) = true then a ||| ((1 : Int32) <<< (nI k &&& 31)) else a) k 0 ||| ((1 : Int32) <<< (nI k &&& 31)) else zF (fun k a => if gbk (gu g (6 + 7 * t + 2) k) (fun u => A 67 (40 * r + j + u)) = true then a ||| ((1 : Int32) <<< (nI k &&& 31)) else a) k 0) from rfl]
      rw [if_neg (fun q => q trivial)]
      by_cases c : gbk (gu g (6 + 7 * t + 2) k) (fun u => A 67 (40 * r + j + u)) = true
      · rw [if_neg (fun q => q c), if_pos c]
      · rw [if_pos c, if_neg c, zor0]
  obtain ⟨A2, e2, -, f2⟩ := lp 10 (Nat.le_refl _)
  refine ⟨A2, ?_, f2⟩
  rw [e2, B_Model_who_66, if_neg (fun q => q rfl), zl9, if_pos (nI_lt (by decide) (by decide))]
theorem m_who1 (hm : mR A 70 g) (hB : gB g) {t r j : Nat} (ht : t < g 3) (hr : r < 8) (hj : j + g 3 ≤ 40) : ∃ A', zE L xs 59 K_Model_who 66 [some (.ref 64), some (.int (nI t)), some (.int 1), some (.int (nI r)), some (.int (nI j)), some (.int 0), some (.int 0), some (.int 1)] [] (zL I A b) = some (some (.int (zF (fun k a => if gbk (gu g (6 + 7 * t + 0) (1 + k)) (fun u => A 67 (40 * r + j + u)) = true then a ||| ((1 : Int32) <<< (nI (1 + k) &&& 31)) else a) 5 0)), zL I A' b) ∧ ∀ q, q ≠ 70 → A' q = A q := by
  have hn := hB.1
  have n10 : ¬ (1 : Int32) = 0 := by decide
  have lp : ∀ k, k ≤ 5 → ∃ A', zE L xs 59 K_Model_who 66 [some (.ref 64), some (.int (nI t)), some (.int 1), some (.int (nI r)), some (.int (nI j)), some (.int 0), some (.int 0), some (.int 1)] [] (zL I A b) = zE L xs 59 K_Model_who 66 [some (.ref 64), some (.int (nI t)), some (.int 1), some (.int (nI r)), some (.int (nI j)), some (.int 0), some (.int (zF (fun k a => if gbk (gu g (6 + 7 * t + 0) (1 + k)) (fun u => A 67 (40 * r + j + u)) = true then a ||| ((1 : Int32) <<< (nI (1 + k) &&& 31)) else a) k 0)), some (.int (nI (1 + k)))] [] (zL I A' b) ∧ (∃ w, mR A' 70 (gu g (6 + 7 * t + 0) w)) ∧ ∀ q, q ≠ 70 → A' q = A q := by
    intro k
    induction k with
    | zero => intro _; exact ⟨A, rfl, ⟨g (6 + 7 * t + 0), by rw [gu_id]; exact hm⟩, fun _ _ => rfl⟩
    | succ k ih =>
      intro hk
      obtain ⟨A1, e1, ⟨w, hw⟩, f1⟩ := ih (by omega)
      have f5 : ((6 : Int32) + ((7 : Int32) * nI t)) + (0 : Int32) = nI (6 + 7 * t + 0) := by rw [zl6, zl7, zl0, pk_mul, nI_add, nI_add]
      have h2 := hw.set (6 + 7 * t + 0) (1 + k)
      rw [gu_2] at h2
      have hB2 : gB (gu g (6 + 7 * t + 0) (1 + k)) := gu_B hB (by omega) (by omega) (fun _ _ _ => by omega)
      have g3 : gu g (6 + 7 * t + 0) (1 + k) 3 = g 3 := gu_n (by omega)
      have e6 := m_brokenSo (L := L) (xs := xs) (I := I) (b := b) h2 hB2 (p := 40 * r + j) (by rw [g3]; omega) 55
      have e7 : zuA A1 70 (6 + 7 * t + 0) (nI (1 + k)) 67 = A 67 := by rw [zuA_o (by decide), f1 67 (by decide)]
      rw [e7] at e6
      rw [e1, B_Model_who_66, if_pos n10, zl5, if_neg (nI_nlt (by omega) (by omega))]
      simp only [zr_64_7, zbS, f5, z_wr za_70 (show 6 + 7 * t + 0 < 55 by omega), zga 0, e6, zbI, zne, nI_1]
      refine ⟨zuA A1 70 (6 + 7 * t + 0) (nI (1 + k)), ?_, ⟨1 + k, h2⟩, fun q hq => by rw [zuA_o hq, f1 q hq]⟩
      rw [show zF (fun k a => if gbk (gu g (6 + 7 * t + 0) (1 + k)) (fun u => A 67 (40 * r + j + u)) = true then a ||| ((1 : Int32) <<< (nI (1 + k) &&& 31)) else a) (k + 1) 0 = (if gbk (gu g (6 + 7 * t + 0) (1 + k)) (fun u => A 67 (40 * r + j + u)) = true then zF (fun k a => if gbk (gu g (6 + 7 * t + 0) (1 + k)) (fun u => A 67 (40 * r + j + u)) = true then a ||| ((1 : Int32) <<< (nI (1 + k) &&& 31)) else a) k 0 ||| ((1 : Int32) <<< (nI (1 + k) &&& 31)) else zF (fun k a => if gbk (gu g (6 + 7 * t + 0) (1 + k)) (fun u => A 67 (40 * r + j + u)) = true then a ||| ((1 : Int32) <<< (nI (1 + k) &&& 31)) else a) k 0) from rfl]
      rw [if_pos n10]
      by_cases c : gbk (gu g (6 + 7 * t + 0) (1 + k)) (fun u => A 67 (40 * r + j + u)) = true
      · rw [if_neg (fun q => q c), if_pos c]; rfl
      · rw [if_pos c, if_neg c, zor0]; rfl
  obtain ⟨A2, e2, -, f2⟩ := lp 5 (Nat.le_refl _)
  refine ⟨A2, ?_, f2⟩
  rw [e2, B_Model_who_66, if_pos n10, zl5, if_pos (nI_lt (by decide) (by decide))]
theorem P_who (h : Rel B I A) (u w v i : Int32) : zOk L xs B m_Eggs_who m_Model_who [.int u, .int w, .int v, .int i] I A b := by
  have hw := h
  obtain ⟨g, hR, -, -, -, ⟨hc, hm, hB, hD, hU, hO, h5, hk, -⟩, -⟩ := hw
  have hn := hB.1
  unfold zOk
  rw [D_Eggs_who, B_Eggs_who_0]
  simp only [D_Model_who, B_Model_who_0, zr_0_2, zr_0_0, zr_0_3, zbS, c_hasThing L xs 58 b hc hB, zbI, zp_64_0, c_isRow L xs, m_isRow L xs, m_in L xs, zne]
  by_cases h0 : 0 ≤ u.toInt ∧ u.toInt < (g 3 : Int)
  · obtain ⟨t, ht, rfl⟩ := zth h0
    have ht7 : t < 7 := by omega
    have e0 : ∀ (I1 : Nat → Nat → Int32), pm_call L xs 59 m_Model_isThing [.ref 64, .int (nI t)] (zL I1 A b) = some (some (.int 1), zL I1 A b) := fun I1 => by rw [m_isThing L xs 57 I1 b hm hB, if_pos h0]
    by_cases h2 : 0 ≤ w ∧ w ≤ 1
    · have e2 : ¬ w < 0 := by have := h2.1; rw [fa_le] at this; rw [fa_lt]; omega
      have e3 : ¬ 1 < w := by have := h2.2; rw [fa_le] at this; rw [fa_lt]; omega
      by_cases h1 : 0 ≤ v ∧ v ≤ 7
      · obtain ⟨r, hr, rfl⟩ := zmm (k := 7) (by decide) h1.1 h1.2
        have hr8 : r < 8 := by omega
        simp only [h0, h1, h2, e2, e3, and_self, not_true_eq_false, not_false_eq_true, if_true, if_false, hc.n, zbS, c_findingAt L xs 57 b hr8 (hR.2 r hr8), zbI]
        by_cases c1 : A 12 r = -1
        · simp only [c1, if_true]
          rw [if_neg (by decide), c_found L xs, zbI]
          refine ⟨_, _, _, zuI (zuI (zuI I 0 10 1) 64 0 0) 64 1 1, _, _, rfl, ?_, h.fnd 1 (fun o k => by simp only [zuI_at]; split <;> split <;> first | rfl | (exfalso; omega) | (split <;> first | rfl | (exfalso; omega) | (split <;> first | rfl | (exfalso; omega))))⟩
          simp only [e0, zbI, zr_64_5, zbS, m_rd' _ b hm zl3 (show 3 < 55 by decide), m_rowFound hr8 (hR.2 r hr8) (hB.2.2.1 3) i 57, c1, if_true]
          rw [if_neg (by decide), if_neg (by decide)]
        · simp only [c1, if_false]
          by_cases c2 : 0 ≤ i.toInt ∧ 0 ≤ (nI (g 3)).toInt ∧ i.toInt + (nI (g 3)).toInt ≤ (A 12 r).toInt
          · rcases (hR.2 r hr8).1 with ⟨m1, -⟩ | ⟨N, l, hN, hl, m1, m2, m3, m4⟩
            · exact absurd m1 c1
            obtain ⟨j, hj, rfl⟩ := nI_of (x := i) (by rw [fa_lt, show (0 : Int32).toInt = 0 by decide]; omega)
            have hjN : j + g 3 ≤ 40 := by
              have := c2.2.2
              rw [m1, nI_toInt hj, nI_toInt (gbl hB 3), nI_toInt (by omega)] at this
              omega
            have hrow : ∀ c, c < g 3 → A (3 + r) (j + c) = A 67 (40 * r + j + c) := fun c hc => by
              rw [(hR.2 r hr8).2 (j + c) (by omega), Nat.add_assoc]
            obtain ⟨I1, A1, b1, b2, b3, b4, b5⟩ := c_become (L := L) (xs := xs) (I := I) (A := A) (b := b) (o := 22) (p := 15) (Or.inr (Or.inl rfl)) (Or.inl rfl) (by decide) 58
            have hc2 : cR I1 A1 22 g := hc.copy hB (Or.inr (Or.inl rfl)) b2 b4
            have hrow1 : ∀ c, c < g 3 → A1 (3 + r) (j + c) = A 67 (40 * r + j + c) := fun c hc => by rw [b5 (3 + r) (by omega)]; exact hrow c hc
            simp only [c2, and_self, if_true, zr_0_3, zr_0_2, zbS, b1, zbV, zr_0_0, zr_1_0, z_items hr8]
            have hS1 : zSame I A I1 A1 := ⟨fun o k hk => by rw [b3 o (fun e => by subst e; exact absurd hk (by simp [zKI]))], fun q hq => b5 q (by simp [zKA] at hq; omega), by rw [b5 60 (by decide)], by rw [b5 61 (by decide)]⟩
            have hR1 : Rel B I1 A1 := h.same hS1
            have hm1 : mR A1 68 g := hm.c (b5 68 (by decide))
            have q12 : A1 12 r = A 12 r := by rw [b5 12 (by decide)]
            have hw1 : zRw1 A1 r := (hR.2 r hr8).c hr8 (fun q _ _ => b5 q (by omega)) (b5 65 (by decide)) (b5 66 (by decide)) (b5 67 (by decide))
            by_cases c3 : w = 0
            · subst c3
              obtain ⟨A2, d1, d2⟩ := c_softs (L := L) (xs := xs) (b := b) hc2 hB ht hr8 hjN (fun c => A 67 (40 * r + j + c)) hrow1
              simp only [not_true_eq_false, if_false, d1, zbI, c_fine L xs]
              obtain ⟨I2, hI2⟩ : ∃ I2, I2 = zuI (zuI (zuI I1 0 10 0) 64 0 0) 64 1 0 := ⟨_, rfl⟩
              have hm2 : mR A2 68 g := hm1.c (d2 68 (by decide))
              have hw2 : zRw1 A2 r := hw1.c hr8 (fun q _ _ => d2 q (by omega)) (d2 65 (by decide)) (d2 66 (by decide)) (d2 67 (by decide))
              obtain ⟨A3, x1, x2⟩ := m_who0 (L := L) (xs := xs) (I := I2) (b := b) (m_then hm2) hB ht hr8 hjN
              have x3 : zcp A2 70 0 55 (A2 68) 67 = A 67 := by rw [zcp_o (by decide), d2 67 (by decide), b5 67 (by decide)]
              rw [x3] at x1
              have hS2 : zSame I1 A1 I1 A2 := zSame.f1 d2 rfl (by decide) (by decide)
              refine ⟨_, _, _, I2, A3, _, rfl, ?_, (Rel.fine (hR1.same hS2) (A' := A2) (fun _ _ _ _ _ => rfl) (by obtain ⟨g', k1, -⟩ := hR1.same hS2; exact k1.2)).same (by rw [hI2]; exact zSame.f1 (q := 70) (fun q hq => by rw [x2 q hq, zcp_o hq]) rfl (by decide) (by decide))⟩
              have q13 : A2 12 r = A 12 r := by rw [d2 12 (by decide), q12]
              have e01 : ∀ (I1 : Nat → Nat → Int32), pm_call L xs 59 m_Model_isThing [.ref 64, .int (nI t)] (zL I1 A2 b) = some (some (.int 1), zL I1 A2 b) := fun I1 => by rw [m_isThing L xs 57 I1 b hm2 hB, if_pos h0]
              simp only [e01, zbI, zr_64_5, zbS, m_rd' _ b hm2 zl3 (show 3 < 55 by decide), m_rowFound hr8 hw2 (hB.2.2.1 3) (nI j) 57, q13, c1, c2, and_self, if_true, if_false]
              rw [if_neg (by decide), ← hI2, m_layThen hm2 58, zbV]
              exact x1
            · have c4 : w = 1 := by
                obtain ⟨k, hk, rfl⟩ := zmm (k := 1) (by decide) h2.1 h2.2
                rcases (show k = 0 ∨ k = 1 by omega) with rfl | rfl
                · exact absurd rfl c3
                · rfl
              subst c4
              obtain ⟨A2, d1, d2⟩ := c_kinds (L := L) (xs := xs) (b := b) hc2 hB ht hr8 hjN (fun c => A 67 (40 * r + j + c)) hrow1
              simp only [c3, not_false_eq_true, if_true, d1, zbI, c_fine L xs]
              obtain ⟨I2, hI2⟩ : ∃ I2, I2 = zuI (zuI (zuI I1 0 10 0) 64 0 0) 64 1 0 := ⟨_, rfl⟩
              have hm2 : mR A2 68 g := hm1.c (d2 68 (by decide))
              have hw2 : zRw1 A2 r := hw1.c hr8 (fun q _ _ => d2 q (by omega)) (d2 65 (by decide)) (d2 66 (by decide)) (d2 67 (by decide))
              obtain ⟨A3, x1, x2⟩ := m_who1 (L := L) (xs := xs) (I := I2) (b := b) (m_then hm2) hB ht hr8 hjN
              have x3 : zcp A2 70 0 55 (A2 68) 67 = A 67 := by rw [zcp_o (by decide), d2 67 (by decide), b5 67 (by decide)]
              rw [x3] at x1
              have hS2 : zSame I1 A1 I1 A2 := zSame.f1 d2 rfl (by decide) (by decide)
              refine ⟨_, _, _, I2, A3, _, rfl, ?_, (Rel.fine (hR1.same hS2) (A' := A2) (fun _ _ _ _ _ => rfl) (by obtain ⟨g', k1, -⟩ := hR1.same hS2; exact k1.2)).same (by rw [hI2]; exact zSame.f1 (q := 70) (fun q hq => by rw [x2 q hq, zcp_o hq]) rfl (by decide) (by decide))⟩
              have q13 : A2 12 r = A 12 r := by rw [d2 12 (by decide), q12]
              have e01 : ∀ (I1 : Nat → Nat → Int32), pm_call L xs 59 m_Model_isThing [.ref 64, .int (nI t)] (zL I1 A2 b) = some (some (.int 1), zL I1 A2 b) := fun I1 => by rw [m_isThing L xs 57 I1 b hm2 hB, if_pos h0]
              simp only [e01, zbI, zr_64_5, zbS, m_rd' _ b hm2 zl3 (show 3 < 55 by decide), m_rowFound hr8 hw2 (hB.2.2.1 3) (nI j) 57, q13, c1, c2, and_self, if_true, if_false]
              rw [if_neg (by decide), ← hI2, m_layThen hm2 58, zbV]
              exact x1
          · simp only [eq_false c2, if_false]
            rw [if_neg (by decide), c_found L xs, zbI]
            refine ⟨_, _, _, zuI (zuI (zuI I 0 10 2) 64 0 0) 64 1 2, _, _, rfl, ?_, h.fnd 2 (fun o k => by simp only [zuI_at]; split <;> split <;> first | rfl | (exfalso; omega) | (split <;> first | rfl | (exfalso; omega) | (split <;> first | rfl | (exfalso; omega))))⟩
            simp only [e0, zbI, zr_64_5, zbS, m_rd' _ b hm zl3 (show 3 < 55 by decide), m_rowFound hr8 (hR.2 r hr8) (hB.2.2.1 3) i 57, c1, eq_false c2, if_false]
            rw [if_neg (by decide), if_neg (by decide)]
      · simp only [h0, h1, h2, e2, e3, and_self, not_true_eq_false, not_false_eq_true, if_true, if_false]
        refine ⟨_, _, _, _, _, _, rfl, ?_, h.same (zSame.fI 64 0 0 rfl)⟩
        simp only [e0, zbI]
        rw [if_neg (by decide)]
    · simp only [h0, h2, and_self, not_true_eq_false, not_false_eq_true, if_true, if_false]
      by_cases c : w < 0
      · simp only [c, if_true]
        refine ⟨_, _, _, _, _, _, rfl, ?_, h.same (zSame.fI 64 0 0 rfl)⟩
        simp only [e0, zbI]
        rw [if_neg (by decide)]
      · have c2 : 1 < w := by
          refine Classical.byContradiction (fun q => h2 ⟨fa_of_nlt c, fa_of_nlt q⟩)
        simp only [c, c2, if_false, if_true]
        refine ⟨_, _, _, _, _, _, rfl, ?_, h.same (zSame.fI 64 0 0 rfl)⟩
        simp only [e0, zbI]
        rw [if_neg (by decide)]
  · simp only [h0, not_true_eq_false, not_false_eq_true, if_true, if_false]
    refine ⟨_, _, _, _, _, _, rfl, ?_, h.same (zSame.fI 64 0 0 rfl)⟩
    simp only [m_isThing L xs 57 _ b hm hB, zbI, h0, if_false]
    rw [if_pos (by decide)]
end
