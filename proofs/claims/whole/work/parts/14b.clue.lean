/-! astray, heavy -/
section
variable {L : Nat} {xs : Nat → Int32} {B : Nat} {I A : Nat → Nat → Int32} {b : Value} {g : Nat → Nat}
theorem zga (k r i : Nat) : (40 : Int32) * nI r + nI i = nI (40 * r + i) := by rw [zl40, pk_mul, nI_add]
theorem gu_B (hB : gB g) {j v : Nat} (hj : 6 ≤ j) (hv : v < 2 ^ 20) (hs : ∀ t, t < 7 → j = 6 + 7 * t + 2 → v ≤ 9) : gB (gu g j v) := by
  refine ⟨by rw [gu_n (by omega)]; exact hB.1, by rw [gu_n (by omega)]; exact hB.2.1, fun k => ?_, fun t ht => ?_⟩
  · unfold gu
    split
    · exact hv
    · exact hB.2.2.1 k
  · show gu g j v (6 + 7 * t + 2) ≤ 9
    unfold gu
    split
    · rename_i h
      exact hs t ht h.symm
    · exact hB.2.2.2 t ht
theorem gu_2 {j v w : Nat} : gu (gu g j v) j w = gu g j w := by
  funext k
  unfold gu
  split <;> rfl
/-- a thing LAID BY weighs nothing in a BAG -/
theorem gweighs_out {t c : Nat} (ht : t < g 3) : gweighs (gu g (6 + 7 * t + 3) 2) c = gweighs (gu g (6 + 7 * t + 1) 0) c := by
  unfold gweighs
  rw [gu_n (by omega), gu_n (by omega)]
  apply zS_congr
  intro u _
  by_cases h : u = t
  · subst h
    have e1 : gp (gu g (6 + 7 * u + 3) 2) u = 2 := gu_s
    have e2 : gw (gu g (6 + 7 * u + 1) 0) u = 0 := gu_s
    rw [e1, e2, if_neg (by omega)]
    split <;> rfl
  · have e1 : gp (gu g (6 + 7 * t + 3) 2) u = gp g u := gu_n (by omega)
    have e2 : gw (gu g (6 + 7 * t + 3) 2) u = gw g u := gu_n (by omega)
    have e3 : gp (gu g (6 + 7 * t + 1) 0) u = gp g u := gu_n (by omega)
    have e4 : gw (gu g (6 + 7 * t + 1) 0) u = gw g u := gu_n (by omega)
    rw [e1, e2, e3, e4]
theorem zKA_70 {A' : Nat → Nat → Int32} (h : ∀ q, q ≠ 70 → A' q = A q) : zSame I A I A' := zSame.f1 h rfl (by decide) (by decide)
/-- the answers of a finding in both -/
theorem P_astray (h : Rel B I A) (v i : Int32) : zOk L xs B m_Eggs_astray m_Model_astray [.int v, .int i] I A b := by
  have hw := h
  obtain ⟨g, hR, -, -, -, ⟨hc, hm, hB, hD, hU, hO, h5, hk, -⟩, -⟩ := hw
  have hn := hB.1
  have hn0 := hB.2.1
  unfold zOk
  rw [D_Eggs_astray, B_Eggs_astray_0]
  simp only [D_Model_astray, B_Model_astray_0, zr_0_2, zr_0_0, zbS, c_stands L xs 58 b hc hB, zbI, zp_64_0, c_isRow L xs, m_isRow L xs, zne]
  by_cases h0 : 0 < g 0
  · by_cases h1 : 0 ≤ v ∧ v ≤ 7
    · obtain ⟨r, hr, rfl⟩ := zmm (k := 7) (by decide) h1.1 h1.2
      have hr8 : r < 8 := by omega
      simp only [h0, h1, and_self, not_true_eq_false, not_false_eq_true, if_true, hc.bags, zbS, c_findingAt L xs 57 b hr8 (hR.2 r hr8), zbI]
      have e0 : ∀ (I1 : Nat → Nat → Int32), pm_call L xs 59 m_Model_isThere [.ref 64] (zL I1 A b) = some (some (.int 1), zL I1 A b) := fun I1 => by rw [m_isThere L xs 58 I1 b hm hB, if_pos h0]
      by_cases c1 : A 12 r = -1
      · simp only [c1, if_true]
        rw [if_neg (by decide), c_found L xs, zbI]
        refine ⟨_, _, _, zuI (zuI (zuI I 0 10 1) 64 0 0) 64 1 1, _, _, rfl, ?_, h.fnd 1 (fun o k => by simp only [zuI_at]; split <;> split <;> first | rfl | (exfalso; omega) | (split <;> first | rfl | (exfalso; omega) | (split <;> first | rfl | (exfalso; omega))))⟩
        simp only [e0, zbI, zr_64_5, zbS, m_rd' _ b hm zl0 (show 0 < 55 by decide), m_rowFound hr8 (hR.2 r hr8) (hB.2.2.1 0) i 57, c1, if_true]
        rw [if_pos (by decide), if_neg (by decide)]
      · simp only [c1, if_false]
        by_cases c2 : 0 ≤ i.toInt ∧ 0 ≤ (nI (g 0)).toInt ∧ i.toInt + (nI (g 0)).toInt ≤ (A 12 r).toInt
        · rcases (hR.2 r hr8).1 with ⟨m1, -⟩ | ⟨N, l, hN, hl, m1, m2, m3, m4⟩
          · exact absurd m1 c1
          obtain ⟨j, hj, rfl⟩ := nI_of (x := i) (by rw [fa_lt, show (0 : Int32).toInt = 0 by decide]; omega)
          have hjN : j + g 0 ≤ 40 := by
            have := c2.2.2
            rw [m1, nI_toInt hj, nI_toInt (gbl hB 0), nI_toInt (by omega)] at this
            omega
          have hrow : ∀ c, c < g 0 → A (3 + r) (j + c) = A 67 (40 * r + j + c) := fun c hc => by
            rw [(hR.2 r hr8).2 (j + c) (by omega), Nat.add_assoc]
          simp only [c2, and_self, if_true, zr_0_0, zr_0_2, zr_1_0, z_items hr8, zbS]
          obtain ⟨ok, hok⟩ : ∃ ok : Nat → Bool, ok = fun t => decide (3 ≤ gp g t) && zAl (fun c => decide (nI (gweighs (gu g (6 + 7 * t + 1) 0) c) = A 67 (40 * r + j + c))) (g 0) 0 := ⟨_, rfl⟩
          obtain ⟨st, hst⟩ : ∃ st : Int32, st = if zAl (fun c => decide (nI (gweighs g c) = A 67 (40 * r + j + c))) (g 0) 0 = true then 128 else 0 := ⟨_, rfl⟩
          have cm : pm_call L xs 59 m_Clues_missing [.ref 15, .ref (3 + r), .int (nI j)] (zL I A b) = some (some (.int (zF (fun t a => if ok t = true then a ||| ((1 : Int32) <<< (nI t &&& 31)) else a) (g 3) st)), zL I A b) := by
            rw [C_Clues_missing, B_Clues_missing_0]
            simp only [c_isWeighed0 hc hB (za_row hr8) hjN 56, zbI, zne]
            have e1 : zAl (fun c => decide (nI (gweighs g c) = A (3 + r) (j + c))) (g 0) 0 = zAl (fun c => decide (nI (gweighs g c) = A 67 (40 * r + j + c))) (g 0) 0 := zAl_congr _ _ (fun c _ hc => by rw [hrow c (by omega)])
            have lp : ∀ a, zE L xs 58 K_Clues_missing 23 [some (.ref 15), some (.ref (3 + r)), some (.int (nI j)), some (.int a), some (.int 0)] [] (zL I A b) = some (some (.int (zF (fun t a => if ok t = true then a ||| ((1 : Int32) <<< (nI t &&& 31)) else a) (g 3) a)), zL I A b) := by
              intro a
              refine zloop (fun k a => zE L xs 58 K_Clues_missing 23 [some (.ref 15), some (.ref (3 + r)), some (.int (nI j)), some (.int a), some (.int k)] [] (zL I A b)) (fun t a => if ok t = true then a ||| ((1 : Int32) <<< (nI t &&& 31)) else a) (g 3) (fun a => some (some (.int a), zL I A b)) (fun t a ht => ?_) (fun a => ?_) a
              · rw [B_Clues_missing_23]
                have e2 : (nI (gp g t) < (3 : Int32)) = ¬ 3 ≤ gp g t := by rw [zl3, znT (gbl hB _) (by decide)]; simp
                have e3 : pm_call L xs 58 m_Clues_isWeighed [.ref 15, .int (nI t), .int 0, .ref (3 + r), .int (nI j)] (zL I A b) = some (some (.int (if zAl (fun c => decide (nI (gweighs (gu g (6 + 7 * t + 1) 0) c) = A 67 (40 * r + j + c))) (g 0) 0 = true then 1 else 0)), zL I A b) := by
                  rw [zl0, c_isWeighed hc hB (za_row hr8) hjN ht (by decide) 56]
                  have e4 : zAl (fun c => decide (nI (gweighs (gu g (6 + 7 * t + 1) 0) c) = A (3 + r) (j + c))) (g 0) 0 = zAl (fun c => decide (nI (gweighs (gu g (6 + 7 * t + 1) 0) c) = A 67 (40 * r + j + c))) (g 0) 0 := zAl_congr _ _ (fun c _ hc => by rw [hrow c (by omega)])
                  rw [e4]
                  rfl
                simp only [hc.n, zbS, zSr4 hc.1, hc.place hB b ht, e2, e3, zbI, zne]
                rw [if_neg (nI_ge ht (gbl hB 3)), hok]
                by_cases c3 : 3 ≤ gp g t
                · rw [if_neg (fun q => q c3)]
                  by_cases c4 : zAl (fun c => decide (nI (gweighs (gu g (6 + 7 * t + 1) 0) c) = A 67 (40 * r + j + c))) (g 0) 0 = true
                  · rw [if_neg (fun q => q c4), if_pos (by simp [c3, c4])]
                  · rw [if_pos c4, if_neg (by simp [c4])]
                · rw [if_pos c3, if_neg (by simp [c3])]
              · rw [B_Clues_missing_23]
                simp only [hc.n, zbS]
                rw [if_pos (nI_le (Nat.le_refl _) (gbl hB 3))]
            rw [e1]
            by_cases c3 : zAl (fun c => decide (nI (gweighs g c) = A 67 (40 * r + j + c))) (g 0) 0 = true
            · rw [if_neg (fun q => q c3), lp, hst, if_pos c3]
            · rw [if_pos c3, lp, hst, if_neg c3]
          rw [cm, zbI, c_fine L xs, zbI]
          obtain ⟨I2, hI2⟩ : ∃ I2, I2 = zuI (zuI (zuI I 0 10 0) 64 0 0) 64 1 0 := ⟨_, rfl⟩
          have lp : ∀ k, k ≤ g 3 → ∃ A', zE L xs 59 K_Model_astray 73 [some (.ref 64), some (.int (nI r)), some (.int (nI j)), some (.int 0), some (.int st), some (.int 0)] [] (zL I2 (zcp A 70 0 55 (A 68)) b) = zE L xs 59 K_Model_astray 73 [some (.ref 64), some (.int (nI r)), some (.int (nI j)), some (.int 0), some (.int (zF (fun t a => if ok t = true then a ||| ((1 : Int32) <<< (nI t &&& 31)) else a) k st)), some (.int (nI k))] [] (zL I2 A' b) ∧ ∀ q, q ≠ 70 → A' q = A q := by
            intro k
            induction k with
            | zero => intro _; exact ⟨_, rfl, fun q hq => zcp_o hq⟩
            | succ k ih =>
              intro hk2
              obtain ⟨A1, e1, f1⟩ := ih (by omega)
              have hm1 : mR A1 68 g := hm.c (f1 68 (by decide))
              have hk7 : k < 7 := by omega
              have e2 : (nI (gp g k) < (3 : Int32)) = ¬ 3 ≤ gp g k := by rw [zl3, znT (gbl hB _) (by decide)]; simp
              rw [e1, B_Model_astray_73]
              simp only [zr_64_5, zr_64_7, zbS, m_rd' _ b hm1 zl3 (show 3 < 55 by decide), m_of' L xs 58 _ b hm1 zl3 hk7 (show 3 < 7 by decide), zbI, e2, nI_1]
              rw [if_neg (nI_ge (show k < g 3 by omega) (gbl hB 3))]
              show ∃ A', _ = zE L xs 59 K_Model_astray 73 [some (.ref 64), some (.int (nI r)), some (.int (nI j)), some (.int 0), some (.int (if ok k = true then zF (fun t a => if ok t = true then a ||| ((1 : Int32) <<< (nI t &&& 31)) else a) k st ||| ((1 : Int32) <<< (nI k &&& 31)) else zF (fun t a => if ok t = true then a ||| ((1 : Int32) <<< (nI t &&& 31)) else a) k st)), some (.int (nI (k + 1)))] [] (zL I2 A' b) ∧ _
              by_cases c3 : 3 ≤ gp g k
              · rw [if_neg (fun q => q c3)]
                have f5 : ((6 : Int32) + ((7 : Int32) * nI k)) + (3 : Int32) = nI (6 + 7 * k + 3) := by rw [zl6, zl7, zl3, pk_mul, nI_add, nI_add]
                have h70 := (m_then hm1).set (6 + 7 * k + 3) 2
                have hB2 : gB (gu g (6 + 7 * k + 3) 2) := gu_B hB (by omega) (by decide) (fun t _ e => by omega)
                have g0 : gu g (6 + 7 * k + 3) 2 0 = g 0 := gu_n (by omega)
                rw [← zl2] at h70
                have e6 := m_weighSo (L := L) (xs := xs) (I := I2) (b := b) h70 hB2 (p := 40 * r + j) (by rw [g0]; omega) 56
                have e7 : ∀ c, zuA (zcp A1 70 0 55 (A1 68)) 70 (6 + 7 * k + 3) 2 67 c = A 67 c := fun c => by rw [zuA_o (by decide), zcp_o (by decide), f1 67 (by decide)]
                simp only [e7, g0, gweighs_out (show k < g 3 by omega)] at e6
                simp only [m_layThen hm1 58, zbV, zr_64_7, zbS, f5, z_wr za_70 (show 6 + 7 * k + 3 < 55 by omega), zga 0, e6, zbI, zne]
                refine ⟨zuA (zcp A1 70 0 55 (A1 68)) 70 (6 + 7 * k + 3) 2, ?_, fun q hq => by rw [zuA_o hq, zcp_o hq, f1 q hq]⟩
                by_cases c4 : zAl (fun c => decide (nI (gweighs (gu g (6 + 7 * k + 1) 0) c) = A 67 (40 * r + j + c))) (g 0) 0 = true
                · rw [if_neg (fun q => q c4), if_pos (by rw [hok]; simp [c3, c4])]
                · rw [if_pos c4, if_neg (by rw [hok]; simp [c4]), zor0]
              · rw [if_pos c3]
                refine ⟨A1, ?_, f1⟩
                rw [if_neg (by rw [hok]; simp [c3])]
          obtain ⟨A2, e2, f2⟩ := lp (g 3) (Nat.le_refl _)
          have hm2 : mR A2 68 g := hm.c (f2 68 (by decide))
          refine ⟨_, _, _, I2, A2, _, rfl, ?_, (h.fine (A' := A) (fun _ _ _ _ _ => rfl) hR.2).same (by rw [hI2]; exact zKA_70 f2)⟩
          have c2' : (A 12 r = -1) = False := eq_false c1
          have e6 := m_weighSo (L := L) (xs := xs) (I := I2) (b := b) (m_then hm) hB (p := 40 * r + j) (by omega) 56
          have e7 : ∀ c, zcp A 70 0 55 (A 68) 67 c = A 67 c := fun c => by rw [zcp_o (by decide)]
          simp only [e7] at e6
          simp only [e0, zbI, zr_64_5, zbS, m_rd' _ b hm zl0 (show 0 < 55 by decide), m_rowFound hr8 (hR.2 r hr8) (hB.2.2.1 0) (nI j) 57, c1, c2, and_self, if_true, if_false, zga 0]
          rw [if_pos (by decide), ← hI2, m_layThen hm 58, zbV, e6, zbI]
          have e8 : zE L xs 59 K_Model_astray 73 [some (.ref 64), some (.int (nI r)), some (.int (nI j)), some (.int 0), some (.int st), some (.int 0)] [] (zL I2 (zcp A 70 0 55 (A 68)) b) = some (some (.int (zF (fun t a => if ok t = true then a ||| ((1 : Int32) <<< (nI t &&& 31)) else a) (g 3) st)), zL I2 A2 b) := by
            rw [e2, B_Model_astray_73]
            simp only [zr_64_5, zbS, m_rd' _ b hm2 zl3 (show 3 < 55 by decide)]
            rw [if_pos (nI_le (Nat.le_refl _) (gbl hB 3))]
          by_cases c3 : zAl (fun c => decide (nI (gweighs g c) = A 67 (40 * r + j + c))) (g 0) 0 = true
          · rw [if_pos c3] at hst
            rw [if_pos c3]
            subst hst
            exact e8
          · rw [if_neg c3] at hst
            rw [if_neg c3]
            subst hst
            exact e8
        · simp only [eq_false c2, if_false]
          rw [if_neg (by decide), c_found L xs, zbI]
          refine ⟨_, _, _, zuI (zuI (zuI I 0 10 2) 64 0 0) 64 1 2, _, _, rfl, ?_, h.fnd 2 (fun o k => by simp only [zuI_at]; split <;> split <;> first | rfl | (exfalso; omega) | (split <;> first | rfl | (exfalso; omega) | (split <;> first | rfl | (exfalso; omega))))⟩
          simp only [e0, zbI, zr_64_5, zbS, m_rd' _ b hm zl0 (show 0 < 55 by decide), m_rowFound hr8 (hR.2 r hr8) (hB.2.2.1 0) i 57, c1, eq_false c2, if_false]
          rw [if_pos (by decide), if_neg (by decide)]
    · simp only [h0, h1, not_true_eq_false, not_false_eq_true, if_true, if_false]
      refine ⟨_, _, _, _, _, _, rfl, ?_, h.same (zSame.fI 64 0 0 rfl)⟩
      simp only [m_isThere L xs 58 _ b hm hB, zbI, h0, if_true]
      rw [if_pos (by decide)]
  · simp only [h0, not_true_eq_false, not_false_eq_true, if_true, if_false]
    refine ⟨_, _, _, _, _, _, rfl, ?_, h.same (zSame.fI 64 0 0 rfl)⟩
    simp only [m_isThere L xs 58 _ b hm hB, zbI, h0, if_false]
    rw [if_neg (by decide)]
end
