section
variable {L : Nat} {xs : Nat → Int32} {B : Nat} {I A : Nat → Nat → Int32} {b : Value}
theorem P_shop (h : Rel B I A) (hB7 : 7 ≤ B) : zOk L xs B m_Eggs_shop m_Model_shop [] I A b := by
  have hw := h
  obtain ⟨g, -, hTp, -, -, hS, -, hH⟩ := hw
  obtain ⟨hc, hm, hI⟩ := hS
  obtain ⟨h9, n, hn, h1, h11, htp⟩ := hTp
  obtain ⟨tp, htpd⟩ : ∃ tp : Nat → Nat, tp = fun i => (A 14 i).toNatClampNeg := ⟨_, rfl⟩
  have htv : ∀ i, i < n → tp i < 256 ∧ A 14 i = nI (tp i) ∧ A 72 i = nI (tp i) := by
    intro i hi
    obtain ⟨c, c1, c2, c3⟩ := htp i hi
    have : tp i = c := by rw [htpd]; show (A 14 i).toNatClampNeg = c; rw [c2, nI_clamp (by omega)]
    rw [this]
    exact ⟨c1, c2, c3⟩
  have hT : tGood n tp := ⟨hn, fun i hi => (htv i hi).1⟩
  obtain ⟨I1, A1, x1, x2, x3, x4, x5, x6⟩ := c_read (L := L) (xs := xs) (b := b) hT h1 (fun i hi => (htv i hi).2.1) 55
  have hY : pMore n tp 7 (pStep n tp ((pLaw n tp).1, [])) = pAll n tp := rfl
  rw [hY] at x1 x2 x3
  have tg0 : tgOK [] := ⟨by decide, fun t ht => absurd ht (Nat.not_lt_zero _)⟩
  obtain ⟨gY, tgY⟩ := pMore_good (n := n) (tp := tp) 7 (pStep n tp ((pLaw n tp).1, [])) (pStep_good pLaw_good) (pStep_tg tg0)
  rw [hY] at gY tgY
  have hz : ∀ v w : Int32, v = w → zTp (zuI (zuI (zuI (zuI I 0 9 v) 64 18 w) 13 1 0) 64 11 0) A := fun v w e => ⟨by rw [zuI_o (by decide), zuI_o (by decide), zuI_o (by decide), zuI_s, zuI_n (by decide), zuI_o (by decide), zuI_s, e], 0, by omega, by rw [zuI_o (by decide), zuI_s]; rfl, by rw [zuI_s]; rfl, fun i hi => absurd hi (Nat.not_lt_zero _)⟩
  have hR : ∀ v w : Int32, v = w → Rel B (zuI (zuI (zuI (zuI I 0 9 v) 64 18 w) 13 1 0) 64 11 0) A := fun v w e => h.tape (fun o k _ a1 a2 a3 a4 => by rw [zuI_at, if_neg a4, zuI_at, if_neg a3, zuI_at, if_neg a2, zuI_at, if_neg a1]) (fun _ _ _ => rfl) (hz v w e)
  by_cases cf : (pAll n tp).1.2 ≠ 0
  · have hcl : pm_call L xs 60 m_Eggs_shop [.ref 0] (zL I A b) = some (some (.int ((-1000100 : Int32) - nI (pAll n tp).1.1)), zL (zuI I1 0 9 (nI (pAll n tp).1.2)) A1 b) := by
      rw [D_Eggs_shop, B_Eggs_shop_0, zr_0_1, zbS, zr_0_3, zbS, x1, zbI]
      dsimp only
      rw [if_neg (nI_ne0 (by omega) (by have := gY.2; omega)), zp_0_9, zbS, zr_0_1, zbS, zg_13_2, zbS, zuI_o (by decide), x3]
    obtain ⟨I2, A2, y1, y2, y3, y4, y5, y6⟩ := m_shopR (L := L) (xs := xs) (I := zuI I1 0 9 (nI (pAll n tp).1.2)) (A := A1) (b := b) hT (by rw [zuI_o (by decide), x5 64 11 (by decide) (by decide)]; exact h11) (fun i hi => by rw [x6 72 (by omega)]; exact (htv i hi).2.2)
    rw [if_pos cf] at y1 y3
    refine ⟨_, _, A1, I2, A2, b, hcl, y1, (hR (nI (pAll n tp).1.2) (nI (pAll n tp).1.2) rfl).same ⟨fun o k hk => ?_, fun q hq => ?_, ?_, ?_⟩⟩
    · rw [zuI_at]
      by_cases q1 : o = 64 ∧ k = 11
      · rw [if_pos q1, q1.1, q1.2, y2]
      · rw [if_neg q1, zuI_at]
        by_cases q2 : o = 13 ∧ k = 1
        · rw [if_pos q2, q2.1, q2.2, y5 13 1 (by decide), zuI_o (by decide), x4]
        · rw [if_neg q2, zuI_at]
          by_cases q3 : o = 64 ∧ k = 18
          · rw [if_pos q3, q3.1, q3.2, y3]
          · have hne : ¬ (o = 64 ∧ (k = 0 ∨ (11 ≤ k ∧ k ≤ 18))) := fun q => by
              obtain ⟨e, q⟩ := q
              subst e
              simp [zKI] at hk
              omega
            have h13 : o ≠ 13 := fun e => by subst e; simp [zKI] at hk; omega
            have h22 : o ≠ 22 := fun e => by subst e; simp [zKI] at hk
            rw [if_neg q3, y5 o k hne, zuI_at, zuI_at, x5 o k h13 h22]
    · have q69 : q ≠ 69 := fun e => by subst e; simp [zKA] at hq
      have q22 : q < 23 ∨ 28 < q := by simp only [zKA, Bool.or_eq_true, Bool.and_eq_true, decide_eq_true_eq, beq_iff_eq] at hq; omega
      rw [y6 q q69, x6 q q22]
    · rw [y6 60 (by decide), x6 60 (by omega)]
    · rw [y6 61 (by decide), x6 61 (by omega)]
  · have c0 : (pAll n tp).1.2 = 0 := by omega
    obtain ⟨G, hG⟩ : ∃ G, G = gN (pLaw n tp).2.1 (pLaw n tp).2.2.1 (pLaw n tp).2.2.2 (pAll n tp).2 := ⟨_, rfl⟩
    rw [← hG] at x2
    have hGI : gI B G := by
      rw [hG]
      exact gN_I (pNm_le (by decide)) (pNm_le (lo := 5) (hi := 60) (by decide)).2 (pNm_le (lo := 1) (hi := 40) (by decide)).2 tgY hB7
    obtain ⟨I2, A2, b1, b2, b3, b4, b5⟩ := c_become (L := L) (xs := xs) (I := I1) (A := A1) (b := b) hc.1 zS22 (by decide) 58
    have hc2 : cR I2 A2 15 G := x2.copy hGI.1 hc.1 b2 b4
    have hcl : pm_call L xs 60 m_Eggs_shop [.ref 0] (zL I A b) = some (some (.int (nI (G 3))), zL (zuI I2 44 5 0) A2 b) := by
      rw [D_Eggs_shop, B_Eggs_shop_0, zr_0_1, zbS, zr_0_3, zbS, x1, zbI]
      dsimp only
      rw [if_pos (by rw [c0]; rfl), zr_0_2, zbS, zr_0_3, zbS, b1, zbV, zr_0_5, zbS, D_Acts_forget, B_Acts_forget_0, zp_44_5, zbS, zbV, zr_0_2, zbS, zg_15_3, zbS, zuI_o (by decide), hc2.2.1.2.2.2.1]
    obtain ⟨I3, A3, y1, y2, y3, y4, y5, y6⟩ := m_shopR (L := L) (xs := xs) (I := zuI I2 44 5 0) (A := A2) (b := b) hT (by rw [zuI_o (by decide), b3 64 (by decide), x5 64 11 (by decide) (by decide)]; exact h11) (fun i hi => by rw [b5 72 (by omega), x6 72 (by omega)]; exact (htv i hi).2.2)
    rw [if_neg cf, m_copy0] at y1
    rw [if_neg cf] at y3
    have hm3 := y4 c0
    rw [← hG] at hm3
    have e3 : A3 69 3 = nI (G 3) := hm3.2 3 (by decide)
    rw [e3] at y1
    obtain ⟨n', o, hs, hHc, -, -, -⟩ := hH.un
    obtain ⟨A4, hA4⟩ : ∃ A4, A4 = zcp A3 68 0 55 (A3 69) := ⟨_, rfl⟩
    rw [← hA4] at y1
    have fA : ∀ q, q ≠ 68 → q ≠ 69 → A4 q = A2 q := fun q q1 q2 => by rw [hA4, zcp_o q1, y6 q q2]
    have hmR : mR A4 68 G := ⟨hm.1, fun j hj => by
      rw [hA4]
      have := zcp_at (A := A3) (q := 68) (p := 0) (n := 55) (f := A3 69) hj
      rw [Nat.zero_add] at this
      rw [this, hm3.2 j hj]⟩
    have fI : ∀ o k, ¬ (o = 64 ∧ (k = 0 ∨ k = 9 ∨ (11 ≤ k ∧ k ≤ 18))) → ¬ (o = 44 ∧ k = 5) → o ≠ 15 → o ≠ 13 → o ≠ 22 → zuI I3 64 9 0 o k = I o k := fun o k q1 q2 q3 q4 q5 => by rw [zuI_at, if_neg (by omega), y5 o k (by omega), zuI_at, if_neg q2, b3 o q3, x5 o k q4 q5]
    have i15 : zuI I3 64 9 0 15 = I2 15 := by
      funext k
      rw [zuI_o (by decide), y5 15 k (by omega), zuI_o (by decide)]
    refine ⟨_, _, A2, zuI I3 64 9 0, A4, b, hcl, y1, (hR (I 0 9) (I 64 18) h9).acted (g' := G) (Nat.le_refl _) (fun o' k hk q1 q2 q3 => ?_) (fun q hq q1 q2 q3 q4 => ?_) ?_ ?_ ⟨hc2.c i15 (fun q _ _ => fA q (by omega) (by omega)), hmR, hGI⟩ (zHs.up (n := 0) (o := o) (hs := fun _ => G) ⟨by omega, hHc.2.1, ?_, ?_, fun j hj => by omega⟩ ⟨by omega, zuI_s, fun j hj => by omega⟩ (fun j hj => by omega) rfl)⟩
    · rw [zuI_at (I := zuI (zuI (zuI I 0 9 (I 0 9)) 64 18 (I 64 18)) 13 1 0)]
      by_cases r1 : o' = 64 ∧ k = 11
      · rw [if_pos r1, r1.1, r1.2, zuI_n (by decide), y2]
      · rw [if_neg r1, zuI_at (I := zuI (zuI I 0 9 (I 0 9)) 64 18 (I 64 18))]
        by_cases r2 : o' = 13 ∧ k = 1
        · rw [if_pos r2, r2.1, r2.2, zuI_o (by decide), y5 13 1 (by decide), zuI_o (by decide), b3 13 (by decide), x4]
        · rw [if_neg r2, zuI_at (I := zuI I 0 9 (I 0 9))]
          by_cases r3 : o' = 64 ∧ k = 18
          · rw [if_pos r3, r3.1, r3.2, zuI_n (by decide), y3, zuI_o (by decide), b3 64 (by decide), x5 64 18 (by decide) (by decide)]
          · rw [if_neg r3, zuI_at (I := I) (o := 0)]
            have h13 : o' ≠ 13 := fun e => by subst e; simp [zKI] at hk; omega
            have h22 : o' ≠ 22 := fun e => by subst e; simp [zKI] at hk
            have hne : ¬ (o' = 64 ∧ (k = 0 ∨ k = 9 ∨ (11 ≤ k ∧ k ≤ 18))) := fun q => by
              obtain ⟨e, q⟩ := q
              subst e
              simp [zKI] at hk
              omega
            rw [fI o' k hne (by omega) q1 h13 h22]
            by_cases r4 : o' = 0 ∧ k = 9
            · rw [if_pos r4, r4.1, r4.2]
            · rw [if_neg r4]
    · have q69 : q ≠ 69 := fun e => by subst e; simp [zKA] at hq
      have q22 : q < 23 ∨ 28 < q := by simp only [zKA, Bool.or_eq_true, Bool.and_eq_true, decide_eq_true_eq, beq_iff_eq] at hq; omega
      rw [fA q q3 q69, b5 q (by omega), x6 q q22]
    · rw [fA 60 (by decide) (by decide), b5 60 (by omega), x6 60 (by omega)]
    · rw [fA 61 (by decide) (by decide), b5 61 (by omega), x6 61 (by omega)]
    · rw [zuI_o (by decide), y5 44 4 (by decide), zuI_n (by decide), b3 44 (by decide), x5 44 4 (by decide) (by decide)]
      exact hHc.2.2.1
    · rw [zuI_o (by decide), y5 44 5 (by decide), zuI_s]
      rfl
end
