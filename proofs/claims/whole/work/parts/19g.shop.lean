section
variable {L : Nat} {xs : Nat → Int32} {n : Nat} {tp : Nat → Nat} {I A : Nat → Nat → Int32} {b : Value} {X9 : Nat}
theorem m_fill0 (i0 : Int32) (h0 : i0 = 0) : zE L xs 59 K_Model_shop 11 [some (.ref 64), some (.int i0)] [] (zL I A b) = zE L xs 59 K_Model_shop 11 [some (.ref 64), some (.int (nI 55))] [] (zL I (zcp A 69 0 55 (fun _ => 0)) b) := by
  subst h0
  rw [zfill (fun i A => zE L xs 59 K_Model_shop 11 [some (.ref 64), some (.int i)] [] (zL I A b)) A 69 0 55 (fun _ => 0) (fun j hj => ?_)]
  rw [B_Model_shop_11, if_neg (show ¬ (55 : Int32) ≤ nI j by rw [zl55]; exact nI_ge hj (by decide)), zr_64_6, zbS, z_wr za_69 hj, zbS, Nat.zero_add]
theorem m_copy0 : zE L xs 59 K_Model_shop 144 [some (.ref 64), some (.int (0 : Int32))] [] (zL I A b) = some (some (.int (A 69 3)), zL I (zcp A 68 0 55 (A 69)) b) := by
  rw [zfill (fun i A => zE L xs 59 K_Model_shop 144 [some (.ref 64), some (.int i)] [] (zL I A b)) A 68 0 55 (A 69) (fun j hj => ?_)]
  · rw [B_Model_shop_144, if_pos (by decide), zr_64_5, zbS, zl3, z_rd za_68 (by decide), zbS]
    have := zcp_at (A := A) (q := 68) (p := 0) (n := 55) (f := A 69) (i := 3) (by decide)
    rw [Nat.zero_add] at this
    rw [this]
  · rw [B_Model_shop_144, if_neg (show ¬ (55 : Int32) ≤ nI j by rw [zl55]; exact nI_ge hj (by decide)), zr_64_5, zbS, zr_64_6, zbS, z_rd za_69 hj, zbS, zcp_o (by decide), z_wr za_68 hj, zbS, Nat.zero_add]
theorem gN_0 (j : Nat) : gN 0 0 0 [] j = 0 := by
  by_cases c : j < 6
  · rcases (show j = 0 ∨ j = 1 ∨ j = 2 ∨ j = 3 ∨ j = 4 ∨ j = 5 by omega) with rfl | rfl | rfl | rfl | rfl | rfl <;> rfl
  · unfold gN
    rw [if_neg (by omega), if_neg (by omega), if_neg (by omega), if_neg (by omega), if_neg (by omega), if_neg (by omega), if_neg (show ¬ (j - 6) / 7 < ([] : zTg).length from Nat.not_lt_zero _)]
theorem gN_law {B H W : Nat} : ∀ j, j < 55 → gu (gu (gu (gN 0 0 0 []) 0 B) 1 H) 2 W j = gN B H W [] j := by
  intro j hj
  by_cases c : j < 6
  · rcases (show j = 0 ∨ j = 1 ∨ j = 2 ∨ j = 3 ∨ j = 4 ∨ j = 5 by omega) with rfl | rfl | rfl | rfl | rfl | rfl <;> rfl
  · rw [gu_n (by omega), gu_n (by omega), gu_n (by omega), gN_0]
    unfold gN
    rw [if_neg (by omega), if_neg (by omega), if_neg (by omega), if_neg (by omega), if_neg (by omega), if_neg (by omega), if_neg (show ¬ (j - 6) / 7 < ([] : zTg).length from Nat.not_lt_zero _)]
def pAll (n : Nat) (tp : Nat → Nat) : zPX := pMore n tp 7 (pStep n tp ((pLaw n tp).1, []))
theorem m_shopR (hT : tGood n tp) (h11 : I 64 11 = nI n) (hA : ∀ i, i < n → A 72 i = nI (tp i)) : ∃ I' A', pm_call L xs 60 m_Model_shop [.ref 64] (zL I A b) = (if (pAll n tp).1.2 ≠ 0 then some (some (.int ((-1000100 : Int32) - nI (pAll n tp).1.1)), zL I' A' b) else zE L xs 59 K_Model_shop 144 [some (.ref 64), some (.int (0 : Int32))] [] (zL (zuI I' 64 9 0) A' b)) ∧ I' 64 11 = 0 ∧ I' 64 18 = (if (pAll n tp).1.2 ≠ 0 then nI (pAll n tp).1.2 else I 64 18) ∧ ((pAll n tp).1.2 = 0 → mR A' 69 (gN (pLaw n tp).2.1 (pLaw n tp).2.2.1 (pLaw n tp).2.2.2 (pAll n tp).2)) ∧ (∀ o k, ¬ (o = 64 ∧ (k = 0 ∨ (11 ≤ k ∧ k ≤ 18))) → I' o k = I o k) ∧ ∀ q, q ≠ 69 → A' q = A q := by
  have hn := hT.1
  obtain ⟨I0, hI0⟩ : ∃ I0, I0 = zuI (zuI (zuI I 64 0 0) 64 12 0) 64 16 0 := ⟨_, rfl⟩
  have f0 : ∀ o k, ¬ (o = 64 ∧ (k = 0 ∨ (11 ≤ k ∧ k ≤ 18))) → I0 o k = I o k := fun o k hk => by rw [hI0, zuI_at, if_neg (by omega), zuI_at, if_neg (by omega), zuI_at, if_neg (by omega)]
  have k18 : I0 64 18 = I 64 18 := by rw [hI0, zuI_n (by decide), zuI_n (by decide), zuI_n (by decide)]
  obtain ⟨I1, x1, x2, x3⟩ := m_next (L := L) (xs := xs) (b := b) (P := 0) hT hA (show I0 64 11 = nI n by rw [hI0, zuI_n (by decide), zuI_n (by decide), zuI_n (by decide)]; exact h11) (by rw [hI0, zuI_n (by decide), zuI_s]; rfl) (Nat.zero_le _) (by rw [hI0, zuI_s]) 56
  rw [D_Model_shop, B_Model_shop_0, zp_64_0, zbS, D_Model_begin, B_Model_begin_0, zp_64_12, zbS, zp_64_16, zbS, ← hI0, x1, zbV, zbV, m_fill0 0 rfl]
  have m0 : mR (zcp A 69 0 55 (fun _ => 0)) 69 (gN 0 0 0 []) := ⟨Or.inr (Or.inl rfl), fun j hj => by
    have := zcp_at (A := A) (q := 69) (p := 0) (n := 55) (f := fun _ => (0 : Int32)) hj
    rw [Nat.zero_add] at this
    rw [this, gN_0]
    rfl⟩
  obtain ⟨A0, hA0⟩ : ∃ A0, A0 = zcp A 69 0 55 (fun _ => 0) := ⟨_, rfl⟩
  have fA0 : ∀ q, q ≠ 69 → A0 q = A q := fun q hq => by rw [hA0, zcp_o hq]
  rw [← hA0] at m0 ⊢
  have t1 : mT n tp (0, 0) I1 A0 := x2.same (fun _ _ _ => rfl) (fA0 72 (by decide))
  have g0 : sGood n (0, 0) := ⟨Nat.zero_le _, by show (0 : Nat) ≤ 3; omega⟩
  obtain ⟨x, I2, y0, y1, y2, y3⟩ := m_mustE (L := L) (xs := xs) (b := b) hT g0 t1 rfl 56
  have g1 := pSg_good (tp := tp) (c := 101) g0
  obtain ⟨I3, z1, z2, z3⟩ := m_number (L := L) (xs := xs) (b := b) hT g1 y2 (lo := 1) (hi := 3) (by decide) (by decide) zl1 zl3 55
  have g2 := pNm_good (tp := tp) (lo := 1) (hi := 3) g1
  obtain ⟨Bb, hBb⟩ : ∃ x, x = (pNm n tp 1 3 (pSg n tp 101 (0, 0))).2 := ⟨_, rfl⟩
  have m1 := m0.set 0 Bb
  obtain ⟨A1, hA1⟩ : ∃ A1, A1 = zuA A0 69 0 (nI Bb) := ⟨_, rfl⟩
  rw [← hA1] at m1
  have fA1 : ∀ q, q ≠ 69 → A1 q = A q := fun q hq => by rw [hA1, zuA_o hq, fA0 q hq]
  obtain ⟨I4, u1, u2, u3⟩ := m_mustSign (L := L) (xs := xs) (b := b) hT g2 (z2.same (A' := A1) (fun _ _ _ => rfl) ((fA1 72 (by decide)).trans (fA0 72 (by decide)).symm)) (c := 44) (by omega) (v := 44) (by decide) 55
  have g3 := pSg_good (tp := tp) (c := 44) g2
  obtain ⟨I5, v1, v2, v3⟩ := m_number (L := L) (xs := xs) (b := b) hT g3 u2 (lo := 5) (hi := 60) (by decide) (by decide) zl5 zl60 55
  have g4 := pNm_good (tp := tp) (lo := 5) (hi := 60) g3
  obtain ⟨Hh, hHh⟩ : ∃ x, x = (pNm n tp 5 60 (pSg n tp 44 (pNm n tp 1 3 (pSg n tp 101 (0, 0))).1)).2 := ⟨_, rfl⟩
  have m2 := m1.set 1 Hh
  obtain ⟨A2, hA2⟩ : ∃ A2, A2 = zuA A1 69 1 (nI Hh) := ⟨_, rfl⟩
  rw [← hA2] at m2
  have fA2 : ∀ q, q ≠ 69 → A2 q = A q := fun q hq => by rw [hA2, zuA_o hq, fA1 q hq]
  obtain ⟨I6, w1, w2, w3⟩ := m_mustSign (L := L) (xs := xs) (b := b) hT g4 (v2.same (A' := A2) (fun _ _ _ => rfl) ((fA2 72 (by decide)).trans (fA1 72 (by decide)).symm)) (c := 44) (by omega) (v := 44) (by decide) 55
  have g5 := pSg_good (tp := tp) (c := 44) g4
  obtain ⟨I7, p1, p2, p3⟩ := m_number (L := L) (xs := xs) (b := b) hT g5 w2 (lo := 1) (hi := 40) (by decide) (by decide) zl1 zl40 55
  have g6 := pNm_good (tp := tp) (lo := 1) (hi := 40) g5
  obtain ⟨Ww, hWw⟩ : ∃ x, x = (pNm n tp 1 40 (pSg n tp 44 (pNm n tp 5 60 (pSg n tp 44 (pNm n tp 1 3 (pSg n tp 101 (0, 0))).1)).1)).2 := ⟨_, rfl⟩
  have m3 := m2.set 2 Ww
  obtain ⟨A3, hA3⟩ : ∃ A3, A3 = zuA A2 69 2 (nI Ww) := ⟨_, rfl⟩
  rw [← hA3] at m3
  have fA3 : ∀ q, q ≠ 69 → A3 q = A q := fun q hq => by rw [hA3, zuA_o hq, fA2 q hq]
  obtain ⟨I8, q1, q2, q3⟩ := m_mustSign (L := L) (xs := xs) (b := b) hT g6 (p2.same (A' := A3) (fun _ _ _ => rfl) ((fA3 72 (by decide)).trans (fA2 72 (by decide)).symm)) (c := 59) (by omega) (v := 59) (by decide) 55
  have m4 : mR A3 69 (gN (pLaw n tp).2.1 (pLaw n tp).2.2.1 (pLaw n tp).2.2.2 []) := by
    have := m3.ext (g' := gN Bb Hh Ww []) gN_law
    rw [hBb, hHh, hWw] at this
    exact this
  have tL : mT n tp (pLaw n tp).1 I8 A3 := q2
  have gL := pLaw_good (n := n) (tp := tp)
  have fI : fM I0 I8 := ((((((((x3.trans y3).trans z3).trans u3).trans v3).trans w3).trans p3).trans q3))
  rw [B_Model_shop_11, if_pos (by decide), y0, zbI]
  dsimp only
  rw [y1, zbV, zr_64_6, zbS, z1, zbI]
  dsimp only
  rw [← hBb, show (0 : Int32) = nI 0 from rfl, z_wr za_69 (by decide), zbS, ← hA1, u1, zbV, zr_64_6, zbS, v1, zbI]
  dsimp only
  rw [← hHh, zl1, z_wr za_69 (by decide), zbS, ← hA2, w1, zbV, zr_64_6, zbS, ← zl1, p1, zbI]
  dsimp only
  rw [← hWw, zl2, z_wr za_69 (by decide), zbS, ← hA3, q1, zbV]
  obtain ⟨sy, sn⟩ := m_isSort (L := L) (xs := xs) (b := b) hT gL tL 57
  have tg0 : tgOK [] := ⟨by decide, fun t ht => absurd ht (Nat.not_lt_zero _)⟩
  have fin : ∀ (s : Nat × Nat) (I9 : Nat → Nat → Int32), sGood n s → mT n tp s I9 A3 → fM I8 I9 → pMore n tp 8 (s, []) = pAll n tp → ∃ I' A', zE L xs 59 K_Model_shop 108 [some (.ref 64), some (.int (nI 55))] [] (zL I9 A3 b) = (if (pAll n tp).1.2 ≠ 0 then some (some (.int ((-1000100 : Int32) - nI (pAll n tp).1.1)), zL I' A' b) else zE L xs 59 K_Model_shop 144 [some (.ref 64), some (.int (nI 0))] [] (zL (zuI I' 64 9 (nI 0)) A' b)) ∧ I' 64 11 = nI 0 ∧ I' 64 18 = (if (pAll n tp).1.2 ≠ 0 then nI (pAll n tp).1.2 else I 64 18) ∧ ((pAll n tp).1.2 = 0 → mR A' 69 (gN (pLaw n tp).2.1 (pLaw n tp).2.2.1 (pLaw n tp).2.2.2 (pAll n tp).2)) ∧ (∀ o k, ¬ (o = 64 ∧ (k = 0 ∨ (11 ≤ k ∧ k ≤ 18))) → I' o k = I o k) ∧ ∀ q, q ≠ 69 → A' q = A q := by
    intro s I9 gs ts ff ep
    obtain ⟨I', A', e1, e2, e3, e4, e5, e6⟩ := m_loopS (L := L) (xs := xs) (b := b) hT (nI 55) 8 (s, []) I9 A3 gs tg0 (by show 8 ≤ 0 + 8; omega) ts m4
    rw [ep] at e1 e3 e4
    refine ⟨I', A', e1, e2, ?_, e4, fun o k hk => by rw [e5 o k (by omega), ff o k (by omega), fI o k (by omega), f0 o k hk], fun q hq => by rw [e6 q hq, fA3 q hq]⟩
    rw [e3, ff 64 18 (by omega), fI 64 18 (by omega), k18]
  by_cases hi : isS n tp (pLaw n tp).1
  · rw [sy hi, zbI]
    dsimp only
    rw [if_pos (show ¬ (1 : Int32) = nI 0 by decide)]
    refine fin _ _ gL tL fM.refl ?_
    show (if (pLaw n tp).1.2 ≠ 0 ∨ n ≤ (pLaw n tp).1.1 then _ else pMore n tp 7 (pStep n tp ((pLaw n tp).1, []))) = _
    have := hi.1
    have := hi.2.1
    rw [if_neg (by omega)]
    rfl
  · rw [sn hi, zbI]
    dsimp only
    rw [if_neg (fun q => q rfl)]
    obtain ⟨I9, b1, b2, b3⟩ := m_bad (L := L) (xs := xs) (b := b) gL tL (k := 1) (by omega) zl1 58
    rw [b1, zbV]
    have hst : pAll n tp = ((if (pLaw n tp).1.2 ≠ 0 then (pLaw n tp).1 else ((pLaw n tp).1.1, 1)), []) ∧ (if (pLaw n tp).1.2 ≠ 0 then (pLaw n tp).1 else ((pLaw n tp).1.1, 1)).2 ≠ 0 := by
      by_cases c1 : (pLaw n tp).1.2 ≠ 0
      · have e1 : pSo n tp 0 (pLaw n tp).1 = ((pLaw n tp).1, 0) := by unfold pSo; rw [if_pos c1]
        have e2 : (pTh n tp 0 (pLaw n tp).1).1 = (pLaw n tp).1 := by rw [pTh_f (by rw [e1]; exact c1), e1]
        have e3 : pStep n tp ((pLaw n tp).1, []) = ((pLaw n tp).1, []) := by
          unfold pStep
          show (if (pTh n tp 0 (pLaw n tp).1).1.2 ≠ 0 then ((pTh n tp 0 (pLaw n tp).1).1, []) else _) = _
          rw [if_pos (by rw [e2]; exact c1), e2]
        rw [if_pos c1]
        refine ⟨?_, c1⟩
        unfold pAll
        rw [e3, pMore_f 7 _ c1]
      · have e1 : pSo n tp 0 (pLaw n tp).1 = (((pLaw n tp).1.1, 1), 0) := by
          unfold pSo
          rw [if_neg c1, if_neg (fun q => hi ⟨by omega, q.1, q.2⟩)]
        have e2 : (pTh n tp 0 (pLaw n tp).1).1 = ((pLaw n tp).1.1, 1) := by rw [pTh_f (by rw [e1]; show ¬ (1 : Nat) = 0; decide), e1]
        have e3 : pStep n tp ((pLaw n tp).1, []) = (((pLaw n tp).1.1, 1), []) := by
          unfold pStep
          show (if (pTh n tp 0 (pLaw n tp).1).1.2 ≠ 0 then ((pTh n tp 0 (pLaw n tp).1).1, []) else _) = _
          rw [if_pos (by rw [e2]; show ¬ (1 : Nat) = 0; decide), e2]
        rw [if_neg c1]
        refine ⟨?_, by show ¬ (1 : Nat) = 0; decide⟩
        unfold pAll
        rw [e3, pMore_f 7 _ (by show ¬ (1 : Nat) = 0; decide)]
    refine fin _ I9 ?_ b2 b3 ?_
    · split
      · exact gL
      · exact ⟨gL.1, by show (1 : Nat) ≤ 3; omega⟩
    · exact (pMore_f 8 ((if (pLaw n tp).1.2 ≠ 0 then (pLaw n tp).1 else ((pLaw n tp).1.1, 1)), []) hst.2).trans hst.1.symm
end
