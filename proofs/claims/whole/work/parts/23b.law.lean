/-! the law: one call of it -/
section
variable {L : Nat} {xs : Nat → Int32} {B : Nat} {I A : Nat → Nat → Int32} {b : Value}
theorem l_ro {j q : Nat} {v : Int32} (hv : v = nI q) (hL : L ≤ 3072) (h : j + q < L) : pm_ro (pm_od L xs) 0 (nI j + v) = some (xs (j + q)) := by
  rw [hv, nI_add]
  show (if ¬ (nI (j + q) < 0 ∨ L ≤ (nI (j + q)).toNatClampNeg) then some (xs (nI (j + q)).toNatClampNeg) else none) = _
  rw [if_pos (nI_in h (by omega)), nI_clamp (by omega)]
theorem l_cmp (x : Int64) : lg_cmp x x = 0 := by
  have h1 := (lg_cmp_gt (x := x) (y := x)).mp
  have h2 : ¬ x < x := fun q => by rw [fa_lt64] at q; omega
  unfold lg_cmp
  simp [h2]
/-- the law goes on behind a call, and all holds as before -/
def lQ2 (L : Nat) (xs : Nat → Int32) (B j : Nat) (r : Option pm_R) : Prop := ∃ (I' A' : Nat → Nat → Int32) (b' : Value), Rel B I' A' ∧ r = zE L xs 60 K_law 1272 [some (.retAddr 0), some (.ref 0), some (.ref 64), some (.int (nI j))] [] (zL I' A' b')
theorem S_law_204 {j : Nat} (h : Rel B I A) (h7 : 7 ≤ B) (h20 : B + 120 < 2 ^ 20) (hL : L ≤ 3072) (hj : j + 6 ≤ L) : lQ2 L xs (B + 24) j (zE L xs 60 K_law 204 [some (.retAddr 0), some (.ref 0), some (.ref 64), some (.int (nI j))] [] (zL I A b)) := by
  obtain ⟨r, I1, A1, I2, A2, b1, h1, h2, h3⟩ := P_row (L := L) (xs := xs) (b := b) h (xs (j + 1)) (xs (j + 2)) (xs (j + 3))
  refine ⟨I2, A2, b1, h3.mono (by omega), ?_⟩
  rw [B_law_204, l_ro (q := 1) zl1 hL (by omega), zbS, l_ro (q := 2) zl2 hL (by omega), zbS, l_ro (q := 3) zl3 hL (by omega), zbS, h1, zbI]
  dsimp only
  rw [zbS, zbS, zbS, h2, zbI]
  dsimp only
  rw [if_pos rfl]
theorem S_law_247 {j : Nat} (h : Rel B I A) (h7 : 7 ≤ B) (h20 : B + 120 < 2 ^ 20) (hL : L ≤ 3072) (hj : j + 6 ≤ L) : lQ2 L xs (B + 24) j (zE L xs 60 K_law 247 [some (.retAddr 0), some (.ref 0), some (.ref 64), some (.int (nI j))] [] (zL I A b)) := by
  obtain ⟨r, I1, A1, I2, A2, b1, h1, h2, h3⟩ := P_set (L := L) (xs := xs) (b := b) h (xs (j + 1)) (xs (j + 2)) (xs (j + 3))
  refine ⟨I2, A2, b1, h3.mono (by omega), ?_⟩
  rw [B_law_247, l_ro (q := 1) zl1 hL (by omega), zbS, l_ro (q := 2) zl2 hL (by omega), zbS, l_ro (q := 3) zl3 hL (by omega), zbS, h1, zbI]
  dsimp only
  rw [zbS, zbS, zbS, h2, zbI]
  dsimp only
  rw [if_pos rfl]
theorem S_law_290 {j : Nat} (h : Rel B I A) (h7 : 7 ≤ B) (h20 : B + 120 < 2 ^ 20) (hL : L ≤ 3072) (hj : j + 6 ≤ L) : lQ2 L xs (B + 24) j (zE L xs 60 K_law 290 [some (.retAddr 0), some (.ref 0), some (.ref 64), some (.int (nI j))] [] (zL I A b)) := by
  obtain ⟨r, I1, A1, I2, A2, b1, h1, h2, h3⟩ := P_copy (L := L) (xs := xs) (b := b) h (xs (j + 1)) (xs (j + 2)) (xs (j + 3)) (xs (j + 4)) (xs (j + 5))
  refine ⟨I2, A2, b1, h3.mono (by omega), ?_⟩
  rw [B_law_290, l_ro (q := 1) zl1 hL (by omega), zbS, l_ro (q := 2) zl2 hL (by omega), zbS, l_ro (q := 3) zl3 hL (by omega), zbS, l_ro (q := 4) zl4 hL (by omega), zbS, l_ro (q := 5) zl5 hL (by omega), zbS, h1, zbI]
  dsimp only
  rw [zbS, zbS, zbS, zbS, zbS, h2, zbI]
  dsimp only
  rw [if_pos rfl]
theorem S_law_353 {j : Nat} (h : Rel B I A) (h7 : 7 ≤ B) (h20 : B + 120 < 2 ^ 20) (hL : L ≤ 3072) (hj : j + 6 ≤ L) : lQ2 L xs (B + 24) j (zE L xs 60 K_law 353 [some (.retAddr 0), some (.ref 0), some (.ref 64), some (.int (nI j))] [] (zL I A b)) := by
  obtain ⟨r, I1, A1, I2, A2, b1, h1, h2, h3⟩ := P_drop (L := L) (xs := xs) (b := b) h (xs (j + 1))
  refine ⟨I2, A2, b1, h3.mono (by omega), ?_⟩
  rw [B_law_353, l_ro (q := 1) zl1 hL (by omega), zbS, h1, zbI]
  dsimp only
  rw [zbS, h2, zbI]
  dsimp only
  rw [if_pos rfl]
theorem S_law_376 {j : Nat} (h : Rel B I A) (h7 : 7 ≤ B) (h20 : B + 120 < 2 ^ 20) (hL : L ≤ 3072) (hj : j + 6 ≤ L) : lQ2 L xs (B + 24) j (zE L xs 60 K_law 376 [some (.retAddr 0), some (.ref 0), some (.ref 64), some (.int (nI j))] [] (zL I A b)) := by
  obtain ⟨r, I1, A1, I2, A2, b1, h1, h2, h3⟩ := P_feed (L := L) (xs := xs) (b := b) h (xs (j + 1))
  refine ⟨I2, A2, b1, h3.mono (by omega), ?_⟩
  rw [B_law_376, l_ro (q := 1) zl1 hL (by omega), zbS, h1, zbI]
  dsimp only
  rw [zbS, h2, zbI]
  dsimp only
  rw [if_pos rfl]
theorem S_law_399 {j : Nat} (h : Rel B I A) (h7 : 7 ≤ B) (h20 : B + 120 < 2 ^ 20) (hL : L ≤ 3072) (hj : j + 6 ≤ L) : lQ2 L xs (B + 24) j (zE L xs 60 K_law 399 [some (.retAddr 0), some (.ref 0), some (.ref 64), some (.int (nI j))] [] (zL I A b)) := by
  obtain ⟨r, I1, A1, I2, A2, b1, h1, h2, h3⟩ := P_shop (L := L) (xs := xs) (b := b) h h7
  refine ⟨I2, A2, b1, h3.mono (by omega), ?_⟩
  rw [B_law_399, h1, zbI]
  dsimp only
  rw [h2, zbI]
  dsimp only
  rw [if_pos rfl]
theorem S_law_412 {j : Nat} (h : Rel B I A) (h7 : 7 ≤ B) (h20 : B + 120 < 2 ^ 20) (hL : L ≤ 3072) (hj : j + 6 ≤ L) : lQ2 L xs (B + 24) j (zE L xs 60 K_law 412 [some (.retAddr 0), some (.ref 0), some (.ref 64), some (.int (nI j))] [] (zL I A b)) := by
  obtain ⟨r, I1, A1, I2, A2, b1, h1, h2, h3⟩ := P_fault (L := L) (xs := xs) (b := b) h
  refine ⟨I2, A2, b1, h3.mono (by omega), ?_⟩
  rw [B_law_412, h1, zbI]
  dsimp only
  rw [h2, zbI]
  dsimp only
  rw [if_pos rfl]
theorem S_law_425 {j : Nat} (h : Rel B I A) (h7 : 7 ≤ B) (h20 : B + 120 < 2 ^ 20) (hL : L ≤ 3072) (hj : j + 6 ≤ L) : lQ2 L xs (B + 24) j (zE L xs 60 K_law 425 [some (.retAddr 0), some (.ref 0), some (.ref 64), some (.int (nI j))] [] (zL I A b)) := by
  obtain ⟨r, I1, A1, I2, A2, b1, h1, h2, h3⟩ := P_undo (L := L) (xs := xs) (b := b) h
  refine ⟨I2, A2, b1, h3.mono (by omega), ?_⟩
  rw [B_law_425, h1, zbI]
  dsimp only
  rw [h2, zbI]
  dsimp only
  rw [if_pos rfl]
theorem S_law_438 {j : Nat} (h : Rel B I A) (h7 : 7 ≤ B) (h20 : B + 120 < 2 ^ 20) (hL : L ≤ 3072) (hj : j + 6 ≤ L) : lQ2 L xs (B + 24) j (zE L xs 60 K_law 438 [some (.retAddr 0), some (.ref 0), some (.ref 64), some (.int (nI j))] [] (zL I A b)) := by
  obtain ⟨r, I1, A1, I2, A2, b1, h1, h2, h3⟩ := P_beeps (L := L) (xs := xs) (b := b) h (by omega) (xs (j + 1))
  refine ⟨I2, A2, b1, h3.mono (by omega), ?_⟩
  rw [B_law_438, l_ro (q := 1) zl1 hL (by omega), zbS, h1, zbI]
  dsimp only
  rw [zbS, h2, zbI]
  dsimp only
  rw [if_pos rfl]
theorem S_law_461 {j : Nat} (h : Rel B I A) (h7 : 7 ≤ B) (h20 : B + 120 < 2 ^ 20) (hL : L ≤ 3072) (hj : j + 6 ≤ L) : lQ2 L xs (B + 24) j (zE L xs 60 K_law 461 [some (.retAddr 0), some (.ref 0), some (.ref 64), some (.int (nI j))] [] (zL I A b)) := by
  obtain ⟨r, I1, A1, I2, A2, b1, h1, h2, h3⟩ := P_pack (L := L) (xs := xs) (b := b) h (by omega) (xs (j + 1))
  refine ⟨I2, A2, b1, h3.mono (by omega), ?_⟩
  rw [B_law_461, l_ro (q := 1) zl1 hL (by omega), zbS, h1, zbI]
  dsimp only
  rw [zbS, h2, zbI]
  dsimp only
  rw [if_pos rfl]
theorem S_law_484 {j : Nat} (h : Rel B I A) (h7 : 7 ≤ B) (h20 : B + 120 < 2 ^ 20) (hL : L ≤ 3072) (hj : j + 6 ≤ L) : lQ2 L xs (B + 24) j (zE L xs 60 K_law 484 [some (.retAddr 0), some (.ref 0), some (.ref 64), some (.int (nI j))] [] (zL I A b)) := by
  obtain ⟨r, I1, A1, I2, A2, b1, h1, h2, h3⟩ := P_layBy (L := L) (xs := xs) (b := b) h (by omega)
  refine ⟨I2, A2, b1, h3.mono (by omega), ?_⟩
  rw [B_law_484, h1, zbI]
  dsimp only
  rw [h2, zbI]
  dsimp only
  rw [if_pos rfl]
theorem S_law_497 {j : Nat} (h : Rel B I A) (h7 : 7 ≤ B) (h20 : B + 120 < 2 ^ 20) (hL : L ≤ 3072) (hj : j + 6 ≤ L) : lQ2 L xs (B + 24) j (zE L xs 60 K_law 497 [some (.retAddr 0), some (.ref 0), some (.ref 64), some (.int (nI j))] [] (zL I A b)) := by
  obtain ⟨r, I1, A1, I2, A2, b1, h1, h2, h3⟩ := P_putIn (L := L) (xs := xs) (b := b) h (by omega) (xs (j + 1)) (xs (j + 2))
  refine ⟨I2, A2, b1, h3.mono (by omega), ?_⟩
  rw [B_law_497, l_ro (q := 1) zl1 hL (by omega), zbS, l_ro (q := 2) zl2 hL (by omega), zbS, h1, zbI]
  dsimp only
  rw [zbS, zbS, h2, zbI]
  dsimp only
  rw [if_pos rfl]
theorem S_law_530 {j : Nat} (h : Rel B I A) (h7 : 7 ≤ B) (h20 : B + 120 < 2 ^ 20) (hL : L ≤ 3072) (hj : j + 6 ≤ L) : lQ2 L xs (B + 24) j (zE L xs 60 K_law 530 [some (.retAddr 0), some (.ref 0), some (.ref 64), some (.int (nI j))] [] (zL I A b)) := by
  obtain ⟨r, I1, A1, I2, A2, b1, h1, h2, h3⟩ := P_takeOut (L := L) (xs := xs) (b := b) h (by omega) (xs (j + 1))
  refine ⟨I2, A2, b1, h3.mono (by omega), ?_⟩
  rw [B_law_530, l_ro (q := 1) zl1 hL (by omega), zbS, h1, zbI]
  dsimp only
  rw [zbS, h2, zbI]
  dsimp only
  rw [if_pos rfl]
theorem S_law_553 {j : Nat} (h : Rel B I A) (h7 : 7 ≤ B) (h20 : B + 120 < 2 ^ 20) (hL : L ≤ 3072) (hj : j + 6 ≤ L) : lQ2 L xs (B + 24) j (zE L xs 60 K_law 553 [some (.retAddr 0), some (.ref 0), some (.ref 64), some (.int (nI j))] [] (zL I A b)) := by
  obtain ⟨r, I1, A1, I2, A2, b1, h1, h2, h3⟩ := P_swap (L := L) (xs := xs) (b := b) h (by omega)
  refine ⟨I2, A2, b1, h3.mono (by omega), ?_⟩
  rw [B_law_553, h1, zbI]
  dsimp only
  rw [h2, zbI]
  dsimp only
  rw [if_pos rfl]
theorem S_law_566 {j : Nat} (h : Rel B I A) (h7 : 7 ≤ B) (h20 : B + 120 < 2 ^ 20) (hL : L ≤ 3072) (hj : j + 6 ≤ L) : lQ2 L xs (B + 24) j (zE L xs 60 K_law 566 [some (.retAddr 0), some (.ref 0), some (.ref 64), some (.int (nI j))] [] (zL I A b)) := by
  obtain ⟨r, I1, A1, I2, A2, b1, h1, h2, h3⟩ := P_thing (L := L) (xs := xs) (b := b) h (xs (j + 1)) (xs (j + 2))
  refine ⟨I2, A2, b1, h3.mono (by omega), ?_⟩
  rw [B_law_566, l_ro (q := 1) zl1 hL (by omega), zbS, l_ro (q := 2) zl2 hL (by omega), zbS, h1, zbI]
  dsimp only
  rw [zbS, zbS, h2, zbI]
  dsimp only
  rw [if_pos rfl]
theorem S_law_599 {j : Nat} (h : Rel B I A) (h7 : 7 ≤ B) (h20 : B + 120 < 2 ^ 20) (hL : L ≤ 3072) (hj : j + 6 ≤ L) : lQ2 L xs (B + 24) j (zE L xs 60 K_law 599 [some (.retAddr 0), some (.ref 0), some (.ref 64), some (.int (nI j))] [] (zL I A b)) := by
  obtain ⟨r, I1, A1, I2, A2, b1, h1, h2, h3⟩ := P_bag (L := L) (xs := xs) (b := b) h (xs (j + 1)) (xs (j + 2))
  refine ⟨I2, A2, b1, h3.mono (by omega), ?_⟩
  rw [B_law_599, l_ro (q := 1) zl1 hL (by omega), zbS, l_ro (q := 2) zl2 hL (by omega), zbS, h1, zbI]
  dsimp only
  rw [zbS, zbS, h2, zbI]
  dsimp only
  rw [if_pos rfl]
theorem S_law_632 {j : Nat} (h : Rel B I A) (h7 : 7 ≤ B) (h20 : B + 120 < 2 ^ 20) (hL : L ≤ 3072) (hj : j + 6 ≤ L) : lQ2 L xs (B + 24) j (zE L xs 60 K_law 632 [some (.retAddr 0), some (.ref 0), some (.ref 64), some (.int (nI j))] [] (zL I A b)) := by
  obtain ⟨r, I1, A1, I2, A2, b1, h1, h2, h3⟩ := P_stand (L := L) (xs := xs) (b := b) h (xs (j + 1))
  refine ⟨I2, A2, b1, h3.mono (by omega), ?_⟩
  rw [B_law_632, l_ro (q := 1) zl1 hL (by omega), zbS, h1, zbI]
  dsimp only
  rw [zbS, h2, zbI]
  dsimp only
  rw [if_pos rfl]
theorem S_law_655 {j : Nat} (h : Rel B I A) (h7 : 7 ≤ B) (h20 : B + 120 < 2 ^ 20) (hL : L ≤ 3072) (hj : j + 6 ≤ L) : lQ2 L xs (B + 24) j (zE L xs 60 K_law 655 [some (.retAddr 0), some (.ref 0), some (.ref 64), some (.int (nI j))] [] (zL I A b)) := by
  obtain ⟨r, I1, A1, I2, A2, b1, h1, h2, h3⟩ := P_least (L := L) (xs := xs) (b := b) h (by omega) (xs (j + 1))
  refine ⟨I2, A2, b1, h3.mono (by omega), ?_⟩
  rw [B_law_655, l_ro (q := 1) zl1 hL (by omega), zbS, h1, zbI]
  dsimp only
  rw [zbS, h2, zbI]
  dsimp only
  rw [if_pos rfl]
theorem S_law_678 {j : Nat} (h : Rel B I A) (h7 : 7 ≤ B) (h20 : B + 120 < 2 ^ 20) (hL : L ≤ 3072) (hj : j + 6 ≤ L) : lQ2 L xs (B + 24) j (zE L xs 60 K_law 678 [some (.retAddr 0), some (.ref 0), some (.ref 64), some (.int (nI j))] [] (zL I A b)) := by
  obtain ⟨r, I1, A1, I2, A2, b1, h1, h2, h3⟩ := P_torn (L := L) (xs := xs) (b := b) h (by omega)
  refine ⟨I2, A2, b1, h3.mono (by omega), ?_⟩
  rw [B_law_678, h1, zbI]
  dsimp only
  rw [h2, zbI]
  dsimp only
  rw [if_pos rfl]
theorem S_law_691 {j : Nat} (h : Rel B I A) (h7 : 7 ≤ B) (h20 : B + 120 < 2 ^ 20) (hL : L ≤ 3072) (hj : j + 6 ≤ L) : lQ2 L xs (B + 24) j (zE L xs 60 K_law 691 [some (.retAddr 0), some (.ref 0), some (.ref 64), some (.int (nI j))] [] (zL I A b)) := by
  obtain ⟨r, I1, A1, I2, A2, b1, h1, h2, h3⟩ := P_give (L := L) (xs := xs) (b := b) h (by omega) (xs (j + 1))
  refine ⟨I2, A2, b1, h3.mono (by omega), ?_⟩
  rw [B_law_691, l_ro (q := 1) zl1 hL (by omega), zbS, h1, zbI]
  dsimp only
  rw [zbS, h2, zbI]
  dsimp only
  rw [if_pos rfl]
theorem S_law_714 {j : Nat} (h : Rel B I A) (h7 : 7 ≤ B) (h20 : B + 120 < 2 ^ 20) (hL : L ≤ 3072) (hj : j + 6 ≤ L) : lQ2 L xs (B + 24) j (zE L xs 60 K_law 714 [some (.retAddr 0), some (.ref 0), some (.ref 64), some (.int (nI j))] [] (zL I A b)) := by
  obtain ⟨r, I1, A1, I2, A2, b1, h1, h2, h3⟩ := P_order (L := L) (xs := xs) (b := b) h (by omega) (xs (j + 1)) (xs (j + 2))
  refine ⟨I2, A2, b1, h3.mono (by omega), ?_⟩
  rw [B_law_714, l_ro (q := 1) zl1 hL (by omega), zbS, l_ro (q := 2) zl2 hL (by omega), zbS, h1, zbI]
  dsimp only
  rw [zbS, zbS, h2, zbI]
  dsimp only
  rw [if_pos rfl]
theorem S_law_747 {j : Nat} (h : Rel B I A) (h7 : 7 ≤ B) (h20 : B + 120 < 2 ^ 20) (hL : L ≤ 3072) (hj : j + 6 ≤ L) : lQ2 L xs (B + 24) j (zE L xs 60 K_law 747 [some (.retAddr 0), some (.ref 0), some (.ref 64), some (.int (nI j))] [] (zL I A b)) := by
  obtain ⟨r, I1, A1, I2, A2, b1, h1, h2, h3⟩ := P_top (L := L) (xs := xs) (b := b) h (by omega) (xs (j + 1))
  refine ⟨I2, A2, b1, h3.mono (by omega), ?_⟩
  rw [B_law_747, l_ro (q := 1) zl1 hL (by omega), zbS, h1, zbI]
  dsimp only
  rw [zbS, h2, zbI]
  dsimp only
  rw [if_pos rfl]
theorem S_law_770 {j : Nat} (h : Rel B I A) (h7 : 7 ≤ B) (h20 : B + 120 < 2 ^ 20) (hL : L ≤ 3072) (hj : j + 6 ≤ L) : lQ2 L xs (B + 24) j (zE L xs 60 K_law 770 [some (.retAddr 0), some (.ref 0), some (.ref 64), some (.int (nI j))] [] (zL I A b)) := by
  obtain ⟨r, I1, A1, I2, A2, b1, h1, h2, h3⟩ := P_spare (L := L) (xs := xs) (b := b) h (xs (j + 1))
  refine ⟨I2, A2, b1, h3.mono (by omega), ?_⟩
  rw [B_law_770, l_ro (q := 1) zl1 hL (by omega), zbS, h1, zbI]
  dsimp only
  rw [zbS, h2, zbI]
  dsimp only
  rw [if_pos rfl]
theorem S_law_793 {j : Nat} (h : Rel B I A) (h7 : 7 ≤ B) (h20 : B + 120 < 2 ^ 20) (hL : L ≤ 3072) (hj : j + 6 ≤ L) : lQ2 L xs (B + 24) j (zE L xs 60 K_law 793 [some (.retAddr 0), some (.ref 0), some (.ref 64), some (.int (nI j))] [] (zL I A b)) := by
  obtain ⟨r, I1, A1, I2, A2, b1, h1, h2, h3⟩ := P_beside (L := L) (xs := xs) (b := b) h (xs (j + 1)) (xs (j + 2))
  refine ⟨I2, A2, b1, h3.mono (by omega), ?_⟩
  rw [B_law_793, l_ro (q := 1) zl1 hL (by omega), zbS, l_ro (q := 2) zl2 hL (by omega), zbS, h1, zbI]
  dsimp only
  rw [zbS, zbS, h2, zbI]
  dsimp only
  rw [if_pos rfl]
theorem S_law_826 {j : Nat} (h : Rel B I A) (h7 : 7 ≤ B) (h20 : B + 120 < 2 ^ 20) (hL : L ≤ 3072) (hj : j + 6 ≤ L) : lQ2 L xs (B + 24) j (zE L xs 60 K_law 826 [some (.retAddr 0), some (.ref 0), some (.ref 64), some (.int (nI j))] [] (zL I A b)) := by
  obtain ⟨r, I1, A1, I2, A2, b1, h1, h2, h3⟩ := P_even (L := L) (xs := xs) (b := b) h
  refine ⟨I2, A2, b1, h3.mono (by omega), ?_⟩
  rw [B_law_826, h1, zbI]
  dsimp only
  rw [h2, zbI]
  dsimp only
  rw [if_pos rfl]
theorem S_law_839 {j : Nat} (h : Rel B I A) (h7 : 7 ≤ B) (h20 : B + 120 < 2 ^ 20) (hL : L ≤ 3072) (hj : j + 6 ≤ L) : lQ2 L xs (B + 24) j (zE L xs 60 K_law 839 [some (.retAddr 0), some (.ref 0), some (.ref 64), some (.int (nI j))] [] (zL I A b)) := by
  obtain ⟨r, I1, A1, I2, A2, b1, h1, h2, h3⟩ := P_astray (L := L) (xs := xs) (b := b) h (xs (j + 1)) (xs (j + 2))
  refine ⟨I2, A2, b1, h3.mono (by omega), ?_⟩
  rw [B_law_839, l_ro (q := 1) zl1 hL (by omega), zbS, l_ro (q := 2) zl2 hL (by omega), zbS, h1, zbI]
  dsimp only
  rw [zbS, zbS, h2, zbI]
  dsimp only
  rw [if_pos rfl]
theorem S_law_872 {j : Nat} (h : Rel B I A) (h7 : 7 ≤ B) (h20 : B + 120 < 2 ^ 20) (hL : L ≤ 3072) (hj : j + 6 ≤ L) : lQ2 L xs (B + 24) j (zE L xs 60 K_law 872 [some (.retAddr 0), some (.ref 0), some (.ref 64), some (.int (nI j))] [] (zL I A b)) := by
  obtain ⟨r, I1, A1, I2, A2, b1, h1, h2, h3⟩ := P_heavy (L := L) (xs := xs) (b := b) h (xs (j + 1)) (xs (j + 2)) (xs (j + 3))
  refine ⟨I2, A2, b1, h3.mono (by omega), ?_⟩
  rw [B_law_872, l_ro (q := 1) zl1 hL (by omega), zbS, l_ro (q := 2) zl2 hL (by omega), zbS, l_ro (q := 3) zl3 hL (by omega), zbS, h1, zbI]
  dsimp only
  rw [zbS, zbS, zbS, h2, zbI]
  dsimp only
  rw [if_pos rfl]
theorem S_law_915 {j : Nat} (h : Rel B I A) (h7 : 7 ≤ B) (h20 : B + 120 < 2 ^ 20) (hL : L ≤ 3072) (hj : j + 6 ≤ L) : lQ2 L xs (B + 24) j (zE L xs 60 K_law 915 [some (.retAddr 0), some (.ref 0), some (.ref 64), some (.int (nI j))] [] (zL I A b)) := by
  obtain ⟨r, I1, A1, I2, A2, b1, h1, h2, h3⟩ := P_who (L := L) (xs := xs) (b := b) h (xs (j + 1)) (xs (j + 2)) (xs (j + 3)) (xs (j + 4))
  refine ⟨I2, A2, b1, h3.mono (by omega), ?_⟩
  rw [B_law_915, l_ro (q := 1) zl1 hL (by omega), zbS, l_ro (q := 2) zl2 hL (by omega), zbS, l_ro (q := 3) zl3 hL (by omega), zbS, l_ro (q := 4) zl4 hL (by omega), zbS, h1, zbI]
  dsimp only
  rw [zbS, zbS, zbS, zbS, h2, zbI]
  dsimp only
  rw [if_pos rfl]
theorem S_law_968 {j : Nat} (h : Rel B I A) (h7 : 7 ≤ B) (h20 : B + 120 < 2 ^ 20) (hL : L ≤ 3072) (hj : j + 6 ≤ L) : lQ2 L xs (B + 24) j (zE L xs 60 K_law 968 [some (.retAddr 0), some (.ref 0), some (.ref 64), some (.int (nI j))] [] (zL I A b)) := by
  obtain ⟨r, I1, A1, I2, A2, b1, h1, h2, h3⟩ := P_colds (L := L) (xs := xs) (b := b) h (xs (j + 1))
  refine ⟨I2, A2, b1, h3.mono (by omega), ?_⟩
  rw [B_law_968, l_ro (q := 1) zl1 hL (by omega), zbS, h1, zbI]
  dsimp only
  rw [zbS, h2, zbI]
  dsimp only
  rw [if_pos rfl]
theorem S_law_991 {j : Nat} (h : Rel B I A) (h7 : 7 ≤ B) (h20 : B + 120 < 2 ^ 20) (hL : L ≤ 3072) (hj : j + 6 ≤ L) : lQ2 L xs (B + 24) j (zE L xs 60 K_law 991 [some (.retAddr 0), some (.ref 0), some (.ref 64), some (.int (nI j))] [] (zL I A b)) := by
  obtain ⟨r, I1, A1, I2, A2, b1, h1, h2, h3⟩ := P_tears (L := L) (xs := xs) (b := b) h (xs (j + 1)) (xs (j + 2)) (xs (j + 3))
  refine ⟨I2, A2, b1, h3.mono (by omega), ?_⟩
  rw [B_law_991, l_ro (q := 1) zl1 hL (by omega), zbS, l_ro (q := 2) zl2 hL (by omega), zbS, l_ro (q := 3) zl3 hL (by omega), zbS, h1, zbJ]
  dsimp only
  rw [zbS, zbS, zbS, h2, zbJ]
  dsimp only
  rw [if_pos (l_cmp _)]
theorem S_law_1035 {j : Nat} (h : Rel B I A) (h7 : 7 ≤ B) (h20 : B + 120 < 2 ^ 20) (hL : L ≤ 3072) (hj : j + 6 ≤ L) : lQ2 L xs (B + 24) j (zE L xs 60 K_law 1035 [some (.retAddr 0), some (.ref 0), some (.ref 64), some (.int (nI j))] [] (zL I A b)) := by
  obtain ⟨r, I1, A1, I2, A2, b1, h1, h2, h3⟩ := P_drawn (L := L) (xs := xs) (b := b) h (by omega) (xs (j + 1)) (xs (j + 2)) (xs (j + 3))
  refine ⟨I2, A2, b1, h3.mono (by omega), ?_⟩
  rw [B_law_1035, l_ro (q := 1) zl1 hL (by omega), zbS, l_ro (q := 2) zl2 hL (by omega), zbS, l_ro (q := 3) zl3 hL (by omega), zbS, h1, zbI]
  dsimp only
  rw [zbS, zbS, zbS, h2, zbI]
  dsimp only
  rw [if_pos rfl]
theorem S_law_1078 {j : Nat} (h : Rel B I A) (h7 : 7 ≤ B) (h20 : B + 120 < 2 ^ 20) (hL : L ≤ 3072) (hj : j + 6 ≤ L) : lQ2 L xs (B + 24) j (zE L xs 60 K_law 1078 [some (.retAddr 0), some (.ref 0), some (.ref 64), some (.int (nI j))] [] (zL I A b)) := by
  obtain ⟨r, I1, A1, I2, A2, b1, h1, h2, h3⟩ := P_image (L := L) (xs := xs) (b := b) h (xs (j + 1))
  refine ⟨I2, A2, b1, h3.mono (by omega), ?_⟩
  rw [B_law_1078, l_ro (q := 1) zl1 hL (by omega), zbS, h1, zbI]
  dsimp only
  rw [zbS, h2, zbI]
  dsimp only
  rw [if_pos rfl]
theorem S_law_1101 {j : Nat} (h : Rel B I A) (h7 : 7 ≤ B) (h20 : B + 120 < 2 ^ 20) (hL : L ≤ 3072) (hj : j + 6 ≤ L) : lQ2 L xs (B + 24) j (zE L xs 60 K_law 1101 [some (.retAddr 0), some (.ref 0), some (.ref 64), some (.int (nI j))] [] (zL I A b)) := by
  obtain ⟨r, I1, A1, I2, A2, b1, h1, h2, h3⟩ := P_restore (L := L) (xs := xs) (b := b) h (xs (j + 1))
  refine ⟨I2, A2, b1, h3.mono (by omega), ?_⟩
  rw [B_law_1101, l_ro (q := 1) zl1 hL (by omega), zbS, h1, zbI]
  dsimp only
  rw [zbS, h2, zbI]
  dsimp only
  rw [if_pos rfl]
theorem S_law_1124 {j : Nat} (h : Rel B I A) (h7 : 7 ≤ B) (h20 : B + 120 < 2 ^ 20) (hL : L ≤ 3072) (hj : j + 6 ≤ L) : lQ2 L xs (B + 24) j (zE L xs 60 K_law 1124 [some (.retAddr 0), some (.ref 0), some (.ref 64), some (.int (nI j))] [] (zL I A b)) := by
  obtain ⟨r, I1, A1, I2, A2, b1, h1, h2, h3⟩ := P_kind (L := L) (xs := xs) (b := b) h (xs (j + 1))
  refine ⟨I2, A2, b1, h3.mono (by omega), ?_⟩
  rw [B_law_1124, l_ro (q := 1) zl1 hL (by omega), zbS, h1, zbI]
  dsimp only
  rw [zbS, h2, zbI]
  dsimp only
  rw [if_pos rfl]
theorem S_law_1147 {j : Nat} (h : Rel B I A) (h7 : 7 ≤ B) (h20 : B + 120 < 2 ^ 20) (hL : L ≤ 3072) (hj : j + 6 ≤ L) : lQ2 L xs (B + 24) j (zE L xs 60 K_law 1147 [some (.retAddr 0), some (.ref 0), some (.ref 64), some (.int (nI j))] [] (zL I A b)) := by
  obtain ⟨r, I1, A1, I2, A2, b1, h1, h2, h3⟩ := P_as (L := L) (xs := xs) (b := b) h (xs (j + 1)) (xs (j + 2))
  refine ⟨I2, A2, b1, h3.mono (by omega), ?_⟩
  rw [B_law_1147, l_ro (q := 1) zl1 hL (by omega), zbS, l_ro (q := 2) zl2 hL (by omega), zbS, h1, zbI]
  dsimp only
  rw [zbS, zbS, h2, zbI]
  dsimp only
  rw [if_pos rfl]
theorem S_law_1180 {j : Nat} (h : Rel B I A) (h7 : 7 ≤ B) (h20 : B + 120 < 2 ^ 20) (hL : L ≤ 3072) (hj : j + 6 ≤ L) : lQ2 L xs (B + 24) j (zE L xs 60 K_law 1180 [some (.retAddr 0), some (.ref 0), some (.ref 64), some (.int (nI j))] [] (zL I A b)) := by
  obtain ⟨r, I1, A1, I2, A2, b1, h1, h2, h3⟩ := P_ask (L := L) (xs := xs) (b := b) h (xs (j + 1)) (xs (j + 2))
  refine ⟨I2, A2, b1, h3.mono (by omega), ?_⟩
  rw [B_law_1180, l_ro (q := 1) zl1 hL (by omega), zbS, l_ro (q := 2) zl2 hL (by omega), zbS, h1, zbI]
  dsimp only
  rw [zbS, zbS, h2, zbI]
  dsimp only
  rw [if_pos rfl]
theorem S_law_1213 {j : Nat} (h : Rel B I A) (h7 : 7 ≤ B) (h20 : B + 120 < 2 ^ 20) (hL : L ≤ 3072) (hj : j + 6 ≤ L) : lQ2 L xs (B + 24) j (zE L xs 60 K_law 1213 [some (.retAddr 0), some (.ref 0), some (.ref 64), some (.int (nI j))] [] (zL I A b)) := by
  obtain ⟨r, I1, A1, I2, A2, b1, h1, h2, h3⟩ := P_trace (L := L) (xs := xs) (b := b) h (xs (j + 1))
  refine ⟨I2, A2, b1, h3.mono (by omega), ?_⟩
  rw [B_law_1213, l_ro (q := 1) zl1 hL (by omega), zbS, h1, zbI]
  dsimp only
  rw [zbS, h2, zbI]
  dsimp only
  rw [if_pos rfl]
theorem S_law_1236 {j : Nat} (h : Rel B I A) (h7 : 7 ≤ B) (h20 : B + 120 < 2 ^ 20) (hL : L ≤ 3072) (hj : j + 6 ≤ L) : lQ2 L xs (B + 24) j (zE L xs 60 K_law 1236 [some (.retAddr 0), some (.ref 0), some (.ref 64), some (.int (nI j))] [] (zL I A b)) := by
  obtain ⟨r, I1, A1, I2, A2, b1, h1, h2, h3⟩ := P_count (L := L) (xs := xs) (b := b) h (xs (j + 1))
  refine ⟨I2, A2, b1, h3.mono (by omega), ?_⟩
  rw [B_law_1236, l_ro (q := 1) zl1 hL (by omega), zbS, h1, zbI]
  dsimp only
  rw [zbS, h2, zbI]
  dsimp only
  rw [if_pos rfl]
theorem S_law_1259 {j : Nat} (h : Rel B I A) (h7 : 7 ≤ B) (h20 : B + 120 < 2 ^ 20) (hL : L ≤ 3072) (hj : j + 6 ≤ L) : lQ2 L xs (B + 24) j (zE L xs 60 K_law 1259 [some (.retAddr 0), some (.ref 0), some (.ref 64), some (.int (nI j))] [] (zL I A b)) := by
  obtain ⟨r, I1, A1, I2, A2, b1, h1, h2, h3⟩ := P_status (L := L) (xs := xs) (b := b) h
  refine ⟨I2, A2, b1, h3.mono (by omega), ?_⟩
  rw [B_law_1259, h1, zbI]
  dsimp only
  rw [h2, zbI]
  dsimp only
  rw [if_pos rfl]
theorem arms_c {Q : Option pm_R → Prop} {x v : Int32} {t : Nat} {f : Nat → Option pm_R} {d : Option pm_R} {l : List (Int32 × Nat)} (h1 : Q (f t)) (h2 : Q (pm_arms x f d l)) : Q (pm_arms x f d ((v, t) :: l)) := by
  show Q (if x = v then f t else pm_arms x f d l)
  split
  · exact h1
  · exact h2
theorem l_arms {j : Nat} (h : Rel B I A) (h7 : 7 ≤ B) (h20 : B + 120 < 2 ^ 20) (hL : L ≤ 3072) (hj : j + 6 ≤ L) (x : Int32) : lQ2 L xs (B + 24) j (pm_arms x (fun t => zE L xs 60 K_law t [some (.retAddr 0), some (.ref 0), some (.ref 64), some (.int (nI j))] [] (zL I A b)) (zE L xs 60 K_law 1272 [some (.retAddr 0), some (.ref 0), some (.ref 64), some (.int (nI j))] [] (zL I A b)) lawA) :=
  arms_c (S_law_204 h h7 h20 hL hj) (arms_c (S_law_247 h h7 h20 hL hj) (arms_c (S_law_290 h h7 h20 hL hj) (arms_c (S_law_353 h h7 h20 hL hj) (arms_c (S_law_376 h h7 h20 hL hj) (arms_c (S_law_399 h h7 h20 hL hj) (arms_c (S_law_412 h h7 h20 hL hj) (arms_c (S_law_425 h h7 h20 hL hj) (arms_c (S_law_438 h h7 h20 hL hj) (arms_c (S_law_461 h h7 h20 hL hj) (arms_c (S_law_484 h h7 h20 hL hj) (arms_c (S_law_497 h h7 h20 hL hj) (arms_c (S_law_530 h h7 h20 hL hj) (arms_c (S_law_553 h h7 h20 hL hj) (arms_c (S_law_566 h h7 h20 hL hj) (arms_c (S_law_599 h h7 h20 hL hj) (arms_c (S_law_632 h h7 h20 hL hj) (arms_c (S_law_655 h h7 h20 hL hj) (arms_c (S_law_678 h h7 h20 hL hj) (arms_c (S_law_691 h h7 h20 hL hj) (arms_c (S_law_714 h h7 h20 hL hj) (arms_c (S_law_747 h h7 h20 hL hj) (arms_c (S_law_770 h h7 h20 hL hj) (arms_c (S_law_793 h h7 h20 hL hj) (arms_c (S_law_826 h h7 h20 hL hj) (arms_c (S_law_839 h h7 h20 hL hj) (arms_c (S_law_872 h h7 h20 hL hj) (arms_c (S_law_915 h h7 h20 hL hj) (arms_c (S_law_968 h h7 h20 hL hj) (arms_c (S_law_991 h h7 h20 hL hj) (arms_c (S_law_1035 h h7 h20 hL hj) (arms_c (S_law_1078 h h7 h20 hL hj) (arms_c (S_law_1101 h h7 h20 hL hj) (arms_c (S_law_1124 h h7 h20 hL hj) (arms_c (S_law_1147 h h7 h20 hL hj) (arms_c (S_law_1180 h h7 h20 hL hj) (arms_c (S_law_1213 h h7 h20 hL hj) (arms_c (S_law_1236 h h7 h20 hL hj) (arms_c (S_law_1259 h h7 h20 hL hj) (⟨I, A, b, h.mono (by omega), rfl⟩)))))))))))))))))))))))))))))))))))))))
end
