/-! image, restore -/
section
variable {L : Nat} {xs : Nat → Int32} {B n o : Nat} {g g' : Nat → Nat} {I A I' A' : Nat → Nat → Int32} {b : Value}
theorem Rel.imaged (h : Rel B I A) (hI : ∀ o k, zKI o k = true → o ≠ 30 → o ≠ 37 → I' o k = I o k) (hA : ∀ q, zKA q = true → ¬ (30 ≤ q ∧ q ≤ 43) → q ≠ 76 → q ≠ 77 → A' q = A q) (h60 : A' 60 0 = A 60 0) (h61 : A' 61 0 = A 61 0) (hs : zIm B I' A') : Rel B I' A' := by
  obtain ⟨g, h1, h2, h3, h4, h5, h6, h7⟩ := h
  have e15 : I' 15 = I 15 := funext (fun k => hI 15 k (by simp [zKI]) (by decide) (by decide))
  refine ⟨g, h1.c (hI _ _ rfl (by decide) (by decide)) (hI _ _ rfl (by decide) (by decide)) (fun q a b => hA q (by simp [zKA]; omega) (by omega) (by omega) (by omega)) (hA _ rfl (by decide) (by decide) (by decide)) (hA _ rfl (by decide) (by decide) (by decide)) (hA _ rfl (by decide) (by decide) (by decide)), h2.c (hI _ _ rfl (by decide) (by decide)) (hI _ _ rfl (by decide) (by decide)) (hI _ _ rfl (by decide) (by decide)) (hI _ _ rfl (by decide) (by decide)) (hA _ rfl (by decide) (by decide) (by decide)) (hA _ rfl (by decide) (by decide) (by decide)), h3.c (hI _ _ rfl (by decide) (by decide)) (hI _ _ rfl (by decide) (by decide)) (hA _ rfl (by decide) (by decide) (by decide)) (hA _ rfl (by decide) (by decide) (by decide)), h4.c h60 h61, h5.c e15 (fun q a b => hA q (by simp [zKA]; omega) (by omega) (by omega) (by omega)) (hA _ rfl (by decide) (by decide) (by decide)), hs, h7.c (hI _ _ rfl (by decide) (by decide)) (hI _ _ rfl (by decide) (by decide)) (hI _ _ rfl (by decide) (by decide)) (fun q a b => hA q (by simp [zKA]; omega) (by omega) (by omega) (by omega)) (hA _ rfl (by decide) (by decide) (by decide))⟩
theorem c_standsR {o : Nat} (ho : zSh o) (d : Nat) : pm_call L xs (d + 1) m_Shop_stands [.ref o] (zL I A b) = some (some (.int (if I o 0 ≤ 0 then 0 else 1)), zL I A b) := by
  obtain ⟨fs, hfs⟩ := zSo ho I A b
  rw [C_Shop_stands L xs d _ _ hfs, B_Shop_stands_0]
  simp only [zSg0 ho, zbS]
  split <;> rfl
theorem zk2 {v : Int32} : (v < 0 ∨ (¬ v < 0 ∧ ¬ v < 2)) ∨ ∃ k : Nat, k < 2 ∧ v = nI k := by
  by_cases h1 : v < 0
  · exact Or.inl (Or.inl h1)
  · by_cases h2 : v < 2
    · obtain ⟨k, hk, rfl⟩ := nI_of h1
      rw [zl2, nI_ltI hk (by decide)] at h2
      exact Or.inr ⟨k, h2, rfl⟩
    · exact Or.inl (Or.inr ⟨h1, h2⟩)
theorem zin01 {v : Int32} (h : v < 0 ∨ (¬ v < 0 ∧ ¬ v < 2)) : ¬ (0 ≤ v ∧ v ≤ 1) := by
  have e0 : (0 : Int32).toInt = 0 := rfl
  have e1 : (1 : Int32).toInt = 1 := rfl
  have e2 : (2 : Int32).toInt = 2 := rfl
  simp only [fa_lt, fa_le, e0, e1, e2] at h ⊢
  omega
theorem m_imgC {k : Nat} (hk : k < 2) (hm : mR A 68 g) : zE L xs 59 K_Model_image 30 [some (.ref 64), some (.int (nI k)), some (.int (0 : Int32))] [] (zL I A b) = some (some (.int 1), zL I (zuA (zcp A 77 (55 * k) 55 (A 68)) 76 k 1) b) := by
  rw [zfill (fun i A => zE L xs 59 K_Model_image 30 [some (.ref 64), some (.int (nI k)), some (.int i)] [] (zL I A b)) A 77 (55 * k) 55 (A 68) (fun j hj => ?_)]
  · rw [B_Model_image_30, if_pos (by decide), zr_64_26, zbS, show vp_nar .boolean (1 : Int32) = 1 from by decide, z_wrB hk, zbS]
  · rw [B_Model_image_30, if_neg (by rw [zl55]; exact nI_ge hj (by decide))]
    simp only [zr_64_5, zr_64_27, zbS, zl55, pk_mul, nI_add]
    rw [z_rd za_68 hj, zbS, zcp_o (by decide), z_wr za_77 (show 55 * k + j < 110 by omega), zbS]
theorem m_resC {k : Nat} (hk : k < 2) : zE L xs 59 K_Model_restore 32 [some (.ref 64), some (.int (nI k)), some (.int (0 : Int32))] [] (zL I A b) = some (some (.int 1), zL (zuI I 64 9 0) (zcp A 68 0 55 (fun j => A 77 (55 * k + j))) b) := by
  rw [zfill (fun i A => zE L xs 59 K_Model_restore 32 [some (.ref 64), some (.int (nI k)), some (.int i)] [] (zL I A b)) A 68 0 55 (fun j => A 77 (55 * k + j)) (fun j hj => ?_)]
  · rw [B_Model_restore_32, if_pos (by decide), zp_64_9, zbS]
  · rw [B_Model_restore_32, if_neg (by rw [zl55]; exact nI_ge hj (by decide))]
    simp only [zr_64_5, zr_64_27, zbS, zl55, pk_mul, nI_add]
    rw [z_rd za_77 (show 55 * k + j < 110 by omega), zbS, zcp_o (by decide), z_wr za_68 hj, zbS, Nat.zero_add]
theorem zSh_img {k : Nat} (hk : k < 2) : zSh (30 + 7 * k) := by
  rcases (show k = 0 ∨ k = 1 by omega) with rfl | rfl
  · exact Or.inr (Or.inr (Or.inl rfl))
  · exact Or.inr (Or.inr (Or.inr rfl))
theorem P_image (h : Rel B I A) (v : Int32) : zOk L xs B m_Eggs_image m_Model_image [.int v] I A b := by
  have hw := h
  obtain ⟨g, -, -, -, -, hS, hM, -⟩ := hw
  obtain ⟨hc, hm, hI⟩ := hS
  have hB := hI.1
  rcases zk2 (v := v) with hbad | ⟨k, hk, rfl⟩
  · refine zOk.pure (r := -1000001) h ?_ ?_
    · rw [D_Eggs_image, B_Eggs_image_0]
      rcases hbad with h1 | ⟨h1, h2⟩
      · rw [if_pos h1]
      · rw [if_neg h1, if_neg h2]
    · rw [D_Model_image, B_Model_image_0]
      simp only [zp_64_0, zbS, m_in, zbI, zne, zin01 hbad, not_true_eq_false, not_false_eq_true, if_false]
  · have h1 : ¬ nI k < 0 := nI_pos (by omega)
    have h2 : nI k < 2 := by rw [zl2]; exact nI_lt hk (by decide)
    have h3 : (0 ≤ nI k ∧ nI k ≤ 1) = True := eq_true ⟨nI_pos' (by omega), by rw [zl1]; exact nI_le (by omega) (by decide)⟩
    by_cases h0 : 0 < g 0
    · obtain ⟨I1, A1, x1, x2, x3, x4, x5⟩ := c_become (L := L) (xs := xs) (I := I) (A := A) (b := b) (zSh_img hk) hc.1 (by omega) 58
      have hm1 : mR A1 68 g := hm.c (x5 68 (by omega))
      have hc2 : cR I1 A1 (30 + 7 * k) g := hc.copy hB (zSh_img hk) x2 x4
      obtain ⟨A2, hA2⟩ : ∃ A2, A2 = zuA (zcp A1 77 (55 * k) 55 (A1 68)) 76 k 1 := ⟨_, rfl⟩
      have fA : ∀ q, q ≠ 76 → q ≠ 77 → A2 q = A1 q := fun q q1 q2 => by rw [hA2, zuA_o q1, zcp_o q2]
      have fI : ∀ o' k', ¬ (o' = 64 ∧ k' = 0) → o' ≠ 30 + 7 * k → zuI I1 64 0 0 o' k' = I o' k' := fun o' k' a1 a2 => by rw [zuI_at, if_neg a1, x3 o' a2]
      refine ⟨1, I1, A1, zuI I1 64 0 0, A2, b, ?_, ?_, h.imaged (fun o' k' hk' a1 a2 => fI o' k' (zKI_0 hk') (by omega)) (fun q hq a1 a2 a3 => by rw [fA q a2 a3, x5 q (by omega)]) (by rw [fA 60 (by decide) (by decide), x5 60 (by omega)]) (by rw [fA 61 (by decide) (by decide), x5 61 (by omega)]) (fun k' hk' => ?_)⟩
      · rw [D_Eggs_image, B_Eggs_image_0, if_neg h1, if_pos h2]
        simp only [zr_0_2, zbS, c_stands L xs 58 b hc hB, zbI, h0, if_true, zr_0_4, z_img hk, x1, zbV]
        rw [if_pos (by decide)]
      · rw [D_Model_image, B_Model_image_0]
        simp only [zp_64_0, zbS, m_in, zbI, h3, if_true, m_isThere L xs 58 _ b hm1 hB, h0]
        rw [if_pos (by decide), if_pos (by decide), m_imgC hk hm1, hA2]
      · by_cases e : k' = k
        · subst e
          refine Or.inr ⟨by rw [hA2, zuA_s, pk_us], g, hc2.c (funext fun j => zuI_o (by omega)) (fun q _ _ => fA q (by omega) (by omega)), fun j hj => ?_, hI, h0⟩
          rw [hA2, zuA_o (by decide), zcp_at hj]
          exact hm1.2 j hj
        · have e76 : A2 76 k' = A 76 k' := by rw [hA2, zuA_s, pk_un e, zcp_o (by decide), x5 76 (by omega)]
          have eI : zuI I1 64 0 0 (30 + 7 * k') = I (30 + 7 * k') := funext fun j => fI _ j (by omega) (by omega)
          rcases hM k' hk' with ⟨a1, a2⟩ | ⟨a1, g2, c1, c2, c3, c4⟩
          · exact Or.inl ⟨by rw [e76]; exact a1, by rw [eI]; exact a2⟩
          · refine Or.inr ⟨by rw [e76]; exact a1, g2, c1.c eI (fun q q1 q2 => by rw [fA q (by omega) (by omega), x5 q (by omega)]), fun j hj => ?_, c3, c4⟩
            rw [hA2, zuA_o (by decide), zcp_out (by omega), x5 77 (by omega)]
            exact c2 j hj
    · refine zOk.pure (r := -1000002) h ?_ ?_
      · rw [D_Eggs_image, B_Eggs_image_0, if_neg h1, if_pos h2]
        simp only [zr_0_2, zbS, c_stands L xs 58 b hc hB, zbI, h0, if_false]
        rw [if_neg (by decide)]
      · rw [D_Model_image, B_Model_image_0]
        simp only [zp_64_0, zbS, m_in, zbI, h3, if_true, m_isThere L xs 58 _ b hm hB, h0, if_false]
        rw [if_pos (by decide), if_neg (by decide)]
theorem P_restore (h : Rel B I A) (v : Int32) : zOk L xs B m_Eggs_restore m_Model_restore [.int v] I A b := by
  have hw := h
  obtain ⟨g, -, -, -, -, hS, hM, hH⟩ := hw
  obtain ⟨hc, hm, hI⟩ := hS
  have hB := hI.1
  rcases zk2 (v := v) with hbad | ⟨k, hk, rfl⟩
  · refine zOk.pure (r := -1000001) h ?_ ?_
    · rw [D_Eggs_restore, B_Eggs_restore_0]
      rcases hbad with h1 | ⟨h1, h2⟩
      · rw [if_pos h1]
      · rw [if_neg h1, if_neg h2]
    · rw [D_Model_restore, B_Model_restore_0]
      simp only [zp_64_0, zbS, m_in, zbI, zne, zin01 hbad, not_true_eq_false, not_false_eq_true, if_false]
  · have h1 : ¬ nI k < 0 := nI_pos (by omega)
    have h2 : nI k < 2 := by rw [zl2]; exact nI_lt hk (by decide)
    have h3 : (0 ≤ nI k ∧ nI k ≤ 1) = True := eq_true ⟨nI_pos' (by omega), by rw [zl1]; exact nI_le (by omega) (by decide)⟩
    rcases hM k hk with ⟨a1, a2⟩ | ⟨a1, g2, c1, c2, c3, c4⟩
    · refine zOk.pure (r := -1000002) h ?_ ?_
      · rw [D_Eggs_restore, B_Eggs_restore_0, if_neg h1, if_pos h2]
        simp only [zr_0_4, zbS, z_img hk, c_standsR (zSh_img hk), zbI, a2]
        rw [if_neg (by decide)]
      · rw [D_Model_restore, B_Model_restore_0]
        simp only [zp_64_0, zbS, m_in, zbI, h3, if_true, zr_64_26, z_rdB hk, a1]
        rw [if_pos (by decide), if_neg (by decide)]
    · obtain ⟨I1, A1, x1, x2, x3, x4, x5⟩ := c_become (L := L) (xs := xs) (I := I) (A := A) (b := b) hc.1 (zSh_img hk) (by omega) 58
      have hc2 : cR I1 A1 15 g2 := c1.copy c3.1 hc.1 x2 x4
      obtain ⟨n, o, hs, hHc, hHm, hG, -⟩ := hH.un
      obtain ⟨A2, hA2⟩ : ∃ A2, A2 = zcp A1 68 0 55 (fun j => A1 77 (55 * k + j)) := ⟨_, rfl⟩
      have fA : ∀ q, q ≠ 68 → A2 q = A1 q := fun q q1 => by rw [hA2, zcp_o q1]
      obtain ⟨I2, hI2⟩ : ∃ I2, I2 = zuI I1 44 5 0 := ⟨_, rfl⟩
      have fI : ∀ o' k', ¬ (o' = 64 ∧ k' = 0) → ¬ (o' = 64 ∧ k' = 9) → ¬ (o' = 44 ∧ k' = 5) → zuI (zuI I2 64 0 0) 64 9 0 o' k' = I1 o' k' := fun o' k' a1 a2 a3 => by rw [hI2, zuI_at, if_neg a2, zuI_at, if_neg a1, zuI_at, if_neg a3]
      refine ⟨1, I2, A1, zuI (zuI I2 64 0 0) 64 9 0, A2, b, ?_, ?_, h.acted (g' := g2) (Nat.le_refl _) (fun o' k' hk' e1 e2 e3 => by rw [fI o' k' (zKI_0 hk') e3 (by omega), x3 o' e1]) (fun q hq e1 e2 e3 e4 => by rw [fA q e3, x5 q (by omega)]) (by rw [fA 60 (by decide), x5 60 (by omega)]) (by rw [fA 61 (by decide), x5 61 (by omega)]) ⟨hc2.c (funext fun j => fI 15 j (by omega) (by omega) (by omega)) (fun q _ _ => fA q (by omega)), ⟨hm.1, fun j hj => ?_⟩, c3⟩ (zHs.up (n := 0) (o := o) (hs := fun _ => g2) ⟨by omega, hHc.2.1, ?_, ?_, fun j hj => by omega⟩ ⟨by omega, zuI_s, fun j hj => by omega⟩ (fun j hj => by omega) rfl)⟩
      · rw [D_Eggs_restore, B_Eggs_restore_0, if_neg h1, if_pos h2]
        simp only [zr_0_4, zbS, z_img hk, c_stands L xs 58 b c1 c3.1, zbI, c4, if_true, zr_0_2, x1, zbV, zr_0_5]
        rw [if_pos (by decide), D_Acts_forget, B_Acts_forget_0, zp_44_5, zbS, zbV, hI2]
      · rw [D_Model_restore, B_Model_restore_0]
        simp only [zp_64_0, zbS, m_in, zbI, h3, if_true, zr_64_26, z_rdB hk, x5 76 (by omega), a1]
        rw [if_pos (by decide), if_pos (by decide), m_resC hk, hA2]
      · rw [hA2]
        have := zcp_at (A := A1) (q := 68) (p := 0) (n := 55) (f := fun j => A1 77 (55 * k + j)) hj
        rw [Nat.zero_add] at this
        rw [this, x5 77 (by omega)]
        exact c2 j hj
      · rw [zuI_o (by decide), zuI_o (by decide), hI2, zuI_n (by decide), x3 44 (by decide)]
        exact hHc.2.2.1
      · rw [zuI_o (by decide), zuI_o (by decide), hI2, zuI_s]
        rfl
end
