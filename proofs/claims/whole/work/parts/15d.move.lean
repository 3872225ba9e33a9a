/-! pack, layBy, takeOut, putIn -/
section
variable {L : Nat} {xs : Nat → Int32} {B n o : Nat} {g g' : Nat → Nat} {hs : Nat → Nat → Nat} {I A : Nat → Nat → Int32} {b : Value}
/-- the reference keeps, and packs -/
theorem m_kpack (h : zHm n hs I A) (hm : mR A 68 (hs n)) (hB : gB (hs n)) (h5 : hs n 5 + 1 < 2 ^ 20) {t c : Nat} (ht : t < 7) (hc : c < 100) : ∃ I1 A1 A2, pm_call L xs 59 m_Model_keep [.ref 64] (zL I A b) = some (none, zL I1 A1 b) ∧ mR A1 68 (hs n) ∧ pm_call L xs 59 m_Model_packs [.ref 68, .int (nI t), .int (nI c)] (zL I1 A1 b) = some (none, zL I1 A2 b) ∧ mR A2 68 (gcr (gcomes (hs n) t (3 + c)) (hs n 3)) ∧ zHm (hN n) (hP n hs (gcr (gcomes (hs n) t (3 + c)) (hs n 3))) I1 A2 ∧ (∀ q, q ≠ 68 → q ≠ 71 → A2 q = A q) ∧ ∀ o' k', ¬ (o' = 64 ∧ k' = 9) → I1 o' k' = I o' k' := by
  obtain ⟨I1, A1, k1, k2, k3, k4⟩ := m_keep (L := L) (xs := xs) (b := b) h hm (gcr (gcomes (hs n) t (3 + c)) (hs n 3)) 58
  have hm1 : mR A1 68 (hs n) := hm.c (k3 68 (by decide))
  obtain ⟨A2, p1, p2, p3⟩ := m_packs L xs 54 I1 b hm1 hB ht hc h5
  exact ⟨I1, A1, A2, k1, hm1, p1, p2, k2.c rfl (p3 71 (by decide)), fun q q1 q2 => by rw [p3 q q1, k3 q q2], k4⟩
theorem m_kcome (h : zHm n hs I A) (hm : mR A 68 (hs n)) {t : Nat} (ht : t < 7) (hO : gO (hs n)) : ∃ I1 A1 A2, pm_call L xs 59 m_Model_keep [.ref 64] (zL I A b) = some (none, zL I1 A1 b) ∧ mR A1 68 (hs n) ∧ pm_call L xs 59 m_Model_comes [.ref 68, .int (nI t), .int 2] (zL I1 A1 b) = some (none, zL I1 A2 b) ∧ mR A2 68 (gcr (gcomes (hs n) t 2) (hs n 3)) ∧ zHm (hN n) (hP n hs (gcr (gcomes (hs n) t 2) (hs n 3))) I1 A2 ∧ (∀ q, q ≠ 68 → q ≠ 71 → A2 q = A q) ∧ ∀ o' k', ¬ (o' = 64 ∧ k' = 9) → I1 o' k' = I o' k' := by
  obtain ⟨I1, A1, k1, k2, k3, k4⟩ := m_keep (L := L) (xs := xs) (b := b) h hm (gcr (gcomes (hs n) t 2) (hs n 3)) 58
  have hm1 : mR A1 68 (hs n) := hm.c (k3 68 (by decide))
  obtain ⟨A2, p1, p2, p3⟩ := m_comes L xs 58 I1 b hm1 (p := 2) ht
  have e := gcr_id (gO_out (t := t) (p := 2) hO (by decide))
  rw [gco_n] at e
  refine ⟨I1, A1, A2, k1, hm1, ?_, by rw [e]; exact p2, k2.c rfl (p3 71 (by decide)), fun q q1 q2 => by rw [p3 q q1, k3 q q2], k4⟩
  rw [zl2]
  exact p1
theorem P_pack (h : Rel B I A) (hB2 : B + 1 < 2 ^ 20) (v : Int32) : zOk L xs (B + 1) m_Eggs_pack m_Model_pack [.int v] I A b := by
  have hw := h
  obtain ⟨g, -, -, -, -, hS, -, hH⟩ := hw
  obtain ⟨n, o, hs, hc', hm', hG, rfl⟩ := hH.un
  have hS' := hS
  obtain ⟨hc, hm, hI⟩ := hS'
  have hB := hI.1
  have hn7 := hB.1
  have hn3 := hB.2.1
  by_cases h0 : 0 < hs n 0
  · by_cases h1 : 0 ≤ v.toInt ∧ v.toInt < (hs n 0 : Int)
    · obtain ⟨c, hc0, rfl⟩ := zth h1
      have e3 : (3 : Int32) + nI c = nI (3 + c) := by rw [zl3, nI_add]
      have e0 : ghigh (hs n) 1 = gtop (hs n) 1 (hs n 3) := if_neg (by decide)
      cases hf : gtop (hs n) 1 (hs n 3) with
      | some t =>
        obtain ⟨ht, -⟩ := gtop_lt _ _ hf
        obtain ⟨I1, A1, x1, x2, x3, x4, x5⟩ := c_moveTop (L := L) (xs := xs) (b := b) (p1 := 1) (p := 3 + c) (v := 1) (w := 3 + nI c) hI hB2 hc hc' zl1 (by decide) (e0.trans hf) (by decide) (by decide) (by omega) (by omega) (by omega) e3 53
        have hm1 : mR A1 68 (hs n) := hm.c (x4 68 (by decide) (by decide) (by decide))
        have hm2 : zHm n hs (zuI I1 64 0 0) A1 := hm'.c (by rw [zuI_n (by decide), x5 64 (by decide) (by decide)]) (x4 71 (by decide) (by decide) (by decide))
        obtain ⟨I2, A2, A3, y1, y2, y3, y4, y5, y6, y7⟩ := m_kpack (L := L) (xs := xs) (b := b) (t := t) (c := c) hm2 hm1 hB (by have := hI.2.2.2.2.1; omega) (by omega) (by omega)
        refine ⟨nI t, I1, A1, I2, A3, b, ?_, ?_, h.moved (g' := gcr (gcomes (hs n) t (3 + c)) (hs n 3)) (n' := 0) hB2 hS hG h0 hc'.1 (hI.move hB2 ht (by omega)) x2 x3 (fun q q1 q2 q3 q4 => x4 q q1 q2 q4) x5 y4 y5 (fun q q1 q2 => y6 q q1 q2) (fun o' k' a1 a2 => by rw [y7 o' k' a1]; simp only [zuI_at, if_neg a2])⟩
        · rw [D_Eggs_pack, B_Eggs_pack_0]
          simp only [zr_0_2, zbS, c_stands L xs 58 b hc hB, zbI, h0, if_true, c_hasBag L xs 58 b hc hB, h1, and_self, x1]
          rw [if_pos (by decide), if_neg (by decide)]
        · rw [D_Model_pack, B_Model_pack_0]
          simp only [zp_64_0, zbS, m_isThere L xs 58 _ b hm1 hB, zbI, h0, if_true, m_isBag L xs 57 _ b hm1 hB, h1, and_self, zr_64_5, m_topOf' L xs 57 _ b hm1 hB zl1 (by decide), hf]
          rw [if_pos (by decide), if_pos (by decide), show zopt (some t) = nI t from rfl, if_pos (zNn (by omega)), y1, zbV, zr_64_5, zbS, y3, zbV]
      | none =>
        have x1 := c_moveTopN (L := L) (xs := xs) (b := b) (p1 := 1) (v := 1) (w := 3 + nI c) hI hc zl1 (by decide) (e0.trans hf) (by decide) 53
        refine ⟨-1000002, I, A, zuI I 64 0 0, A, b, ?_, ?_, (h.same (zSame.fI 64 0 0 rfl)).mono (by omega)⟩
        · rw [D_Eggs_pack, B_Eggs_pack_0]
          simp only [zr_0_2, zbS, c_stands L xs 58 b hc hB, zbI, h0, if_true, c_hasBag L xs 58 b hc hB, h1, and_self, x1]
          rw [if_pos (by decide), if_neg (by decide)]
        · rw [D_Model_pack, B_Model_pack_0]
          simp only [zp_64_0, zbS, m_isThere L xs 58 _ b hm hB, zbI, h0, if_true, m_isBag L xs 57 _ b hm hB, h1, and_self, zr_64_5, m_topOf' L xs 57 _ b hm hB zl1 (by decide), hf]
          rw [if_pos (by decide), if_pos (by decide), if_neg (fun q => q rfl)]
    · refine ⟨-1000001, I, A, zuI I 64 0 0, A, b, ?_, ?_, (h.same (zSame.fI 64 0 0 rfl)).mono (by omega)⟩
      · rw [D_Eggs_pack, B_Eggs_pack_0]
        simp only [zr_0_2, zbS, c_stands L xs 58 b hc hB, zbI, h0, if_true, c_hasBag L xs 58 b hc hB, h1, if_false]
        rw [if_pos (by decide)]
      · rw [D_Model_pack, B_Model_pack_0]
        simp only [zp_64_0, zbS, m_isThere L xs 58 _ b hm hB, zbI, h0, if_true, m_isBag L xs 57 _ b hm hB, h1, if_false]
        rw [if_pos (by decide), if_neg (by decide)]
  · refine ⟨-1000002, I, A, zuI I 64 0 0, A, b, ?_, ?_, (h.same (zSame.fI 64 0 0 rfl)).mono (by omega)⟩
    · rw [D_Eggs_pack, B_Eggs_pack_0]
      simp only [zr_0_2, zbS, c_stands L xs 58 b hc hB, zbI, zne, h0, not_true_eq_false, not_false_eq_true, if_false]
    · rw [D_Model_pack, B_Model_pack_0]
      simp only [zp_64_0, zbS, m_isThere L xs 58 _ b hm hB, zbI, zne, h0, not_true_eq_false, not_false_eq_true, if_false]
theorem P_layBy (h : Rel B I A) (hB2 : B + 1 < 2 ^ 20) : zOk L xs (B + 1) m_Eggs_layBy m_Model_layBy [] I A b := by
  have hw := h
  obtain ⟨g, -, -, -, -, hS, -, hH⟩ := hw
  obtain ⟨n, o, hs, hc', hm', hG, rfl⟩ := hH.un
  have hS' := hS
  obtain ⟨hc, hm, hI⟩ := hS'
  have hB := hI.1
  have hn7 := hB.1
  have hn3 := hB.2.1
  by_cases h0 : 0 < hs n 0
  · have e0 : ghigh (hs n) 1 = gtop (hs n) 1 (hs n 3) := if_neg (by decide)
    cases hf : gtop (hs n) 1 (hs n 3) with
    | some t =>
      obtain ⟨ht, -⟩ := gtop_lt _ _ hf
      obtain ⟨I1, A1, x1, x2, x3, x4, x5⟩ := c_moveTop (L := L) (xs := xs) (b := b) (p1 := 1) (p := 2) (v := 1) (w := 2) hI hB2 hc hc' zl1 (by decide) (e0.trans hf) (by decide) (by decide) (by omega) (by omega) (by omega) zl2 53
      have hm1 : mR A1 68 (hs n) := hm.c (x4 68 (by decide) (by decide) (by decide))
      have hm2 : zHm n hs (zuI I1 64 0 0) A1 := hm'.c (by rw [zuI_n (by decide), x5 64 (by decide) (by decide)]) (x4 71 (by decide) (by decide) (by decide))
      obtain ⟨I2, A2, A3, y1, y2, y3, y4, y5, y6, y7⟩ := m_kcome (L := L) (xs := xs) (b := b) (t := t) hm2 hm1 (by omega) hI.2.2.2.1
      refine ⟨nI t, I1, A1, I2, A3, b, ?_, ?_, h.moved (g' := gcr (gcomes (hs n) t 2) (hs n 3)) (n' := 0) hB2 hS hG h0 hc'.1 (hI.move hB2 ht (by omega)) x2 x3 (fun q q1 q2 q3 q4 => x4 q q1 q2 q4) x5 y4 y5 (fun q q1 q2 => y6 q q1 q2) (fun o' k' a1 a2 => by rw [y7 o' k' a1]; simp only [zuI_at, if_neg a2])⟩
      · rw [D_Eggs_layBy, B_Eggs_layBy_0]
        simp only [zr_0_2, zbS, c_stands L xs 58 b hc hB, zbI, h0, if_true, x1]
        rw [if_neg (by decide)]
      · rw [D_Model_layBy, B_Model_layBy_0]
        simp only [zp_64_0, zbS, m_isThere L xs 58 _ b hm1 hB, zbI, h0, if_true, zr_64_5, m_topOf' L xs 57 _ b hm1 hB zl1 (by decide), hf]
        rw [if_neg (by decide), show zopt (some t) = nI t from rfl, if_pos (zNn (by omega)), y1, zbV, zr_64_5, zbS, y3, zbV]
    | none =>
      have x1 := c_moveTopN (L := L) (xs := xs) (b := b) (p1 := 1) (v := 1) (w := 2) hI hc zl1 (by decide) (e0.trans hf) (by decide) 53
      refine ⟨-1000002, I, A, zuI I 64 0 0, A, b, ?_, ?_, (h.same (zSame.fI 64 0 0 rfl)).mono (by omega)⟩
      · rw [D_Eggs_layBy, B_Eggs_layBy_0]
        simp only [zr_0_2, zbS, c_stands L xs 58 b hc hB, zbI, h0, if_true, x1]
        rw [if_neg (by decide)]
      · rw [D_Model_layBy, B_Model_layBy_0]
        simp only [zp_64_0, zbS, m_isThere L xs 58 _ b hm hB, zbI, h0, if_true, zr_64_5, m_topOf' L xs 57 _ b hm hB zl1 (by decide), hf]
        rw [if_neg (by decide), if_neg (fun q => q rfl)]
  · refine ⟨-1000002, I, A, zuI I 64 0 0, A, b, ?_, ?_, (h.same (zSame.fI 64 0 0 rfl)).mono (by omega)⟩
    · rw [D_Eggs_layBy, B_Eggs_layBy_0]
      simp only [zr_0_2, zbS, c_stands L xs 58 b hc hB, zbI, zne, h0, not_true_eq_false, not_false_eq_true, if_true]
    · rw [D_Model_layBy, B_Model_layBy_0]
      simp only [zp_64_0, zbS, m_isThere L xs 58 _ b hm hB, zbI, zne, h0, not_true_eq_false, not_false_eq_true, if_true]
theorem P_takeOut (h : Rel B I A) (hB2 : B + 1 < 2 ^ 20) (v : Int32) : zOk L xs (B + 1) m_Eggs_takeOut m_Model_takeOut [.int v] I A b := by
  have hw := h
  obtain ⟨g, -, -, -, -, hS, -, hH⟩ := hw
  obtain ⟨n, o, hs, hc', hm', hG, rfl⟩ := hH.un
  have hS' := hS
  obtain ⟨hc, hm, hI⟩ := hS'
  have hB := hI.1
  have hn7 := hB.1
  have hn3 := hB.2.1
  by_cases h0 : 0 < hs n 0
  · by_cases h1 : 0 ≤ v.toInt ∧ v.toInt < (hs n 0 : Int)
    · obtain ⟨c, hc0, rfl⟩ := zth h1
      have e3 : (3 : Int32) + nI c = nI (3 + c) := by rw [zl3, nI_add]
      have e0 : ghigh (hs n) (3 + c) = gtop (hs n) (3 + c) (hs n 3) := ghigh_b
      cases hf : gtop (hs n) (3 + c) (hs n 3) with
      | some t =>
        obtain ⟨ht, -⟩ := gtop_lt _ _ hf
        obtain ⟨I1, A1, x1, x2, x3, x4, x5⟩ := c_moveTop (L := L) (xs := xs) (b := b) (p1 := 3 + c) (p := 2) (v := 3 + nI c) (w := 2) hI hB2 hc hc' e3 (by omega) (e0.trans hf) (by omega) (by omega) (by omega) (by omega) (by omega) zl2 53
        have hm1 : mR A1 68 (hs n) := hm.c (x4 68 (by decide) (by decide) (by decide))
        have hm2 : zHm n hs (zuI I1 64 0 0) A1 := hm'.c (by rw [zuI_n (by decide), x5 64 (by decide) (by decide)]) (x4 71 (by decide) (by decide) (by decide))
        obtain ⟨I2, A2, A3, y1, y2, y3, y4, y5, y6, y7⟩ := m_kcome (L := L) (xs := xs) (b := b) (t := t) hm2 hm1 (by omega) hI.2.2.2.1
        refine ⟨nI t, I1, A1, I2, A3, b, ?_, ?_, h.moved (g' := gcr (gcomes (hs n) t 2) (hs n 3)) (n' := 0) hB2 hS hG h0 hc'.1 (hI.move hB2 ht (by omega)) x2 x3 (fun q q1 q2 q3 q4 => x4 q q1 q2 q4) x5 y4 y5 (fun q q1 q2 => y6 q q1 q2) (fun o' k' a1 a2 => by rw [y7 o' k' a1]; simp only [zuI_at, if_neg a2])⟩
        · rw [D_Eggs_takeOut, B_Eggs_takeOut_0]
          simp only [zr_0_2, zbS, c_stands L xs 58 b hc hB, zbI, h0, if_true, c_hasBag L xs 58 b hc hB, h1, and_self, x1]
          rw [if_pos (by decide), if_neg (by decide)]
        · rw [D_Model_takeOut, B_Model_takeOut_0]
          simp only [zp_64_0, zbS, m_isThere L xs 58 _ b hm1 hB, zbI, h0, if_true, m_isBag L xs 57 _ b hm1 hB, h1, and_self, zr_64_5, m_topOf' L xs 57 _ b hm1 hB e3 (by omega), hf]
          rw [if_pos (by decide), if_pos (by decide), show zopt (some t) = nI t from rfl, if_pos (zNn (by omega)), y1, zbV, zr_64_5, zbS, y3, zbV]
      | none =>
        have x1 := c_moveTopN (L := L) (xs := xs) (b := b) (p1 := 3 + c) (v := 3 + nI c) (w := 2) hI hc e3 (by omega) (e0.trans hf) (by omega) 53
        refine ⟨-1000002, I, A, zuI I 64 0 0, A, b, ?_, ?_, (h.same (zSame.fI 64 0 0 rfl)).mono (by omega)⟩
        · rw [D_Eggs_takeOut, B_Eggs_takeOut_0]
          simp only [zr_0_2, zbS, c_stands L xs 58 b hc hB, zbI, h0, if_true, c_hasBag L xs 58 b hc hB, h1, and_self, x1]
          rw [if_pos (by decide), if_neg (by decide)]
        · rw [D_Model_takeOut, B_Model_takeOut_0]
          simp only [zp_64_0, zbS, m_isThere L xs 58 _ b hm hB, zbI, h0, if_true, m_isBag L xs 57 _ b hm hB, h1, and_self, zr_64_5, m_topOf' L xs 57 _ b hm hB e3 (by omega), hf]
          rw [if_pos (by decide), if_pos (by decide), if_neg (fun q => q rfl)]
    · refine ⟨-1000001, I, A, zuI I 64 0 0, A, b, ?_, ?_, (h.same (zSame.fI 64 0 0 rfl)).mono (by omega)⟩
      · rw [D_Eggs_takeOut, B_Eggs_takeOut_0]
        simp only [zr_0_2, zbS, c_stands L xs 58 b hc hB, zbI, h0, if_true, c_hasBag L xs 58 b hc hB, h1, if_false]
        rw [if_pos (by decide)]
      · rw [D_Model_takeOut, B_Model_takeOut_0]
        simp only [zp_64_0, zbS, m_isThere L xs 58 _ b hm hB, zbI, h0, if_true, m_isBag L xs 57 _ b hm hB, h1, if_false]
        rw [if_pos (by decide), if_neg (by decide)]
  · refine ⟨-1000002, I, A, zuI I 64 0 0, A, b, ?_, ?_, (h.same (zSame.fI 64 0 0 rfl)).mono (by omega)⟩
    · rw [D_Eggs_takeOut, B_Eggs_takeOut_0]
      simp only [zr_0_2, zbS, c_stands L xs 58 b hc hB, zbI, zne, h0, not_true_eq_false, not_false_eq_true, if_false]
    · rw [D_Model_takeOut, B_Model_takeOut_0]
      simp only [zp_64_0, zbS, m_isThere L xs 58 _ b hm hB, zbI, zne, h0, not_true_eq_false, not_false_eq_true, if_false]
theorem P_putIn (h : Rel B I A) (hB2 : B + 1 < 2 ^ 20) (u v : Int32) : zOk L xs (B + 1) m_Eggs_putIn m_Model_putIn [.int u, .int v] I A b := by
  have hw := h
  obtain ⟨g, -, -, -, -, hS, -, hH⟩ := hw
  obtain ⟨n, o, hs, hc', hm', hG, rfl⟩ := hH.un
  have hS' := hS
  obtain ⟨hc, hm, hI⟩ := hS'
  have hB := hI.1
  have hn7 := hB.1
  have hn3 := hB.2.1
  by_cases h0 : 0 ≤ u.toInt ∧ u.toInt < (hs n 3 : Int)
  · obtain ⟨t, ht, rfl⟩ := zth h0
    have ht7 : t < 7 := by omega
    by_cases h1 : 0 ≤ v.toInt ∧ v.toInt < (hs n 0 : Int)
    · obtain ⟨c, hc0, rfl⟩ := zth h1
      have e3 : (3 : Int32) + nI c = nI (3 + c) := by rw [zl3, nI_add]
      have e2 : (nI (gp (hs n) t) = (2 : Int32)) = (gp (hs n) t = 2) := by rw [zl2]; exact znI (gbl hB _) (by decide)
      by_cases c2 : gp (hs n) t = 2
      · have e2c : (nI (gp (hs n) t) = (2 : Int32)) = True := by rw [e2]; exact eq_true c2
        obtain ⟨I1, A1, x1, x2, x3, x4, x5⟩ := c_move (L := L) (xs := xs) (b := b) (p := 3 + c) hI hB2 hc hc' ht (by omega) (by omega) (by omega) (Or.inl c2) (by omega) 54
        have hm1 : mR A1 68 (hs n) := hm.c (x4 68 (by decide) (by decide) (by decide))
        have hm2 : zHm n hs (zuI I1 64 0 0) A1 := hm'.c (by rw [zuI_n (by decide), x5 64 (by decide) (by decide)]) (x4 71 (by decide) (by decide) (by decide))
        obtain ⟨I2, A2, A3, y1, y2, y3, y4, y5, y6, y7⟩ := m_kpack (L := L) (xs := xs) (b := b) (t := t) (c := c) hm2 hm1 hB (by have := hI.2.2.2.2.1; omega) ht7 (by omega)
        have hI' := hI.move hB2 ht (p := 3 + c) (by omega)
        have g3' : gcr (gcomes (hs n) t (3 + c)) (hs n 3) 3 = hs n 3 := by rw [gcr_h _ 3 (by decide), gco_n]
        refine ⟨(match gtop (hs n) (3 + c) (hs n 3) with | none => 0 | some w => nI (gload (gcr (gcomes (hs n) t (3 + c)) (hs n 3)) w)), I1, A1, I2, A3, b, ?_, ?_, h.moved (g' := gcr (gcomes (hs n) t (3 + c)) (hs n 3)) (n' := 0) hB2 hS hG (by omega) hc'.1 hI' x2 x3 (fun q q1 q2 q3 q4 => x4 q q1 q2 q4) x5 y4 y5 (fun q q1 q2 => y6 q q1 q2) (fun o' k' a1 a2 => by rw [y7 o' k' a1]; simp only [zuI_at, if_neg a2])⟩
        · rw [D_Eggs_putIn, B_Eggs_putIn_0]
          simp only [zr_0_2, zbS, c_hasThing L xs 58 b hc hB, zbI, h0, and_self, if_true, c_hasBag L xs 58 b hc hB, h1, zSr4 hc.1, hc.place hB b ht, e2c, e3, c_topOf L xs 56 b hc hB hI.2.1 (show 3 + c < 2 ^ 31 by omega) (show 3 + c ≠ 2 by omega), x1, zbV]
          rw [if_neg (by decide), if_pos (by decide), ghigh_b]
          cases hf : gtop (hs n) (3 + c) (hs n 3) with
          | none => rw [if_neg (fun q => q rfl)]
          | some w =>
            obtain ⟨hw, -⟩ := gtop_lt _ _ hf
            rw [show zopt (some w) = nI w from rfl, if_pos (zNn (by omega)), c_loadOn L xs 57 b x2 hI'.1 (by rw [g3']; exact hw), zbI]
        · rw [D_Model_putIn, B_Model_putIn_0]
          simp only [zp_64_0, zbS, m_isThing L xs 57 _ b hm1 hB, zbI, h0, and_self, if_true, m_isBag L xs 57 _ b hm1 hB, h1, zr_64_5, m_of' L xs 58 _ b hm1 zl3 ht7 (show 3 < 7 by decide), e2c, if_true]
          rw [if_neg (by decide), if_pos (by decide), y1, zbV]
          simp only [zr_64_5, zbS, e3, m_topOf L xs 57 _ b y2 hB (show 3 + c < 2 ^ 31 by omega), zbI, y3, zbV]
          cases hf : gtop (hs n) (3 + c) (hs n 3) with
          | none => rw [if_neg (fun q => q rfl)]
          | some w =>
            obtain ⟨hw, -⟩ := gtop_lt _ _ hf
            rw [show zopt (some w) = nI w from rfl, if_pos (zNn (by omega)), m_loadOf L xs 56 _ b y4 hI'.1 (by omega), zbI]
      · refine ⟨-1000002, I, A, zuI I 64 0 0, A, b, ?_, ?_, (h.same (zSame.fI 64 0 0 rfl)).mono (by omega)⟩
        · rw [D_Eggs_putIn, B_Eggs_putIn_0]
          simp only [zr_0_2, zbS, c_hasThing L xs 58 b hc hB, zbI, h0, and_self, if_true, c_hasBag L xs 58 b hc hB, h1, zSr4 hc.1, hc.place hB b ht, e2, c2, if_false]
          rw [if_neg (by decide), if_pos (by decide)]
        · rw [D_Model_putIn, B_Model_putIn_0]
          simp only [zp_64_0, zbS, m_isThing L xs 57 _ b hm hB, zbI, h0, and_self, if_true, m_isBag L xs 57 _ b hm hB, h1, zr_64_5, m_of' L xs 58 _ b hm zl3 ht7 (show 3 < 7 by decide), e2, c2, if_false]
          rw [if_neg (by decide), if_pos (by decide)]
    · refine ⟨-1000001, I, A, zuI I 64 0 0, A, b, ?_, ?_, (h.same (zSame.fI 64 0 0 rfl)).mono (by omega)⟩
      · rw [D_Eggs_putIn, B_Eggs_putIn_0]
        simp only [zr_0_2, zbS, c_hasThing L xs 58 b hc hB, zbI, h0, and_self, if_true, c_hasBag L xs 58 b hc hB, h1, if_false]
        rw [if_neg (by decide), if_neg (by decide)]
      · rw [D_Model_putIn, B_Model_putIn_0]
        simp only [zp_64_0, zbS, m_isThing L xs 57 _ b hm hB, zbI, h0, and_self, if_true, m_isBag L xs 57 _ b hm hB, h1, if_false]
        rw [if_neg (by decide), if_neg (by decide)]
  · refine ⟨-1000001, I, A, zuI I 64 0 0, A, b, ?_, ?_, (h.same (zSame.fI 64 0 0 rfl)).mono (by omega)⟩
    · rw [D_Eggs_putIn, B_Eggs_putIn_0]
      simp only [zr_0_2, zbS, c_hasThing L xs 58 b hc hB, zbI, zne, h0, not_false_eq_true, if_true]
    · rw [D_Model_putIn, B_Model_putIn_0]
      simp only [zp_64_0, zbS, m_isThing L xs 57 _ b hm hB, zbI, zne, h0, not_false_eq_true, if_true]
end
