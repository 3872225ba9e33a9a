section
variable {L : Nat} {xs : Nat → Int32} {B : Nat} {g : Nat → Nat} {I A I0 A0 : Nat → Nat → Int32} {b : Value}
/-- what a THING of a kind answers, and what it leaves -/
def aT (k w : Nat) : List Nat := if w = 0 then (if k = 1 then [11, 10, 21, 20] else if k = 2 then [12, 11, 10, 24, 21, 20] else if k = 3 then [11, 10, 22, 21, 20] else if k = 4 then [13, 10] else [14, 13, 10]) else (if k = 1 then [21, 20] else if k = 2 then [24, 21, 20] else if k = 3 then [22, 21, 20] else if k = 4 then [23, 20, 13, 10] else [23, 20, 14, 13, 10])
def aR (k w : Nat) (t we l : Int32) : Int32 := if w = 0 then (if k = 1 then we + (t + l) else if k = 2 then -(we + 2 * (t + l)) else if k = 3 then we + (t + l - 1000) else if k = 4 then we - 100 else 2 * (we - 100)) else (if k = 1 then t + l else if k = 2 then 2 * (t + l) else if k = 3 then t + l - 1000 else if k = 4 then t - (we - 100) else t - 2 * (we - 100))
theorem aT_le (k w : Nat) : (aT k w).length ≤ 16 := by
  unfold aT
  repeat' split
  all_goals decide
def aSb (k : Nat) : Int32 := if k = 1 then 11 else if k = 2 then 12 else if k = 3 then 11 else if k = 4 then 13 else 14
def aMb (k : Nat) : Int32 := if k = 1 then 21 else if k = 2 then 24 else if k = 3 then 22 else 23
theorem gv_size {k : Nat} (hk : 1 ≤ k ∧ k ≤ 5) (hs : I0 62 5 = aSb k) (hm : I0 62 6 = aMb k) : gv L xs b I0 A0 58 0 (I0 62 5) [] (aT k 0) (aR k 0 (I0 62 2) (I0 62 3) (I0 62 4)) := by
  rw [hs]
  rcases (show k = 1 ∨ k = 2 ∨ k = 3 ∨ k = 4 ∨ k = 5 by omega) with rfl | rfl | rfl | rfl | rfl
  · refine gv11 (by decide) (by decide) (gv10 (by decide) (by decide)) ?_
    rw [hm]
    exact gv21 (by decide) (by decide) (gv20 (by decide) (by decide))
  · refine gv12 (by decide) (by decide) (gv11 (by decide) (by decide) (gv10 (by decide) (by decide)) ?_)
    rw [hm]
    exact gv24 (by decide) (by decide) (gv21 (by decide) (by decide) (gv20 (by decide) (by decide)))
  · refine gv11 (by decide) (by decide) (gv10 (by decide) (by decide)) ?_
    rw [hm]
    exact gv22 (by decide) (by decide) (gv21 (by decide) (by decide) (gv20 (by decide) (by decide)))
  · exact gv13 (by decide) (by decide) (gv10 (by decide) (by decide))
  · exact gv14 (by decide) (by decide) (gv13 (by decide) (by decide) (gv10 (by decide) (by decide)))
theorem gv_mark {k : Nat} (hk : 1 ≤ k ∧ k ≤ 5) (hs : I0 62 5 = aSb k) (hm : I0 62 6 = aMb k) : gv L xs b I0 A0 58 0 (I0 62 6) [] (aT k 1) (aR k 1 (I0 62 2) (I0 62 3) (I0 62 4)) := by
  rw [hm]
  rcases (show k = 1 ∨ k = 2 ∨ k = 3 ∨ k = 4 ∨ k = 5 by omega) with rfl | rfl | rfl | rfl | rfl
  · exact gv21 (by decide) (by decide) (gv20 (by decide) (by decide))
  · exact gv24 (by decide) (by decide) (gv21 (by decide) (by decide) (gv20 (by decide) (by decide)))
  · exact gv22 (by decide) (by decide) (gv21 (by decide) (by decide) (gv20 (by decide) (by decide)))
  · refine gv23 (by decide) (by decide) (gv20 (by decide) (by decide)) ?_
    rw [hs]
    exact gv13 (by decide) (by decide) (gv10 (by decide) (by decide))
  · refine gv23 (by decide) (by decide) (gv20 (by decide) (by decide)) ?_
    rw [hs]
    exact gv14 (by decide) (by decide) (gv13 (by decide) (by decide) (gv10 (by decide) (by decide)))
/-- the reference's bodies -/
def gm (L : Nat) (xs : Nat → Int32) (b : Value) (I0 A0 : Nat → Nat → Int32) (d m t : Nat) (T T' : List Nat) (r : Int32) : Prop := ∀ I A, aL 64 29 78 I0 A0 T I A → ∃ I' A', pm_call L xs d m [.ref 64, .int (nI t)] (zL I A b) = some (some (.int r), zL I' A' b) ∧ aL 64 29 78 I0 A0 T' I' A'
variable {d t : Nat} {T T' T2 : List Nat} {r r2 : Int32}
theorem aL.row (h : aL 64 29 78 I0 A0 T I A) (hm : mR A0 68 g) : mR A 68 g := hm.c (h.2.1 68 (by decide))
theorem gm_plain (hm : mR A0 68 g) (ht : t < 7) (hT : T.length < 16) : gm L xs b I0 A0 (d + 3) m_Model_plainSize t T (T ++ [10]) (nI (gw g t)) := by
  intro I A h
  obtain ⟨I1, A1, x1, x2⟩ := m_began (L := L) (xs := xs) (b := b) h hT 10 (v := 10) zl10 (d + 1)
  refine ⟨I1, A1, ?_, x2⟩
  rw [D_Model_plainSize, B_Model_plainSize_0, x1, zbV, zr_64_5, zbS, m_of' L xs (d + 1) I1 b (x2.row hm) zl1 ht (show 1 < 7 by decide), zbI]
theorem gm_soft4 (hm : mR A0 68 g) (hk : gk g t = 4) (ht : t < 7) (hT : T.length < 15) : gm L xs b I0 A0 (d + 4) m_Model_softSize t T (T ++ [13] ++ [10]) (nI (gw g t) - 100) := by
  intro I A h
  obtain ⟨I1, A1, x1, x2⟩ := m_began (L := L) (xs := xs) (b := b) h (by omega) 13 (v := 13) (by decide) (d + 2)
  obtain ⟨I2, A2, y1, y2⟩ := gm_plain (L := L) (xs := xs) (b := b) (d := d) (T := T ++ [13]) hm ht (by simp; omega) I1 A1 x2
  refine ⟨I2, A2, ?_, y2⟩
  rw [D_Model_softSize, B_Model_softSize_0, zr_64_5, zbS, m_of' L xs (d + 2) I b (h.row hm) zl0 ht (show 0 < 7 by decide), zbI, show g (6 + 7 * t + 0) = 4 from hk]
  dsimp only
  rw [if_pos (by decide), x1, zbV, y1, zbI]
theorem gm_soft5 (hm : mR A0 68 g) (hk : gk g t = 5) (ht : t < 7) (hT : T.length < 14) : gm L xs b I0 A0 (d + 4) m_Model_softSize t T (T ++ [14] ++ [13] ++ [10]) (2 * (nI (gw g t) - 100)) := by
  intro I A h
  obtain ⟨I1, A1, x1, x2⟩ := m_began (L := L) (xs := xs) (b := b) h (by omega) 14 (v := 14) (by decide) (d + 2)
  obtain ⟨I2, A2, y1, y2⟩ := m_began (L := L) (xs := xs) (b := b) x2 (by simp; omega) 13 (v := 13) (by decide) (d + 2)
  obtain ⟨I3, A3, z1, z2⟩ := gm_plain (L := L) (xs := xs) (b := b) (d := d) (T := T ++ [14] ++ [13]) hm ht (by simp; omega) I2 A2 y2
  refine ⟨I3, A3, ?_, z2⟩
  rw [D_Model_softSize, B_Model_softSize_0, zr_64_5, zbS, m_of' L xs (d + 2) I b (h.row hm) zl0 ht (show 0 < 7 by decide), zbI, show g (6 + 7 * t + 0) = 5 from hk]
  dsimp only
  rw [if_neg (by decide), x1, zbV, y1, zbV, z1, zbI]
theorem gm_mark (hm : mR A0 68 g) (hB : gB g) (hk : 1 ≤ gk g t ∧ gk g t ≤ 5) (ht : t < 7) (hT : T.length < 11) : gm L xs b I0 A0 (d + 5) m_Model_markOf t T (T ++ aT (gk g t) 1) (aR (gk g t) 1 (nI t) (nI (gw g t)) (nI (gload g t))) := by
  intro I A h
  rw [D_Model_markOf, B_Model_markOf_0, zr_64_5, zbS, m_of' L xs (d + 3) I b (h.row hm) zl0 ht (show 0 < 7 by decide), zbI, show g (6 + 7 * t + 0) = gk g t from rfl]
  dsimp only
  obtain ⟨k, hkk⟩ : ∃ k, k = gk g t := ⟨_, rfl⟩
  rw [← hkk] at hk ⊢
  rcases (show k = 1 ∨ k = 2 ∨ k = 3 ∨ k = 4 ∨ k = 5 by omega) with rfl | rfl | rfl | rfl | rfl
  · obtain ⟨I1, A1, x1, x2⟩ := m_began (L := L) (xs := xs) (b := b) h (by omega) 21 (v := 21) (by decide) (d + 3)
    obtain ⟨I2, A2, y1, y2⟩ := m_began (L := L) (xs := xs) (b := b) x2 (by simp; omega) 20 (v := 20) (by decide) (d + 3)
    refine ⟨I2, A2, ?_, by rw [List.append_assoc] at y2; exact y2⟩
    rw [if_pos (by decide), if_pos (by decide), x1, zbV, y1, zbV, zr_64_5, zbS, m_loadOf L xs (d + 1) I2 b (y2.row hm) hB ht, zbI, if_neg (by decide)]
    rfl
  · obtain ⟨I0', A0', w1, w2⟩ := m_began (L := L) (xs := xs) (b := b) h (by omega) 24 (v := 24) (by decide) (d + 3)
    obtain ⟨I1, A1, x1, x2⟩ := m_began (L := L) (xs := xs) (b := b) w2 (by simp; omega) 21 (v := 21) (by decide) (d + 3)
    obtain ⟨I2, A2, y1, y2⟩ := m_began (L := L) (xs := xs) (b := b) x2 (by simp; omega) 20 (v := 20) (by decide) (d + 3)
    refine ⟨I2, A2, ?_, by rw [List.append_assoc, List.append_assoc] at y2; exact y2⟩
    rw [if_pos (by decide), if_neg (by decide), if_pos (by decide), w1, zbV, x1, zbV, y1, zbV, zr_64_5, zbS, m_loadOf L xs (d + 1) I2 b (y2.row hm) hB ht, zbI, if_pos (by decide), if_pos (by decide)]
    rfl
  · obtain ⟨I0', A0', w1, w2⟩ := m_began (L := L) (xs := xs) (b := b) h (by omega) 22 (v := 22) (by decide) (d + 3)
    obtain ⟨I1, A1, x1, x2⟩ := m_began (L := L) (xs := xs) (b := b) w2 (by simp; omega) 21 (v := 21) (by decide) (d + 3)
    obtain ⟨I2, A2, y1, y2⟩ := m_began (L := L) (xs := xs) (b := b) x2 (by simp; omega) 20 (v := 20) (by decide) (d + 3)
    refine ⟨I2, A2, ?_, by rw [List.append_assoc, List.append_assoc] at y2; exact y2⟩
    rw [if_pos (by decide), if_neg (by decide), if_neg (by decide), w1, zbV, x1, zbV, y1, zbV, zr_64_5, zbS, m_loadOf L xs (d + 1) I2 b (y2.row hm) hB ht, zbI, if_pos (by decide), if_neg (by decide)]
    rfl
  · obtain ⟨I1, A1, x1, x2⟩ := m_began (L := L) (xs := xs) (b := b) h (by omega) 23 (v := 23) (by decide) (d + 3)
    obtain ⟨I2, A2, y1, y2⟩ := m_began (L := L) (xs := xs) (b := b) x2 (by simp; omega) 20 (v := 20) (by decide) (d + 3)
    obtain ⟨I3, A3, z1, z2⟩ := gm_soft4 (L := L) (xs := xs) (b := b) (d := d) (T := T ++ [23] ++ [20]) hm hkk.symm ht (by simp; omega) I2 A2 y2
    refine ⟨I3, A3, ?_, by rw [List.append_assoc, List.append_assoc, List.append_assoc] at z2; exact z2⟩
    rw [if_neg (by decide), x1, zbV, y1, zbV, z1, zbI]
    rfl
  · obtain ⟨I1, A1, x1, x2⟩ := m_began (L := L) (xs := xs) (b := b) h (by omega) 23 (v := 23) (by decide) (d + 3)
    obtain ⟨I2, A2, y1, y2⟩ := m_began (L := L) (xs := xs) (b := b) x2 (by simp; omega) 20 (v := 20) (by decide) (d + 3)
    obtain ⟨I3, A3, z1, z2⟩ := gm_soft5 (L := L) (xs := xs) (b := b) (d := d) (T := T ++ [23] ++ [20]) hm hkk.symm ht (by simp; omega) I2 A2 y2
    refine ⟨I3, A3, ?_, by rw [List.append_assoc, List.append_assoc, List.append_assoc, List.append_assoc] at z2; exact z2⟩
    rw [if_neg (by decide), x1, zbV, y1, zbV, z1, zbI]
    rfl
theorem gm_size (hm : mR A0 68 g) (hB : gB g) (hk : 1 ≤ gk g t ∧ gk g t ≤ 5) (ht : t < 7) : gm L xs b I0 A0 (d + 6) m_Model_sizeOf t [] (aT (gk g t) 0) (aR (gk g t) 0 (nI t) (nI (gw g t)) (nI (gload g t))) := by
  intro I A h
  rw [D_Model_sizeOf, B_Model_sizeOf_0, zr_64_5, zbS, m_of' L xs (d + 4) I b (h.row hm) zl0 ht (show 0 < 7 by decide), zbI, show g (6 + 7 * t + 0) = gk g t from rfl]
  dsimp only
  have hmk := fun T (hT : T.length < 11) => gm_mark (L := L) (xs := xs) (b := b) (d := d) (I0 := I0) (T := T) hm hB hk ht hT
  obtain ⟨k, hkk⟩ : ∃ k, k = gk g t := ⟨_, rfl⟩
  rw [← hkk] at hk hmk ⊢
  rcases (show k = 1 ∨ k = 2 ∨ k = 3 ∨ k = 4 ∨ k = 5 by omega) with rfl | rfl | rfl | rfl | rfl
  · obtain ⟨I1, A1, x1, x2⟩ := m_began (L := L) (xs := xs) (b := b) h (by decide) 11 (v := 11) (by decide) (d + 4)
    obtain ⟨I2, A2, y1, y2⟩ := gm_plain (L := L) (xs := xs) (b := b) (d := d + 2) (T := [] ++ [11]) hm ht (by decide) I1 A1 x2
    obtain ⟨I3, A3, z1, z2⟩ := hmk _ (by decide) I2 A2 y2
    refine ⟨I3, A3, ?_, z2⟩
    rw [if_pos (by decide), if_pos (by decide), x1, zbV, y1, zbI, z1, zbI, if_pos (by decide)]
    rfl
  · obtain ⟨I0', A0', w1, w2⟩ := m_began (L := L) (xs := xs) (b := b) h (by decide) 12 (v := 12) (by decide) (d + 4)
    obtain ⟨I1, A1, x1, x2⟩ := m_began (L := L) (xs := xs) (b := b) w2 (by decide) 11 (v := 11) (by decide) (d + 4)
    obtain ⟨I2, A2, y1, y2⟩ := gm_plain (L := L) (xs := xs) (b := b) (d := d + 2) (T := [] ++ [12] ++ [11]) hm ht (by decide) I1 A1 x2
    obtain ⟨I3, A3, z1, z2⟩ := hmk _ (by decide) I2 A2 y2
    refine ⟨I3, A3, ?_, z2⟩
    rw [if_pos (by decide), if_neg (by decide), w1, zbV, x1, zbV, y1, zbI, z1, zbI, if_neg (by decide)]
    rfl
  · obtain ⟨I1, A1, x1, x2⟩ := m_began (L := L) (xs := xs) (b := b) h (by decide) 11 (v := 11) (by decide) (d + 4)
    obtain ⟨I2, A2, y1, y2⟩ := gm_plain (L := L) (xs := xs) (b := b) (d := d + 2) (T := [] ++ [11]) hm ht (by decide) I1 A1 x2
    obtain ⟨I3, A3, z1, z2⟩ := hmk _ (by decide) I2 A2 y2
    refine ⟨I3, A3, ?_, z2⟩
    rw [if_pos (by decide), if_pos (by decide), x1, zbV, y1, zbI, z1, zbI, if_pos (by decide)]
    rfl
  · obtain ⟨I3, A3, z1, z2⟩ := gm_soft4 (L := L) (xs := xs) (b := b) (d := d + 1) (T := []) hm hkk.symm ht (by decide) I A h
    refine ⟨I3, A3, ?_, z2⟩
    rw [if_neg (by decide), z1, zbI]
    rfl
  · obtain ⟨I3, A3, z1, z2⟩ := gm_soft5 (L := L) (xs := xs) (b := b) (d := d + 1) (T := []) hm hkk.symm ht (by decide) I A h
    refine ⟨I3, A3, ?_, z2⟩
    rw [if_neg (by decide), z1, zbI]
    rfl
theorem aro2 (k : Nat) (hk : 1 ≤ k ∧ k ≤ 5) : pm_ro (pm_od L xs) 2 (nI k) = some (aSb k) := by
  rcases (show k = 1 ∨ k = 2 ∨ k = 3 ∨ k = 4 ∨ k = 5 by omega) with rfl | rfl | rfl | rfl | rfl <;> rfl
theorem aro3 (k : Nat) (hk : 1 ≤ k ∧ k ≤ 5) : pm_ro (pm_od L xs) 3 (nI k) = some (aMb k) := by
  rcases (show k = 1 ∨ k = 2 ∨ k = 3 ∨ k = 4 ∨ k = 5 by omega) with rfl | rfl | rfl | rfl | rfl <;> rfl
theorem P_ask (h : Rel B I A) (u v : Int32) : zOk L xs B m_Eggs_ask m_Model_ask [.int u, .int v] I A b := by
  have hw := h
  obtain ⟨g, -, -, -, -, hS, -, -⟩ := hw
  obtain ⟨hc, hm, hI⟩ := hS
  have hB := hI.1
  have h7 := hB.1
  by_cases h0 : 0 ≤ u.toInt ∧ u.toInt < (g 3 : Int)
  · obtain ⟨t, ht, rfl⟩ := zth h0
    rcases zk2 (v := v) with hbad | ⟨w, hw2, rfl⟩
    · have hb2 : v < 0 ∨ (¬ v < 0 ∧ ¬ v ≤ 1) := by
        rcases hbad with q | ⟨q1, q2⟩
        · exact Or.inl q
        · refine Or.inr ⟨q1, fun q => q2 ?_⟩
          have e1 : (1 : Int32).toInt = 1 := rfl
          have e2 : (2 : Int32).toInt = 2 := rfl
          simp only [fa_lt, fa_le, e1, e2] at q ⊢
          omega
      refine zOk.pure (r := -1000001) h ?_ ?_
      · rw [D_Eggs_ask, B_Eggs_ask_0]
        simp only [zr_0_2, zbS, c_hasThing L xs 58 b hc hB, zbI, h0, and_self, if_true]
        rw [if_neg (by decide)]
        rcases hb2 with q | ⟨q1, q2⟩
        · rw [if_pos q]
        · rw [if_neg q1, if_neg q2]
      · rw [D_Model_ask, B_Model_ask_0]
        simp only [zp_64_0, zbS, m_isThing L xs 57 _ b hm hB, zbI, h0, and_self, if_true, m_in, zin01 hbad, if_false]
        rw [if_neg (by decide), if_neg (by decide)]
    · obtain ⟨hk, -, -, -⟩ := hI.2.2.2.2.2.1 t ht
      have ht7 : t < 7 := by omega
      have h1 : ¬ nI w < 0 := nI_pos (by omega)
      have h2 : nI w ≤ 1 := by rw [zl1]; exact nI_le (by omega) (by decide)
      have h3 : (0 ≤ nI w ∧ nI w ≤ 1) = True := eq_true ⟨nI_pos' (by omega), h2⟩
      obtain ⟨I1, hI1⟩ : ∃ I1, I1 = zuI (zuI (zuI (zuI (zuI (zuI I 62 2 (nI t)) 62 3 (nI (gw g t))) 62 4 (nI (gload g t))) 62 5 (aSb (gk g t))) 62 6 (aMb (gk g t))) 62 1 0 := ⟨_, rfl⟩
      have io : ∀ o', o' ≠ 62 → I1 o' = I o' := fun o' ho => by
        funext k
        rw [hI1, zuI_o ho, zuI_o ho, zuI_o ho, zuI_o ho, zuI_o ho, zuI_o ho]
      have i1 : I1 62 1 = 0 := by rw [hI1, zuI_s]
      have i2 : I1 62 2 = nI t := by rw [hI1, zuI_n (by decide), zuI_n (by decide), zuI_n (by decide), zuI_n (by decide), zuI_n (by decide), zuI_s]
      have i3 : I1 62 3 = nI (gw g t) := by rw [hI1, zuI_n (by decide), zuI_n (by decide), zuI_n (by decide), zuI_n (by decide), zuI_s]
      have i4 : I1 62 4 = nI (gload g t) := by rw [hI1, zuI_n (by decide), zuI_n (by decide), zuI_n (by decide), zuI_s]
      have i5 : I1 62 5 = aSb (gk g t) := by rw [hI1, zuI_n (by decide), zuI_n (by decide), zuI_s]
      have i6 : I1 62 6 = aMb (gk g t) := by rw [hI1, zuI_n (by decide), zuI_s]
      have hb0 : aL 62 1 63 I1 A [] I1 A := ⟨fun _ _ _ => rfl, fun _ _ => rfl, i1, fun i hi => absurd hi (Nat.not_lt_zero _)⟩
      have hcl : ∃ I2 A2, pm_call L xs 60 m_Eggs_ask [.ref 0, .int (nI t), .int (nI w)] (zL I A b) = some (some (.int (aR (gk g t) w (nI t) (nI (gw g t)) (nI (gload g t)))), zL I2 A2 b) ∧ aL 62 1 63 I1 A (aT (gk g t) w) I2 A2 := by
        have key : ∀ (x : Int32) (I2 A2 : Nat → Nat → Int32) (r : Int32), (if ¬ nI w = (1 : Int32) then I1 62 5 else I1 62 6) = x → pm_call L xs 58 m_Asks_gives [.ref 62, .int x, .int 0] (zL I1 A b) = some (some (.int r), zL I2 A2 b) → pm_call L xs 60 m_Eggs_ask [.ref 0, .int (nI t), .int (nI w)] (zL I A b) = some (some (.int r), zL I2 A2 b) := by
          intro x I2 A2 r hx hr
          have hcw : cR (zuI (zuI I 62 2 (nI t)) 62 3 (nI (gw g t))) A 15 g := hc.c (by funext k; rw [zuI_o (by decide), zuI_o (by decide)]) (fun _ _ _ => rfl)
          have ha : pm_call L xs 59 m_Asks_answer [.ref 62, .ref 15, .int (nI t), .int (nI w)] (zL I A b) = some (some (.int r), zL I2 A2 b) := by
            rw [D_Asks_answer, B_Asks_answer_0, zSr1 hc.1, zbS, hc.kind hB b ht, zbS, if_neg (nI_pos (gbl hB _)), if_pos (show nI (gk g t) ≤ (5 : Int32) by rw [zl5]; exact nI_le hk.2 (by decide)), zp_62_2, zbS, zSr2 hc.1, zbS, z_rd (zSa2 hc.1) ht7, (hc.2.2 t ht).2.1, zbS, zp_62_3, zbS, c_loadOn L xs 56 b hcw hB ht, zbI, zp_62_4, zbS, aro2 _ hk, zbS, zp_62_5, zbS, aro3 _ hk, zbS, zp_62_6, zbS, zp_62_1, zbS, ← hI1, zg_62_5, zg_62_6, zbS, zbS]
            by_cases c : ¬ nI w = (1 : Int32)
            · rw [if_pos c] at hx ⊢
              rw [hx, hr, zbI]
            · rw [if_neg c] at hx ⊢
              rw [hx, hr, zbI]
          rw [D_Eggs_ask, B_Eggs_ask_0]
          simp only [zr_0_2, zr_0_8, zbS, c_hasThing L xs 58 b hc hB, zbI, h0, and_self, if_true]
          rw [if_neg (by decide), if_neg h1, if_pos h2, ha, zbI]
        rcases (show w = 0 ∨ w = 1 by omega) with rfl | rfl
        · obtain ⟨I2, A2, y1, y2⟩ := gv_size (L := L) (xs := xs) (b := b) (A0 := A) hk i5 i6 I1 A hb0
          rw [i2, i3, i4] at y1
          exact ⟨I2, A2, key _ _ _ _ (if_pos (by decide)) y1, y2⟩
        · obtain ⟨I2, A2, y1, y2⟩ := gv_mark (L := L) (xs := xs) (b := b) (A0 := A) hk i5 i6 I1 A hb0
          rw [i2, i3, i4] at y1
          exact ⟨I2, A2, key _ _ _ _ (if_neg (by decide)) y1, y2⟩
      obtain ⟨I2, A2, y1, y2⟩ := hcl
      have hm2 : mR A2 68 g := hm.c (y2.2.1 68 (by decide))
      obtain ⟨I3, hI3⟩ : ∃ I3, I3 = zuI (zuI I2 64 0 0) 64 29 0 := ⟨_, rfl⟩
      have hb1 : aL 64 29 78 I3 A2 [] I3 A2 := ⟨fun _ _ _ => rfl, fun _ _ => rfl, by rw [hI3, zuI_s]; rfl, fun i hi => absurd hi (Nat.not_lt_zero _)⟩
      have hml : ∃ I4 A4, pm_call L xs 60 m_Model_ask [.ref 64, .int (nI t), .int (nI w)] (zL I2 A2 b) = some (some (.int (aR (gk g t) w (nI t) (nI (gw g t)) (nI (gload g t)))), zL I4 A4 b) ∧ aL 64 29 78 I3 A2 (aT (gk g t) w) I4 A4 := by
        rw [D_Model_ask, B_Model_ask_0]
        simp only [zp_64_0, zbS, m_isThing L xs 57 _ b hm2 hB, zbI, h0, and_self, if_true, m_in, h3, zp_64_29, ← hI3]
        rw [if_neg (by decide), if_pos (by decide)]
        rcases (show w = 0 ∨ w = 1 by omega) with rfl | rfl
        · obtain ⟨I4, A4, z1, z2⟩ := gm_size (L := L) (xs := xs) (b := b) (d := 53) hm2 hB hk ht7 I3 A2 hb1
          exact ⟨I4, A4, by rw [if_neg (fun q => q rfl), z1, zbI], z2⟩
        · obtain ⟨I4, A4, z1, z2⟩ := gm_mark (L := L) (xs := xs) (b := b) (d := 54) (T := []) hm2 hB hk ht7 (by decide) I3 A2 hb1
          exact ⟨I4, A4, by rw [if_pos (by decide), z1, zbI], z2⟩
      obtain ⟨I4, A4, z1, z2⟩ := hml
      refine ⟨_, I2, A2, I4, A4, b, y1, z1, h.asked (fun o' k' hk' a1 a2 => ?_) (fun q hq a1 a2 => by rw [z2.2.1 q a2, y2.2.1 q a1]) (by rw [z2.2.1 60 (by decide), y2.2.1 60 (by decide)]) (by rw [z2.2.1 61 (by decide), y2.2.1 61 (by decide)]) ⟨(aT (gk g t) w).length, aT_le _ _, ?_, z2.2.2.1, fun i hi => ?_⟩⟩
      · rw [z2.1 o' k' a2, hI3, zuI_at, if_neg a2, zuI_at, if_neg (zKI_0 hk'), y2.1 o' k' (by omega), io o' a1]
      · rw [z2.1 62 1 (by decide), hI3, zuI_o (by decide), zuI_o (by decide)]
        exact y2.2.2.1
      · rw [z2.2.1 63 (by decide), y2.2.2.2 i hi, z2.2.2.2 i hi]
  · refine zOk.pure (r := -1000001) h ?_ ?_
    · rw [D_Eggs_ask, B_Eggs_ask_0]
      simp only [zr_0_2, zbS, c_hasThing L xs 58 b hc hB, zbI, zne, h0, not_false_eq_true, if_true]
    · rw [D_Model_ask, B_Model_ask_0]
      simp only [zp_64_0, zbS, m_isThing L xs 57 _ b hm hB, zbI, zne, h0, not_false_eq_true, if_true]
end
