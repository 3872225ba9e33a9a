/-! ROWS: row, set, drop -/
section
variable (L : Nat) (xs : Nat → Int32) (d : Nat)
theorem c_isRow (v : Int32) (σ : pm_H) : pm_call L xs (d + 1) m_Rows_isRow [.int v] σ = some (some (.int (if 0 ≤ v ∧ v ≤ 7 then 1 else 0)), σ) := by
  rw [C_Rows_isRow, B_Rows_isRow_0]
  have e8 : ((8 : Int32) ≤ v) = ¬ (v ≤ 7) := by
    apply propext
    rw [fa_le, fa_le, show (8 : Int32).toInt = 8 by decide, show (7 : Int32).toInt = 7 by decide]
    omega
  have e0 : (v < 0) = ¬ (0 ≤ v) := by
    apply propext
    rw [fa_le, fa_lt]
    omega
  simp only [e8, e0]
  by_cases h1 : 0 ≤ v
  · by_cases h2 : v ≤ 7
    · simp [h1, h2]
    · simp [h1, h2]
  · simp [h1]
theorem c_isLane (v : Int32) (σ : pm_H) : pm_call L xs (d + 1) m_Rows_isLane [.int v] σ = some (some (.int (if 0 ≤ v ∧ v ≤ 2 then 1 else 0)), σ) := by
  rw [C_Rows_isLane, B_Rows_isLane_0]
  have e8 : ((2 : Int32) < v) = ¬ (v ≤ 2) := by
    apply propext
    rw [fa_le, fa_lt]
    omega
  have e0 : (v < 0) = ¬ (0 ≤ v) := by
    apply propext
    rw [fa_le, fa_lt]
    omega
  simp only [e8, e0]
  by_cases h1 : 0 ≤ v
  · by_cases h2 : v ≤ 2
    · simp [h1, h2]
    · simp [h1, h2]
  · simp [h1]
theorem m_isRow (v : Int32) (σ : pm_H) : pm_call L xs (d + 2) m_Model_isRow [.int v] σ = some (some (.int (if 0 ≤ v ∧ v ≤ 7 then 1 else 0)), σ) := by
  rw [C_Model_isRow, B_Model_isRow_0]
  simp only [m_in L xs, zbI]
  by_cases h : 0 ≤ v ∧ v ≤ 7
  · simp [h]
  · simp [h]
variable {I A : Nat → Nat → Int32} (b : Value)
theorem c_found (f : Int32) : pm_call L xs (d + 1) m_Eggs_found [.ref 0, .int f] (zL I A b) = some (some (.int (-1000010 - f)), zL (zuI I 0 10 f) A b) := by
  rw [D_Eggs_found, B_Eggs_found_0]
  simp only [zp_0_10, zbS]
theorem c_fine (f : Int32) : pm_call L xs (d + 1) m_Eggs_fine [.ref 0, .int f] (zL I A b) = some (some (.int f), zL (zuI I 0 10 0) A b) := by
  rw [D_Eggs_fine, B_Eggs_fine_0]
  simp only [zp_0_10, zbS]
theorem m_finding (f : Int32) : pm_call L xs (d + 1) m_Model_finding [.ref 64, .int f] (zL I A b) = some (some (.int (-1000010 - f)), zL (zuI I 64 1 f) A b) := by
  rw [D_Model_finding, B_Model_finding_0]
  simp only [zp_64_1, zbS]
theorem c_isMissing {r : Nat} (hr : r < 8) : pm_call L xs (d + 1) m_Rows_isMissing [.ref 1, .int (nI r)] (zL I A b) = some (some (.int (if A 12 r = -1 then 1 else 0)), zL I A b) := by
  rw [D_Rows_isMissing, B_Rows_isMissing_0]
  simp only [zr_1_2, zbS, z_rd za_12 hr]
  by_cases h : A 12 r = -1
  · simp [h]
  · simp [h]
theorem c_reaches {r N : Nat} (hr : r < 8) (hN : N ≤ 40) (hS : A 12 r = nI N) (i n : Int32) : pm_call L xs (d + 1) m_Rows_reaches [.ref 1, .int (nI r), .int i, .int n] (zL I A b) = some (some (.int (if 0 ≤ i.toInt ∧ 0 ≤ n.toInt ∧ i.toInt + n.toInt ≤ N then 1 else 0)), zL I A b) := by
  rw [D_Rows_reaches, B_Rows_reaches_0]
  simp only [zr_1_2, zbS, z_rd za_12 hr, hS]
  have e0 : (0 : Int32).toInt = 0 := by decide
  by_cases h1 : i < 0
  · have : ¬ 0 ≤ i.toInt := by rw [fa_lt, e0] at h1; omega
    rw [if_pos h1, if_neg (fun h => this h.1)]
  · rw [if_neg h1]
    have h1' : 0 ≤ i.toInt := by rw [fa_lt, e0] at h1; omega
    by_cases h2 : n < 0
    · have : ¬ 0 ≤ n.toInt := by rw [fa_lt, e0] at h2; omega
      rw [if_pos h2, if_neg (fun h => this h.2.1)]
    · rw [if_neg h2]
      obtain ⟨j, hj, rfl⟩ := nI_of h2
      have ej := nI_toInt hj
      by_cases h3 : nI N < nI j
      · rw [nI_ltI (by omega) hj] at h3
        rw [if_pos (nI_lt h3 hj), if_neg (fun h => by omega)]
      · rw [if_neg h3]
        rw [nI_ltI (by omega) hj] at h3
        rw [pk_sub (by omega)]
        have e5 := nI_toInt (show N - j < 2 ^ 31 by omega)
        by_cases h4 : nI (N - j) < i
        · rw [if_pos h4, if_neg (fun h => by rw [fa_lt] at h4; omega)]
        · rw [if_neg h4, if_pos ⟨h1', by omega, by rw [fa_lt] at h4; omega⟩]
theorem c_findingAt {r : Nat} (hr : r < 8) (hw : zRw1 A r) (i n : Int32) : pm_call L xs (d + 2) m_Rows_findingAt [.ref 1, .int (nI r), .int i, .int n] (zL I A b) = some (some (.int (if A 12 r = -1 then 1 else if 0 ≤ i.toInt ∧ 0 ≤ n.toInt ∧ i.toInt + n.toInt ≤ (A 12 r).toInt then 0 else 2)), zL I A b) := by
  rw [D_Rows_findingAt, B_Rows_findingAt_0]
  simp only [c_isMissing L xs d b hr, zbI]
  rcases hw.1 with ⟨h1, -⟩ | ⟨N, l, hN, hl, h1, h2, h3, h4⟩
  · simp [h1]
  · have e1 : (A 12 r = -1) = False := by rw [h1]; exact zn2 (by omega)
    simp only [e1, if_false]
    simp only [if_true, c_reaches L xs d b hr hN h1, zbI]
    rw [h1, nI_toInt (by omega)]
    by_cases c : 0 ≤ i.toInt ∧ 0 ≤ n.toInt ∧ i.toInt + n.toInt ≤ (N : Int)
    · rw [if_pos c, if_pos c]; simp
    · rw [if_neg c, if_neg c]; simp
theorem c_make {r : Nat} (hr : r < 8) (l n : Int32) : pm_call L xs (d + 1) m_Rows_make [.ref 1, .int (nI r), .int l, .int n] (zL I A b) = some (none, zL I (zcp (zuA (zuA A 11 r l) 12 r n) (3 + r) 0 40 (fun _ => 0)) b) := by
  rw [D_Rows_make, B_Rows_make_0]
  simp only [zr_1_1, zr_1_2, zbS, z_wr za_11 hr, z_wr za_12 hr]
  refine (zfill (fun k A => zE L xs d K_Rows_make 17 [some (.ref 1), some (.int (nI r)), some (.int l), some (.int n), some (.int k)] [] (zL I A b)) _ (3 + r) 0 40 (fun _ => 0) (fun k hk => ?_)).trans ?_
  · rw [B_Rows_make_17]
    simp only [zr_1_0, zbS, z_items hr, zl40, Nat.zero_add]
    rw [if_neg (nI_ge hk (by decide)), z_wr (za_row hr) hk, zbS]
  · rw [B_Rows_make_17, zl40, if_pos (nI_le (Nat.le_refl _) (by decide))]
theorem c_rput {r : Nat} (hr : r < 8) {i : Nat} (hi : i < 40) (v : Int32) : pm_call L xs (d + 1) m_Rows_put [.ref 1, .int (nI r), .int (nI i), .int v] (zL I A b) = some (some (.int (if A 11 r = 0 then (Int32.toInt8 v).toInt32 else if A 11 r = 1 then (Int32.toInt16 v).toInt32 else v)), zL I (zuA A (3 + r) i (if A 11 r = 0 then (Int32.toInt8 v).toInt32 else if A 11 r = 1 then (Int32.toInt16 v).toInt32 else v)) b) := by
  rw [D_Rows_put, B_Rows_put_0]
  simp only [zr_1_1, zr_1_0, zbS, z_rd za_11 hr, z_items hr, z_wr (za_row hr) hi]
  by_cases h0 : A 11 r = 0
  · simp [h0]
  · by_cases h1 : A 11 r = 1
    · simp [h1]
    · simp [h0, h1]
theorem c_lose {r : Nat} (hr : r < 8) : pm_call L xs (d + 1) m_Rows_lose [.ref 1, .int (nI r)] (zL I A b) = some (some (.int (A 12 r)), zL I (zuA A 12 r (-1)) b) := by
  rw [D_Rows_lose, B_Rows_lose_0]
  simp only [zr_1_2, zbS, z_rd za_12 hr, z_wr za_12 hr]
end
section
variable {L : Nat} {xs : Nat → Int32} {B : Nat} {I A : Nat → Nat → Int32} {b : Value}
/-- both have found f -/
theorem Rel.fnd (h : Rel B I A) (f : Int32) {I' : Nat → Nat → Int32} (hI : ∀ o k, I' o k = if (o = 0 ∧ k = 10) ∨ (o = 64 ∧ k = 1) then f else if o = 64 ∧ k = 0 then 0 else I o k) : Rel B I' A := by
  refine h.rows (fun o k hk h1 h2 => ?_) (fun _ _ _ _ _ => rfl) ⟨?_, ?_⟩
  · rw [hI, if_neg (by omega), if_neg (zKI_0 hk)]
  · rw [hI, hI, if_pos (by omega), if_pos (by omega)]
  · obtain ⟨g, h1, -⟩ := h
    exact h1.2
theorem zRw1.put {r : Nat} (h : zRw1 A r) (hr : r < 8) {i : Nat} (hi : i < 40) (v : Int32) {r2 : Nat} (hr2 : r2 < 8) (h2 : zRw1 A r2) : zRw1 (zuA (zuA A (3 + r) i v) 67 (40 * r + i) v) r2 := by
  unfold zRw1 at h2 ⊢
  rw [zuA_o (show 12 ≠ 67 by decide), zuA_o (show 12 ≠ 3 + r by omega), zuA_o (show 11 ≠ 67 by decide), zuA_o (show 11 ≠ 3 + r by omega), zuA_o (show 65 ≠ 67 by decide), zuA_o (show 65 ≠ 3 + r by omega), zuA_o (show 66 ≠ 67 by decide), zuA_o (show 66 ≠ 3 + r by omega)]
  refine ⟨h2.1, fun j hj => ?_⟩
  rw [zuA_o (show 3 + r2 ≠ 67 by omega), zuA_s, zuA_o (show 67 ≠ 3 + r by omega)]
  unfold upd
  by_cases hrr : r2 = r
  · subst hrr
    rw [zuA_s]
    unfold upd
    by_cases hij : j = i
    · subst hij; rw [if_pos rfl, if_pos rfl]
    · rw [if_neg hij, if_neg (by omega)]
      exact h2.2 j hj
  · rw [zuA_o (show 3 + r2 ≠ 3 + r by omega), if_neg (by omega)]
    exact h2.2 j hj
theorem P_row (h : Rel B I A) (v l n : Int32) : zOk L xs B m_Eggs_row m_Model_row [.int v, .int l, .int n] I A b := by
  have hw := h
  obtain ⟨g, hR, -⟩ := hw
  unfold zOk
  rw [D_Eggs_row, B_Eggs_row_0]
  simp only [D_Model_row, B_Model_row_0, c_isRow L xs, c_isLane L xs, m_isRow L xs, m_in L xs, zbI, zbS, zp_64_0, zp_64_1, zne]
  by_cases h1 : 0 ≤ v ∧ v ≤ 7
  · obtain ⟨r, hr, rfl⟩ := zmm (k := 7) (by decide) h1.1 h1.2
    by_cases h2 : 0 ≤ l ∧ l ≤ 2
    · obtain ⟨k, hk, rfl⟩ := zmm (k := 2) (by decide) h2.1 h2.2
      by_cases h3 : n ≤ 40
      · by_cases h4 : 0 ≤ n
        · obtain ⟨N, hN, rfl⟩ := zmm (k := 40) (by decide) h4 h3
          have hr8 : r < 8 := by omega
          simp only [h1, h2, h3, h4, and_self, not_true_eq_false, not_false_eq_true, if_true, if_false, zr_0_0, zbS, c_make L xs 58 b hr8, zbV, c_fine L xs, zbI]
          refine ⟨_, _, _, zuI (zuI (zuI I 0 10 0) 64 0 0) 64 1 0, zcp (zuA (zuA (zcp (zuA (zuA A 11 r (nI k)) 12 r (nI N)) (3 + r) 0 40 (fun _ => 0)) 65 r (nI k)) 66 r (nI N)) 67 (40 * r) 40 (fun _ => 0), _, rfl, ?_, ?_⟩
          · simp only [zr_64_2, zr_64_3, zbS, z_wr za_65 hr8, z_wr za_66 hr8]
            refine (zfill (fun j A => zE L xs 59 K_Model_row 65 [some (.ref 64), some (.int (nI r)), some (.int (nI k)), some (.int (nI N)), some (.int j)] [] (zL _ A b)) _ 67 (40 * r) 40 (fun _ => 0) (fun j hj => ?_)).trans ?_
            · rw [B_Model_row_65]
              simp only [zr_64_4, zbS, zl40, pk_mul, nI_add]
              rw [if_neg (nI_ge hj (by decide)), z_wr za_67 (by omega), zbS]
            · rw [B_Model_row_65, zl40, if_pos (nI_le (Nat.le_refl _) (by decide))]
          · refine h.rows (fun o j hj e1 e2 => ?_) (fun q q1 q2 q3 q4 => ?_) ⟨?_, fun r2 hr2 => ?_⟩
            · simp only [zuI_at, if_neg e1, if_neg e2, if_neg (zKI_0 hj)]
            · rw [zcp_o q1, zuA_o q2, zuA_o q3, zcp_o (by omega), zuA_o (by omega), zuA_o (by omega)]
            · simp [zuI_at]
            · have hrr := hR.2 r2 hr2
              by_cases e : r2 = r
              · subst e
                refine ⟨Or.inr ⟨N, k, hN, hk, ?_, ?_, ?_, ?_⟩, fun i hi => ?_⟩
                · rw [zcp_o (by decide), zuA_o (by decide), zuA_o (by decide), zcp_o (by omega), zuA_s]
                  simp [upd]
                · rw [zcp_o (by decide), zuA_o (by decide), zuA_o (by decide), zcp_o (by omega), zuA_o (by decide), zuA_s]
                  simp [upd]
                · rw [zcp_o (by decide), zuA_o (by decide), zuA_s]
                  simp [upd]
                · rw [zcp_o (by decide), zuA_s]
                  simp [upd]
                · rw [zcp_at hi, zcp_o (by omega), zuA_o (by omega), zuA_o (by omega)]
                  have := zcp_at (A := zuA (zuA A 11 r2 (nI k)) 12 r2 (nI N)) (q := 3 + r2) (p := 0) (n := 40) (f := fun _ => (0 : Int32)) hi
                  rw [Nat.zero_add] at this
                  exact this
              · unfold zRw1 at hrr ⊢
                rw [zcp_o (show 12 ≠ 67 by decide), zuA_o (show 12 ≠ 66 by decide), zuA_o (show 12 ≠ 65 by decide), zcp_o (show 12 ≠ 3 + r by omega), zuA_s, zuA_o (show 12 ≠ 11 by decide)]
                rw [zcp_o (show 11 ≠ 67 by decide), zuA_o (show 11 ≠ 66 by decide), zuA_o (show 11 ≠ 65 by decide), zcp_o (show 11 ≠ 3 + r by omega), zuA_o (show 11 ≠ 12 by decide), zuA_s]
                rw [zcp_o (show 65 ≠ 67 by decide), zuA_o (show 65 ≠ 66 by decide), zuA_s, zcp_o (show 65 ≠ 3 + r by omega), zuA_o (show 65 ≠ 12 by decide), zuA_o (show 65 ≠ 11 by decide)]
                rw [zcp_o (show 66 ≠ 67 by decide), zuA_s, zuA_o (show 66 ≠ 65 by decide), zcp_o (show 66 ≠ 3 + r by omega), zuA_o (show 66 ≠ 12 by decide), zuA_o (show 66 ≠ 11 by decide)]
                rw [zcp_o (show 3 + r2 ≠ 67 by omega), zuA_o (show 3 + r2 ≠ 66 by omega), zuA_o (show 3 + r2 ≠ 65 by omega), zcp_o (show 3 + r2 ≠ 3 + r by omega), zuA_o (show 3 + r2 ≠ 12 by omega), zuA_o (show 3 + r2 ≠ 11 by omega)]
                simp only [pk_un e]
                refine ⟨hrr.1, fun i hi => ?_⟩
                rw [zcp_out (by omega), zuA_o (by decide), zuA_o (by decide), zcp_o (by omega), zuA_o (by decide), zuA_o (by decide)]
                exact hrr.2 i hi
        · simp only [h1, h2, h3, h4, and_self, not_true_eq_false, not_false_eq_true, if_true, if_false, c_found L xs, m_finding L xs, zbI]
          exact ⟨_, _, _, _, _, _, rfl, rfl, h.fnd 4 (fun o k => by simp only [zuI_at]; split <;> split <;> first | rfl | (exfalso; omega) | (split <;> first | rfl | (exfalso; omega) | (split <;> first | rfl | (exfalso; omega))))⟩
      · simp only [h1, h2, h3, and_self, not_true_eq_false, not_false_eq_true, if_true, if_false]
        exact ⟨_, _, _, _, _, _, rfl, rfl, h.same (zSame.fI 64 0 0 rfl)⟩
    · simp only [h1, h2, and_self, not_true_eq_false, not_false_eq_true, if_true, if_false]
      exact ⟨_, _, _, _, _, _, rfl, rfl, h.same (zSame.fI 64 0 0 rfl)⟩
  · simp only [h1, not_false_eq_true, if_true]
    exact ⟨_, _, _, _, _, _, rfl, rfl, h.same (zSame.fI 64 0 0 rfl)⟩
end
