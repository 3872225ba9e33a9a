/-! ROWS: set, drop, copy; the tape's feed -/
section
variable {L : Nat} {xs : Nat → Int32} {B : Nat} {I A : Nat → Nat → Int32} {b : Value}
theorem zfa (f : Int32) : ∀ o k, zuI (zuI (zuI (zuI I 0 10 f) 64 0 0) 64 1 0) 64 1 f o k = if (o = 0 ∧ k = 10) ∨ (o = 64 ∧ k = 1) then f else if o = 64 ∧ k = 0 then 0 else I o k := by
  intro o k
  simp only [zuI_at]
  by_cases h1 : o = 64 ∧ k = 1
  · simp [h1]
  · by_cases h2 : o = 64 ∧ k = 0
    · simp [h2]
    · by_cases h3 : o = 0 ∧ k = 10
      · simp [h3]
      · simp [h1, h2, h3]
theorem zfb : ∀ o k, zuI (zuI (zuI I 0 10 0) 64 0 0) 64 1 0 o k = if (o = 0 ∧ k = 10) ∨ (o = 64 ∧ k = 1) then 0 else if o = 64 ∧ k = 0 then 0 else I o k := by
  intro o k
  simp only [zuI_at]
  by_cases h1 : o = 64 ∧ k = 1
  · simp [h1]
  · by_cases h2 : o = 64 ∧ k = 0
    · simp [h2]
    · by_cases h3 : o = 0 ∧ k = 10
      · simp [h3]
      · simp [h1, h2, h3]
/-- both fine, rows changed -/
theorem Rel.fine (h : Rel B I A) {A' : Nat → Nat → Int32} (hA : ∀ q, q ≠ 67 → q ≠ 66 → q ≠ 65 → ¬ (3 ≤ q ∧ q ≤ 12) → A' q = A q) (hr : ∀ r, r < 8 → zRw1 A' r) : Rel B (zuI (zuI (zuI I 0 10 0) 64 0 0) 64 1 0) A' :=
  h.rows (fun o k hk e1 e2 => by rw [zfb, if_neg (by omega), if_neg (zKI_0 hk)]) hA ⟨by rw [zfb, zfb]; simp, hr⟩
theorem P_set (h : Rel B I A) (v i w : Int32) : zOk L xs B m_Eggs_set m_Model_set [.int v, .int i, .int w] I A b := by
  have hw := h
  obtain ⟨g, hR, -⟩ := hw
  unfold zOk
  rw [D_Eggs_set, B_Eggs_set_0]
  simp only [D_Model_set, B_Model_set_0, c_isRow L xs, m_isRow L xs, zbI, zbS, zp_64_0, zp_64_1, zne]
  by_cases h1 : 0 ≤ v ∧ v ≤ 7
  · obtain ⟨r, hr, rfl⟩ := zmm (k := 7) (by decide) h1.1 h1.2
    have hr8 : r < 8 := by omega
    simp only [h1, and_self, not_true_eq_false, not_false_eq_true, if_true, zr_0_0, zbS, c_findingAt L xs 57 b hr8 (hR.2 r hr8), zbI]
    rcases (hR.2 r hr8).1 with ⟨m1, m2⟩ | ⟨N, l, hN, hl, m1, m2, m3, m4⟩
    · simp only [m1, if_true]
      rw [if_neg (show ¬ (1 : Int32) = 0 by decide), c_found L xs, zbI]
      refine ⟨_, _, _, _, _, _, rfl, ?_, h.fnd 1 (zfa 1)⟩
      simp only [zr_64_2, zbS, z_rd za_65 hr8, m2]
      rw [if_neg (show ¬ (0 : Int32) ≤ -1 by decide), m_finding L xs, zbI]
    · have e1 : (A 12 r = -1) = False := by rw [m1]; exact zn2 (by omega)
      simp only [e1, if_false]
      simp only [m1, nI_toInt (show N < 2 ^ 31 by omega)]
      have e2 : (0 ≤ i ∧ i ≤ nI N - 1) = (0 ≤ i.toInt ∧ 0 ≤ (1 : Int32).toInt ∧ i.toInt + (1 : Int32).toInt ≤ (N : Int)) := by
        apply propext
        rw [fa_le, fa_le, zl1, pk_sub_toInt (by omega) (by decide), show (nI 1).toInt = 1 by decide, show (0 : Int32).toInt = 0 by decide]
        omega
      by_cases c : 0 ≤ i.toInt ∧ 0 ≤ (1 : Int32).toInt ∧ i.toInt + (1 : Int32).toInt ≤ (N : Int)
      · obtain ⟨j, hj, rfl⟩ : ∃ j : Nat, j < N ∧ i = nI j := by
          obtain ⟨j, hj, rfl⟩ := nI_of (x := i) (by rw [fa_lt, show (0 : Int32).toInt = 0 by decide]; omega)
          refine ⟨j, ?_, rfl⟩
          rw [nI_toInt hj, show (1 : Int32).toInt = 1 by decide] at c
          omega
        obtain ⟨x, hx⟩ : ∃ x, x = (if A 11 r = 0 then w.toInt8.toInt32 else if A 11 r = 1 then w.toInt16.toInt32 else w) := ⟨_, rfl⟩
        simp only [c, and_self, if_true, c_rput L xs 58 b hr8 (show j < 40 by omega), zbI, c_fine L xs]
        rw [← hx]
        refine ⟨_, _, _, _, _, _, rfl, ?_, h.fine (A' := zuA (zuA A (3 + r) j x) 67 (40 * r + j) x) (fun q q1 q2 q3 q4 => by rw [zuA_o q1, zuA_o (by omega)]) (fun r2 hr2 => (hR.2 r hr8).put hr8 (by omega) _ hr2 (hR.2 r2 hr2))⟩
        have f1 : zuA A (3 + r) j x 65 = A 65 := zuA_o (by omega)
        have f2 : zuA A (3 + r) j x 66 = A 66 := zuA_o (by omega)
        have f3 : (40 : Int32) * nI r + nI j = nI (40 * r + j) := by rw [zl40, pk_mul, nI_add]
        have f4 : (0 ≤ nI j ∧ nI j ≤ nI N - 1) = True := by rw [e2]; exact eq_true c
        have f5 : (nI l = (0 : Int32)) = (l = 0) := by rw [zl0]; exact znI (by omega) (by decide)
        have f6 : (nI l = (1 : Int32)) = (l = 1) := by rw [zl1]; exact znI (by omega) (by decide)
        rw [m2] at hx
        simp only [f5, f6] at hx
        simp only [zr_64_2, zr_64_3, zr_64_4, zbS, z_rd za_65 hr8, z_rd za_66 hr8, f1, f2, m3, m4, zn0 (show l < 2 ^ 31 by omega), if_true, m_in L xs, zbI, f3, f4, zne, not_true_eq_false, not_false_eq_true, z_wr za_67 (show 40 * r + j < 320 by omega), z_rd za_67 (show 40 * r + j < 320 by omega), zuA_s, pk_us, f5, f6]
        by_cases c0 : l = 0
        · subst c0
          simp at hx
          subst hx
          simp
        · by_cases c1 : l = 1
          · subst c1
            simp at hx
            subst hx
            simp
          · simp [c0, c1] at hx
            subst hx
            simp [c0, c1]
      · simp only [c, if_false]
        rw [if_neg (show ¬ (2 : Int32) = 0 by decide), c_found L xs, zbI]
        refine ⟨_, _, _, _, _, _, rfl, ?_, h.fnd 2 (zfa 2)⟩
        have f4 : (0 ≤ i ∧ i ≤ nI N - 1) = False := by rw [e2]; exact eq_false c
        simp only [zr_64_2, zr_64_3, zbS, z_rd za_65 hr8, z_rd za_66 hr8, m3, m4, zn0 (show l < 2 ^ 31 by omega), if_true, m_in L xs, zbI, f4, zne, not_true_eq_false, not_false_eq_true, if_false, m_finding L xs]
  · simp only [h1, not_false_eq_true, not_true_eq_false, if_false]
    exact ⟨_, _, _, _, _, _, rfl, rfl, h.same (zSame.fI 64 0 0 rfl)⟩
theorem P_drop (h : Rel B I A) (v : Int32) : zOk L xs B m_Eggs_drop m_Model_drop [.int v] I A b := by
  have hw := h
  obtain ⟨g, hR, -⟩ := hw
  unfold zOk
  rw [D_Eggs_drop, B_Eggs_drop_0]
  simp only [D_Model_drop, B_Model_drop_0, c_isRow L xs, m_isRow L xs, zbI, zbS, zp_64_0, zp_64_1, zne]
  by_cases h1 : 0 ≤ v ∧ v ≤ 7
  · obtain ⟨r, hr, rfl⟩ := zmm (k := 7) (by decide) h1.1 h1.2
    have hr8 : r < 8 := by omega
    simp only [h1, and_self, not_true_eq_false, not_false_eq_true, if_true, zr_0_0, zbS, c_isMissing L xs 58 b hr8, zbI, zne]
    rcases (hR.2 r hr8).1 with ⟨m1, m2⟩ | ⟨N, l, hN, hl, m1, m2, m3, m4⟩
    · simp only [m1, not_true_eq_false, if_false, c_found L xs, zbI]
      refine ⟨_, _, _, _, _, _, rfl, ?_, h.fnd 1 (zfa 1)⟩
      simp only [zr_64_2, zbS, z_rd za_65 hr8, m2]
      rw [if_neg (show ¬ (0 : Int32) ≤ -1 by decide), m_finding L xs, zbI]
    · have e1 : (A 12 r = -1) = False := by rw [m1]; exact zn2 (by omega)
      simp only [e1, not_false_eq_true, if_true, c_lose L xs 58 b hr8, zbI, c_fine L xs]
      refine ⟨_, _, _, _, _, _, rfl, ?_, h.fine (A' := zuA (zuA A 12 r (-1)) 65 r (-1)) (fun q q1 q2 q3 q4 => by rw [zuA_o q3, zuA_o (by omega)]) (fun r2 hr2 => ?_)⟩
      · have f1 : zuA A 12 r (-1) 65 = A 65 := zuA_o (by decide)
        have f2 : zuA (zuA A 12 r (-1)) 65 r (-1) 66 = A 66 := by rw [zuA_o (by decide), zuA_o (by decide)]
        simp only [zr_64_2, zr_64_3, zbS, z_rd za_65 hr8, z_wr za_65 hr8, z_rd za_66 hr8, f1, f2, m1, m3, m4, zn0 (show l < 2 ^ 31 by omega), if_true]
      · have hrr := hR.2 r2 hr2
        unfold zRw1 at hrr ⊢
        rw [zuA_o (show 12 ≠ 65 by decide), zuA_s, zuA_s, zuA_o (show 65 ≠ 12 by decide), zuA_o (show 11 ≠ 65 by decide), zuA_o (show 11 ≠ 12 by decide), zuA_o (show 66 ≠ 65 by decide), zuA_o (show 66 ≠ 12 by decide), zuA_o (show 67 ≠ 65 by decide), zuA_o (show 67 ≠ 12 by decide), zuA_o (show 3 + r2 ≠ 65 by omega), zuA_o (show 3 + r2 ≠ 12 by omega)]
        refine ⟨?_, hrr.2⟩
        by_cases e : r2 = r
        · subst e
          exact Or.inl ⟨pk_us, pk_us⟩
        · simp only [pk_un e]
          exact hrr.1
  · simp only [h1, not_false_eq_true, not_true_eq_false, if_false]
    exact ⟨_, _, _, _, _, _, rfl, rfl, h.same (zSame.fI 64 0 0 rfl)⟩
theorem P_fault (h : Rel B I A) : zOk L xs B m_Eggs_fault m_Model_fault [] I A b := by
  have hw := h
  obtain ⟨g, -, hT, -⟩ := hw
  refine zOk.pure (r := I 0 9) h ?_ ?_
  · rw [D_Eggs_fault, B_Eggs_fault_0, zg_0_9, zbS]
  · rw [D_Model_fault, B_Model_fault_0, zp_64_0, zbS, zg_64_18, zbS, zuI_n (by decide), hT.1]
theorem P_status (h : Rel B I A) : zOk L xs B m_Eggs_status m_Model_status [] I A b := by
  have hw := h
  obtain ⟨g, hT, -⟩ := hw
  refine zOk.pure (r := I 0 10) h ?_ ?_
  · rw [D_Eggs_status, B_Eggs_status_0, zg_0_10, zbS]
  · rw [D_Model_status, B_Model_status_0, zp_64_0, zbS, zg_64_1, zbS, zuI_n (by decide), hT.1]
theorem P_feed (h : Rel B I A) (v : Int32) : zOk L xs B m_Eggs_feed m_Model_feed [.int v] I A b := by
  have hw := h
  obtain ⟨g, -, ⟨hF, n, hn, t1, t2, t3⟩, -⟩ := hw
  unfold zOk
  rw [D_Eggs_feed, B_Eggs_feed_0]
  simp only [D_Model_feed, B_Model_feed_0, zbS, zp_64_0, m_in L xs, zbI, zne]
  by_cases h1 : 0 ≤ v ∧ v ≤ 255
  · obtain ⟨c, hc, rfl⟩ := zmm (k := 255) (by decide) h1.1 h1.2
    simp only [zn1 (show c < 2 ^ 31 by omega), if_false, h1, if_true, and_self, not_true_eq_false, not_false_eq_true, zr_0_1, zbS, D_Tape_append, B_Tape_append_0, zg_13_1, t1]
    have e1 : (nI n < (120 : Int32)) = (n < 120) := by rw [zl120]; exact znT (by omega) (by decide)
    have e2 : (nI n = (120 : Int32)) = (n = 120) := by rw [zl120]; exact znI (by omega) (by decide)
    simp only [e1]
    by_cases h2 : n < 120
    · simp only [h2, if_true, zr_13_0, zbS, z_wr za_14 h2, zg_13_1, t1, zp_13_1, zbI, zuI_s]
      refine ⟨_, _, _, zuI (zuI (zuI I 13 1 (nI n + 1)) 64 0 0) 64 11 (nI n + 1), zuA (zuA A 14 n (nI c)) 72 n (nI c), _, rfl, ?_, h.tape (fun o k hk a1 a2 a3 a4 => ?_) (fun q q1 q2 => by rw [zuA_o q2, zuA_o q1]) ⟨?_, n + 1, by omega, ?_, ?_, fun i hi => ?_⟩⟩
      · have e3 : zuI (zuI I 13 1 (nI n + 1)) 64 0 0 64 11 = nI n := by rw [zuI_n (by decide), zuI_o (by decide), t2]
        simp only [zg_64_11, zr_64_10, zbS, e3, e2, show ¬ n = 120 by omega, not_false_eq_true, if_true, z_wr za_72 h2, zp_64_11, zuI_s]
      · simp only [zuI_at, if_neg a4, if_neg (zKI_0 hk), if_neg a3]
      · simp only [zuI_at]; simp [hF]
      · simp only [zuI_at]; simp [nI_1]
      · simp only [zuI_at]; simp [nI_1]
      · by_cases e : i = n
        · subst e
          exact ⟨c, by omega, by rw [zuA_o (by decide), zuA_s, pk_us], by rw [zuA_s, pk_us]⟩
        · obtain ⟨c2, k1, k2, k3⟩ := t3 i (by omega)
          exact ⟨c2, k1, by rw [zuA_o (by decide), zuA_s, pk_un e]; exact k2, by rw [zuA_s, pk_un e, zuA_o (by decide)]; exact k3⟩
    · have hn2 : n = 120 := by omega
      simp only [h2, if_false, zbI]
      refine ⟨_, _, _, _, _, _, rfl, ?_, h.same (zSame.fI 64 0 0 rfl)⟩
      have e3 : zuI I 64 0 0 64 11 = nI n := by rw [zuI_n (by decide), t2]
      simp only [zg_64_11, zbS, e3, e2]
      rw [if_neg (fun q => q hn2)]
  · simp only [h1, not_false_eq_true, not_true_eq_false, if_false]
    by_cases h2 : v < 0
    · simp only [h2, if_true]
      exact ⟨_, _, _, _, _, _, rfl, rfl, h.same (zSame.fI 64 0 0 rfl)⟩
    · have h3 : ¬ v ≤ 255 := fun q => h1 ⟨fa_of_nlt h2, q⟩
      simp only [h2, h3, if_false]
      exact ⟨_, _, _, _, _, _, rfl, rfl, h.same (zSame.fI 64 0 0 rfl)⟩
theorem z_cp {p q i j n m1 m2 : Nat} (hp : zIs p m1) (hq : zIs q m2) (h1 : i + n ≤ m1) (h2 : j + n ≤ m2) : pm_cp (zL I A b) p (nI i) q (nI j) (nI n) = some (zL I (zcp A q j n (fun t => A p (i + t))) b) := by
  have k1 := hp.2.1
  have k2 := hq.2.1
  unfold pm_cp
  rw [zL_at hp.1, zL_at hq.1, hp.2.2, hq.2.2]
  show (if (0 = 0 ∧ 0 = 0) ∧ (¬ nI i < 0 ∧ ¬ nI j < 0 ∧ ¬ nI n < 0) ∧ (nI i).toNatClampNeg + (nI n).toNatClampNeg ≤ m1 ∧ (nI j).toNatClampNeg + (nI n).toNatClampNeg ≤ m2 then some ((zL I A b).set q (.inl (0, m2, .inl (va_cpy (A p) (A q) (nI i).toNatClampNeg (nI j).toNatClampNeg (nI n).toNatClampNeg)))) else none) = _
  rw [nI_clamp (show i < 2 ^ 31 by omega), nI_clamp (show j < 2 ^ 31 by omega), nI_clamp (show n < 2 ^ 31 by omega), if_pos ⟨⟨rfl, rfl⟩, ⟨nI_pos (by omega), nI_pos (by omega), nI_pos (by omega)⟩, h1, h2⟩]
  congr 1
  refine zL_set hq.1 ?_ (fun _ _ => rfl) (fun k hk => zcp_o hk) (fun _ => rfl)
  rw [hq.2.2]
  congr 4
  funext t
  by_cases c : j ≤ t ∧ t < j + n
  · rw [pk_cpy_in c.1 c.2]
    have := zcp_at (A := A) (q := q) (p := j) (n := n) (f := fun t => A p (i + t)) (i := t - j) (by omega)
    rw [show j + (t - j) = t by omega] at this
    exact this
  · rw [pk_cpy_out (by omega), zcp_out (by omega)]
theorem zcp_d {q p k : Nat} {f : Nat → Int32} : zuA (zcp A q (p + 1) k (fun t => f (t + 1))) q p (f 0) = zcp A q p (k + 1) f := by
  funext q' j
  by_cases h : q' = q
  · subst h
    rw [zuA_s]
    unfold upd
    by_cases hj : j = p
    · subst hj
      have e0 : zcp A q' j (k + 1) f q' j = f 0 := zcp_at (A := A) (q := q') (p := j) (n := k + 1) (f := f) (i := 0) (by omega)
      rw [if_pos rfl, e0]
    · rw [if_neg hj]
      by_cases h1 : p + 1 ≤ j ∧ j < p + 1 + k
      · have e1 := zcp_at (A := A) (q := q') (p := p + 1) (n := k) (f := fun t => f (t + 1)) (i := j - p - 1) (by omega)
        have e2 := zcp_at (A := A) (q := q') (p := p) (n := k + 1) (f := f) (i := j - p) (by omega)
        rw [show p + 1 + (j - p - 1) = j by omega] at e1
        rw [show p + (j - p) = j by omega] at e2
        rw [e1, e2, show j - p - 1 + 1 = j - p by omega]
      · rw [zcp_out (by omega), zcp_out (by omega)]
  · rw [zuA_o h, zcp_o h, zcp_o h]
/-- the reference's copy, from its loop's head -/
theorem m_copyLoop {r1 r2 i j n : Nat} (h1 : r1 < 8) (h2 : r2 < 8) (hi : i + n ≤ 40) (hj : j + n ≤ 40) (y : Option Value) (up : Int32) (hu : up = if j ≤ i then 1 else 0) : zE L xs 59 K_Model_copy 143 [some (.ref 64), some (.int (nI r1)), some (.int (nI i)), some (.int (nI r2)), some (.int (nI j)), some (.int (nI n)), some (.int up), some (.int 0), y] [] (zL I A b) = some (some (.int (nI n)), zL I (zcp A 67 (40 * r2 + j) n (fun t => A 67 (40 * r1 + i + t))) b) := by
  have f1 : (40 : Int32) * nI r1 + nI i = nI (40 * r1 + i) := by rw [zl40, pk_mul, nI_add]
  have f2 : (40 : Int32) * nI r2 + nI j = nI (40 * r2 + j) := by rw [zl40, pk_mul, nI_add]
  by_cases c : j ≤ i
  · rw [if_pos c] at hu
    subst hu
    have key : ∀ k, k ≤ n → ∃ y2, zE L xs 59 K_Model_copy 143 [some (.ref 64), some (.int (nI r1)), some (.int (nI i)), some (.int (nI r2)), some (.int (nI j)), some (.int (nI n)), some (.int 1), some (.int 0), y] [] (zL I A b) = zE L xs 59 K_Model_copy 143 [some (.ref 64), some (.int (nI r1)), some (.int (nI i)), some (.int (nI r2)), some (.int (nI j)), some (.int (nI n)), some (.int 1), some (.int (nI k)), y2] [] (zL I (zcp A 67 (40 * r2 + j) k (fun t => A 67 (40 * r1 + i + t))) b) := by
      intro k
      induction k with
      | zero => intro _; exact ⟨y, by rw [zcp_0]; rfl⟩
      | succ k ih =>
        intro hk
        obtain ⟨y2, e⟩ := ih (by omega)
        refine ⟨some (.int (nI k)), ?_⟩
        rw [e, B_Model_copy_143, if_neg (nI_ge (show k < n by omega) (by omega)), if_neg (show ¬ (1 : Int32) = 0 by decide)]
        simp only [zr_64_4, zbS, f1, f2, nI_add, z_rd za_67 (show 40 * r1 + i + k < 320 by omega), z_wr za_67 (show 40 * r2 + j + k < 320 by omega)]
        rw [zcp_out (j := 40 * r1 + i + k) (by omega), zcp_s (f := fun t => A 67 (40 * r1 + i + t)), nI_1]
    obtain ⟨y2, e⟩ := key n (Nat.le_refl _)
    rw [e, B_Model_copy_143, if_pos (nI_le (Nat.le_refl _) (by omega))]
  · rw [if_neg c] at hu
    subst hu
    have key : ∀ k, k ≤ n → ∃ y2, zE L xs 59 K_Model_copy 143 [some (.ref 64), some (.int (nI r1)), some (.int (nI i)), some (.int (nI r2)), some (.int (nI j)), some (.int (nI n)), some (.int 0), some (.int 0), y] [] (zL I A b) = zE L xs 59 K_Model_copy 143 [some (.ref 64), some (.int (nI r1)), some (.int (nI i)), some (.int (nI r2)), some (.int (nI j)), some (.int (nI n)), some (.int 0), some (.int (nI k)), y2] [] (zL I (zcp A 67 (40 * r2 + j + (n - k)) k (fun t => A 67 (40 * r1 + i + (n - k) + t))) b) := by
      intro k
      induction k with
      | zero => intro _; exact ⟨y, by rw [zcp_0]; rfl⟩
      | succ k ih =>
        intro hk
        obtain ⟨y2, e⟩ := ih (by omega)
        refine ⟨some (.int (nI (n - (k + 1)))), ?_⟩
        have f3 : nI n - (1 : Int32) - nI k = nI (n - (k + 1)) := by
          rw [zl1, pk_sub (by omega), pk_sub (by omega)]
          congr 1
          omega
        rw [e, B_Model_copy_143, if_neg (nI_ge (show k < n by omega) (by omega)), if_pos rfl]
        simp only [zr_64_4, zbS, f1, f2, f3, nI_add, z_rd za_67 (show 40 * r1 + i + (n - (k + 1)) < 320 by omega), z_wr za_67 (show 40 * r2 + j + (n - (k + 1)) < 320 by omega)]
        rw [zcp_out (j := 40 * r1 + i + (n - (k + 1))) (by omega)]
        have e3 := zcp_d (A := A) (q := 67) (p := 40 * r2 + j + (n - (k + 1))) (k := k) (f := fun t => A 67 (40 * r1 + i + (n - (k + 1)) + t))
        have e4 : (fun t => A 67 (40 * r1 + i + (n - k) + t)) = fun t => A 67 (40 * r1 + i + (n - (k + 1)) + (t + 1)) := by
          funext t
          congr 1
          omega
        have e5 : A 67 (40 * r1 + i + (n - (k + 1)) + 0) = A 67 (40 * r1 + i + (n - (k + 1))) := rfl
        rw [show 40 * r2 + j + (n - k) = 40 * r2 + j + (n - (k + 1)) + 1 by omega, nI_1, ← e3, e4, e5]
    obtain ⟨y2, e⟩ := key n (Nat.le_refl _)
    rw [e, B_Model_copy_143, if_pos (nI_le (Nat.le_refl _) (by omega)), Nat.sub_self, Nat.add_zero, Nat.add_zero]
theorem c_carry {r1 r2 i j n : Nat} (h1 : r1 < 8) (h2 : r2 < 8) (hi : i + n ≤ 40) (hj : j + n ≤ 40) : pm_call L xs 59 m_Rows_carry [.ref 1, .int (nI r1), .int (nI i), .int (nI r2), .int (nI j), .int (nI n)] (zL I A b) = some (none, zL I (zcp A (3 + r2) j n (fun t => A (3 + r1) (i + t))) b) := by
  rw [D_Rows_carry, B_Rows_carry_0]
  simp only [zr_1_0, zbS, z_items h1, z_items h2, z_cp (za_row h1) (za_row h2) hi hj]
theorem c_oneLane {r1 r2 : Nat} (h1 : r1 < 8) (h2 : r2 < 8) : pm_call L xs 59 m_Rows_areOfOneLane [.ref 1, .int (nI r1), .int (nI r2)] (zL I A b) = some (some (.int (if A 11 r1 = A 11 r2 then 1 else 0)), zL I A b) := by
  rw [D_Rows_areOfOneLane, B_Rows_areOfOneLane_0]
  simp only [zr_1_1, zbS, z_rd za_11 h1, z_rd za_11 h2]
  by_cases c : A 11 r1 = A 11 r2
  · simp [c]
  · simp [c]
theorem P_copy (h : Rel B I A) (v i w j n : Int32) : zOk L xs B m_Eggs_copy m_Model_copy [.int v, .int i, .int w, .int j, .int n] I A b := by
  have hw := h
  obtain ⟨g, hR, -⟩ := hw
  unfold zOk
  rw [D_Eggs_copy, B_Eggs_copy_0]
  simp only [D_Model_copy, B_Model_copy_0, c_isRow L xs, m_isRow L xs, zbI, zbS, zp_64_0, zp_64_1, zne]
  by_cases h1 : 0 ≤ v ∧ v ≤ 7
  · by_cases h2 : 0 ≤ w ∧ w ≤ 7
    · obtain ⟨r1, hr1, rfl⟩ := zmm (k := 7) (by decide) h1.1 h1.2
      obtain ⟨r2, hr2, rfl⟩ := zmm (k := 7) (by decide) h2.1 h2.2
      have k1 : r1 < 8 := by omega
      have k2 : r2 < 8 := by omega
      simp only [h1, h2, and_self, not_true_eq_false, not_false_eq_true, if_true, if_false, zr_0_0, zbS, c_isMissing L xs 58 b k1, c_isMissing L xs 58 b k2, zbI, zne]
      rcases (hR.2 r1 k1).1 with ⟨m1, m2⟩ | ⟨N, l, hN, hl, m1, m2, m3, m4⟩
      · simp only [m1, not_true_eq_false, not_false_eq_true, if_true, c_found L xs, zbI]
        refine ⟨_, _, _, _, _, _, rfl, ?_, h.fnd 1 (zfa 1)⟩
        simp only [zr_64_2, zbS, z_rd za_65 k1, m2]
        rw [if_pos (show (-1 : Int32) < 0 by decide), m_finding L xs, zbI]
      · have e1 : (A 12 r1 = -1) = False := by rw [m1]; exact zn2 (by omega)
        simp only [e1, not_true_eq_false, not_false_eq_true, if_false]
        rcases (hR.2 r2 k2).1 with ⟨o1, o2⟩ | ⟨M, l2, hM, hl2, o1, o2, o3, o4⟩
        · simp only [o1, not_true_eq_false, not_false_eq_true, if_false, c_found L xs, zbI]
          refine ⟨_, _, _, _, _, _, rfl, ?_, h.fnd 1 (zfa 1)⟩
          simp only [zr_64_2, zbS, z_rd za_65 k1, z_rd za_65 k2, m3, o2, zn1 (show l < 2 ^ 31 by omega), if_false]
          rw [if_neg (show ¬ (0 : Int32) ≤ -1 by decide), m_finding L xs, zbI]
        · have e2 : (A 12 r2 = -1) = False := by rw [o1]; exact zn2 (by omega)
          have e3 : (nI l = nI l2) = (l = l2) := znI (by omega) (by omega)
          simp only [e2, not_true_eq_false, not_false_eq_true, if_true, zbI, c_oneLane k1 k2, zne, m2, o2, e3]
          by_cases c3 : l = l2
          · simp only [c3, not_true_eq_false, not_false_eq_true, if_true, zr_0_0, zbS, c_reaches L xs 58 b k1 hN m1, c_reaches L xs 58 b k2 hM o1, zbI, zne]
            have q0 : (0 : Int32).toInt = 0 := by decide
            have qi : (i < 0) = ¬ 0 ≤ i.toInt := by apply propext; rw [fa_lt, q0]; omega
            have qj : (j < 0) = ¬ 0 ≤ j.toInt := by apply propext; rw [fa_lt, q0]; omega
            have qn : (n < 0) = ¬ 0 ≤ n.toInt := by apply propext; rw [fa_lt, q0]; omega
            by_cases d1 : 0 ≤ i.toInt ∧ 0 ≤ n.toInt ∧ i.toInt + n.toInt ≤ (N : Int)
            · by_cases d2 : 0 ≤ j.toInt ∧ 0 ≤ n.toInt ∧ j.toInt + n.toInt ≤ (M : Int)
              · obtain ⟨i', hi', rfl⟩ := nI_of (x := i) (by rw [qi]; exact fun q => q d1.1)
                obtain ⟨j', hj', rfl⟩ := nI_of (x := j) (by rw [qj]; exact fun q => q d2.1)
                obtain ⟨n', hn', rfl⟩ := nI_of (x := n) (by rw [qn]; exact fun q => q d1.2.1)
                have t1 : i' + n' ≤ N := by have := d1.2.2; rw [nI_toInt hi', nI_toInt hn'] at this; omega
                have t2 : j' + n' ≤ M := by have := d2.2.2; rw [nI_toInt hj', nI_toInt hn'] at this; omega
                simp only [d1, d2, and_self, not_true_eq_false, not_false_eq_true, if_true, if_false, c_carry k1 k2 (show i' + n' ≤ 40 by omega) (show j' + n' ≤ 40 by omega), zbV, c_fine L xs, zbI]
                refine ⟨_, _, _, _, _, _, rfl, ?_, h.fine (A' := zcp (zcp A (3 + r2) j' n' (fun t => A (3 + r1) (i' + t))) 67 (40 * r2 + j') n' (fun t => A 67 (40 * r1 + i' + t))) (fun q q1 q2 q3 q4 => by rw [zcp_o q1, zcp_o (by omega)]) (fun r hr => ?_)⟩
                · have f1 : zcp A (3 + r2) j' n' (fun t => A (3 + r1) (i' + t)) 65 = A 65 := zcp_o (by omega)
                  have f2 : zcp A (3 + r2) j' n' (fun t => A (3 + r1) (i' + t)) 66 = A 66 := zcp_o (by omega)
                  have f3 : zcp A (3 + r2) j' n' (fun t => A (3 + r1) (i' + t)) 67 = A 67 := zcp_o (by omega)
                  simp only [zr_64_2, zr_64_3, zbS, z_rd za_65 k1, z_rd za_65 k2, z_rd za_66 k1, f1, f2, m3, m4, o3, c3, zn1 (show l2 < 2 ^ 31 by omega), zn0 (show l2 < 2 ^ 31 by omega), zn1 (show i' < 2 ^ 31 by omega), zn1 (show j' < 2 ^ 31 by omega), zn1 (show n' < 2 ^ 31 by omega), if_true, if_false]
                  rw [B_Model_copy_100, if_neg (by rw [zwide, nI_toInt (show N < 2 ^ 31 by omega), nI_toInt hi', nI_toInt hn']; omega)]
                  simp only [zr_64_3, zbS, z_rd za_66 k2, f2, o4]
                  rw [B_Model_copy_118]
                  have e9 : (lg_cmp ((nI j').toInt64 + (nI n').toInt64) (nI M).toInt64 ≤ 0) = True := by
                    apply eq_true
                    rw [lg_cmp_le, fa_le64, lg_i2l_add, Int32.toInt_toInt64, nI_toInt hj', nI_toInt hn', nI_toInt (by omega)]
                    omega
                  simp only [e9, if_true]
                  have e10 : (nI i' < nI j') = ¬ j' ≤ i' := by
                    apply propext
                    rw [nI_ltI hi' hj']
                    omega
                  simp only [e10]
                  by_cases c10 : j' ≤ i'
                  · simp only [c10, not_true_eq_false, if_false]
                    rw [m_copyLoop k1 k2 (by omega) (by omega) none 1 (by rw [if_pos c10]), f3]
                  · simp only [c10, not_false_eq_true, if_true]
                    rw [m_copyLoop k1 k2 (by omega) (by omega) none 0 (by rw [if_neg c10]), f3]
                · have hrr := hR.2 r hr
                  unfold zRw1 at hrr ⊢
                  rw [zcp_o (show 12 ≠ 67 by decide), zcp_o (show 12 ≠ 3 + r2 by omega), zcp_o (show 11 ≠ 67 by decide), zcp_o (show 11 ≠ 3 + r2 by omega), zcp_o (show 65 ≠ 67 by decide), zcp_o (show 65 ≠ 3 + r2 by omega), zcp_o (show 66 ≠ 67 by decide), zcp_o (show 66 ≠ 3 + r2 by omega), zcp_o (show 3 + r ≠ 67 by omega)]
                  refine ⟨hrr.1, fun t ht => ?_⟩
                  by_cases er : r = r2
                  · subst er
                    by_cases et : j' ≤ t ∧ t < j' + n'
                    · have y1 := zcp_at (A := A) (q := 3 + r) (p := j') (n := n') (f := fun t => A (3 + r1) (i' + t)) (i := t - j') (by omega)
                      have y2 := zcp_at (A := zcp A (3 + r) j' n' (fun t => A (3 + r1) (i' + t))) (q := 67) (p := 40 * r + j') (n := n') (f := fun t => A 67 (40 * r1 + i' + t)) (i := t - j') (by omega)
                      rw [show j' + (t - j') = t by omega] at y1
                      rw [show 40 * r + j' + (t - j') = 40 * r + t by omega] at y2
                      rw [y1, y2, (hR.2 r1 k1).2 (i' + (t - j')) (by omega), Nat.add_assoc]
                    · rw [zcp_out (by omega), zcp_out (by omega), zcp_o (by omega)]
                      exact hrr.2 t ht
                  · rw [zcp_o (by omega), zcp_out (by omega), zcp_o (by omega)]
                    exact hrr.2 t ht
              · simp only [eq_true d1, eq_false d2, not_true_eq_false, not_false_eq_true, if_true, if_false, c_found L xs, zbI]
                refine ⟨_, _, _, _, _, _, rfl, ?_, h.fnd 2 (zfa 2)⟩
                simp only [zr_64_2, zr_64_3, zbS, z_rd za_65 k1, z_rd za_65 k2, z_rd za_66 k1, m3, m4, o3, c3, zn1 (show l2 < 2 ^ 31 by omega), zn0 (show l2 < 2 ^ 31 by omega), if_true, if_false, qi, qj, qn, d1.1, d1.2.1, not_true_eq_false]
                by_cases y1 : 0 ≤ j.toInt
                · simp only [y1, not_true_eq_false, if_false]
                  rw [B_Model_copy_100, if_neg (by rw [zwide, nI_toInt (show N < 2 ^ 31 by omega)]; omega)]
                  simp only [zr_64_3, zbS, z_rd za_66 k2, o4]
                  rw [B_Model_copy_118]
                  have e9 : (lg_cmp (j.toInt64 + n.toInt64) (nI M).toInt64 ≤ 0) = False := by
                    apply eq_false
                    rw [lg_cmp_le, fa_le64, lg_i2l_add, Int32.toInt_toInt64, nI_toInt (by omega)]
                    intro q
                    exact d2 ⟨y1, d1.2.1, q⟩
                  simp only [e9, if_false, m_finding L xs, zbI]
                · simp only [y1, not_false_eq_true, if_true, m_finding L xs, zbI]
            · simp only [d1, not_true_eq_false, not_false_eq_true, if_true, if_false, c_found L xs, zbI]
              refine ⟨_, _, _, _, _, _, rfl, ?_, h.fnd 2 (zfa 2)⟩
              simp only [zr_64_2, zr_64_3, zbS, z_rd za_65 k1, z_rd za_65 k2, z_rd za_66 k1, m3, m4, o3, c3, zn1 (show l2 < 2 ^ 31 by omega), zn0 (show l2 < 2 ^ 31 by omega), if_true, if_false, qi, qj, qn]
              by_cases y1 : 0 ≤ i.toInt
              · by_cases y2 : 0 ≤ j.toInt
                · by_cases y3 : 0 ≤ n.toInt
                  · simp only [y1, y2, y3, not_true_eq_false, if_false]
                    rw [B_Model_copy_100, if_pos (by rw [zwide, nI_toInt (show N < 2 ^ 31 by omega)]; omega), m_finding L xs, zbI]
                  · simp only [y1, y2, y3, not_true_eq_false, not_false_eq_true, if_true, if_false, m_finding L xs, zbI]
                · simp only [y1, y2, not_true_eq_false, not_false_eq_true, if_true, if_false, m_finding L xs, zbI]
              · simp only [y1, not_true_eq_false, not_false_eq_true, if_true, if_false, m_finding L xs, zbI]
          · simp only [c3, not_true_eq_false, not_false_eq_true, if_false, c_found L xs, zbI]
            refine ⟨_, _, _, _, _, _, rfl, ?_, h.fnd 5 (zfa 5)⟩
            simp only [zr_64_2, zr_64_3, zbS, z_rd za_65 k1, z_rd za_65 k2, m3, o3, e3, c3, zn1 (show l < 2 ^ 31 by omega), zn0 (show l2 < 2 ^ 31 by omega), if_true, if_false, m_finding L xs, zbI]
    · simp only [h1, h2, and_self, not_false_eq_true, not_true_eq_false, if_false]
      exact ⟨_, _, _, _, _, _, rfl, rfl, h.same (zSame.fI 64 0 0 rfl)⟩
  · simp only [h1, not_false_eq_true, if_true]
    exact ⟨_, _, _, _, _, _, rfl, rfl, h.same (zSame.fI 64 0 0 rfl)⟩
end
