/-! colds -/
/-- f k, f (k + 1) .., j of them, added up -/
def sD (f : Nat → Nat) : Nat → Nat → Nat
  | 0, _ => 0
  | j + 1, k => f k + sD f j (k + 1)
def gcp (g : Nat → Nat) (a c : Nat) : Bool := decide (gk g a = 5) && (decide (gk g c = 5) && (decide (3 ≤ gp g a) && decide (gp g a = gp g c)))
def gcn (g : Nat → Nat) (a : Nat) : Nat := sD (fun c => if gcp g a c = true then 1 else 0) (g 3 - 1 - a) (a + 1)
def gcf (g : Nat → Nat) (a : Nat) : Option Nat := zFind (gcp g a) (g 3 - 1 - a) (a + 1)
/-- the first pair among those of a at least k, j of them -/
def oF (g : Nat → Nat) : Nat → Nat → Option Nat
  | 0, _ => none
  | j + 1, k => match gcf g k with
    | some c => some (10 * k + c)
    | none => oF g j (k + 1)
theorem zdec (n : Nat) : nI n + (-1 : Int32) = nI n - 1 := by
  rw [Int32.sub_eq_add_neg]
theorem zdec1 (n : Nat) : nI (n + 1) + (-1 : Int32) = nI n := by rw [zdec, nI_pred]
section
variable {L : Nat} {xs : Nat → Int32} {B : Nat} {I A : Nat → Nat → Int32} {b : Value} {g : Nat → Nat}
theorem c_isColdPair (hc : cR I A 15 g) (hB : gB g) {t u : Nat} (ht : t < g 3) (hu : u < g 3) (d : Nat) : pm_call L xs (d + 1) m_Shop_isColdPair [.ref 15, .int (nI t), .int (nI u)] (zL I A b) = some (some (.int (if gcp g t u = true then 1 else 0)), zL I A b) := by
  rw [D_Shop_isColdPair hc.1, B_Shop_isColdPair_0]
  have e1 : (nI (gk g t) = (5 : Int32)) = (gk g t = 5) := by rw [zl5]; exact znI (gbl hB _) (by decide)
  have e2 : (nI (gk g u) = (5 : Int32)) = (gk g u = 5) := by rw [zl5]; exact znI (gbl hB _) (by decide)
  have e3 : (nI (gp g t) < (3 : Int32)) = ¬ 3 ≤ gp g t := by rw [zl3, znT (gbl hB _) (by decide)]; simp
  have e4 : (nI (gp g t) = nI (gp g u)) = (gp g t = gp g u) := znI (gbl hB _) (gbl hB _)
  simp only [zSr1 hc.1, zSr4 hc.1, zbS, hc.kind hB b ht, hc.kind hB b hu, hc.place hB b ht, hc.place hB b hu, e1, e2, e3, e4]
  unfold gcp
  by_cases c1 : gk g t = 5
  · by_cases c2 : gk g u = 5
    · by_cases c3 : 3 ≤ gp g t
      · by_cases c4 : gp g t = gp g u
        · simp [c1, c2, c3, c4, show 3 ≤ gp g u by omega]
        · simp [c1, c2, c3, c4]
      · simp [c1, c2, c3]
    · simp [c1, c2]
  · simp [c1]
theorem c_coldPairs (hc : cR I A 15 g) (hB : gB g) (d : Nat) : pm_call L xs (d + 2) m_Shop_coldPairs [.ref 15] (zL I A b) = some (some (.int (nI (sD (gcn g) (g 3) 0))), zL I A b) := by
  rw [D_Shop_coldPairs hc.1, B_Shop_coldPairs_0]
  have hn := hB.1
  have inn : ∀ m a acc k, a < g 3 → k + m = g 3 → zE L xs (d + 1) K_Shop_coldPairs 16 [some (.ref 15), some (.int (nI acc)), some (.int (nI a)), some (.int (nI k))] [] (zL I A b) = zE L xs (d + 1) K_Shop_coldPairs 4 [some (.ref 15), some (.int (nI (acc + sD (fun c => if gcp g a c = true then 1 else 0) m k))), some (.int (nI (a + 1))), some (.int (nI (g 3)))] [] (zL I A b) := by
    intro m
    induction m with
    | zero =>
      intro a acc k ha hk
      rw [B_Shop_coldPairs_16]
      simp only [hc.n, zbS, nI_1]
      rw [if_pos (nI_le (by omega) (by omega)), show k = g 3 by omega]
      rfl
    | succ m ih =>
      intro a acc k ha hk
      rw [B_Shop_coldPairs_16]
      simp only [hc.n, zbS, c_isColdPair hc hB ha (show k < g 3 by omega), zbI, zne, nI_1]
      rw [if_neg (nI_ge (show k < g 3 by omega) (gbl hB 3))]
      rw [show sD (fun c => if gcp g a c = true then 1 else 0) (m + 1) k = (if gcp g a k = true then 1 else 0) + sD (fun c => if gcp g a c = true then 1 else 0) m (k + 1) from rfl]
      by_cases c : gcp g a k = true
      · rw [if_neg (fun q => q c), if_pos c, ih a _ _ ha (by omega), Nat.add_assoc]
      · rw [if_pos c, if_neg c, Nat.zero_add, show nI acc + (0 : Int32) = nI acc from by rw [zl0, nI_add, Nat.add_zero], ih a _ _ ha (by omega)]
  have out : ∀ m a acc y, a + m = g 3 → zE L xs (d + 1) K_Shop_coldPairs 4 [some (.ref 15), some (.int (nI acc)), some (.int (nI a)), y] [] (zL I A b) = some (some (.int (nI (acc + sD (gcn g) m a))), zL I A b) := by
    intro m
    induction m with
    | zero =>
      intro a acc y ha
      rw [B_Shop_coldPairs_4]
      simp only [hc.n, zbS]
      rw [if_pos (nI_le (by omega) (by omega))]
      rfl
    | succ m ih =>
      intro a acc y ha
      rw [B_Shop_coldPairs_4]
      simp only [hc.n, zbS, nI_1]
      rw [if_neg (nI_ge (show a < g 3 by omega) (gbl hB 3)), inn (g 3 - 1 - a) a acc (a + 1) (by omega) (by omega), ih _ _ _ (by omega)]
      rw [show sD (gcn g) (m + 1) a = gcn g a + sD (gcn g) m (a + 1) from rfl, Nat.add_assoc]
      rfl
  have := out (g 3) 0 0 none (by omega)
  rw [Nat.zero_add] at this
  exact this
theorem c_firstCold (hc : cR I A 15 g) (hB : gB g) (d : Nat) : pm_call L xs (d + 2) m_Shop_firstColdPair [.ref 15] (zL I A b) = some (some (.int (zopt (oF g (g 3) 0))), zL I A b) := by
  rw [D_Shop_firstColdPair hc.1, B_Shop_firstColdPair_0]
  have hn := hB.1
  have inn : ∀ m a k, a < g 3 → k + m = g 3 → zE L xs (d + 1) K_Shop_firstColdPair 14 [some (.ref 15), some (.int (nI a)), some (.int (nI k))] [] (zL I A b) = match zFind (gcp g a) m k with
      | some c => some (some (.int (nI (10 * a + c))), zL I A b)
      | none => zE L xs (d + 1) K_Shop_firstColdPair 2 [some (.ref 15), some (.int (nI (a + 1))), some (.int (nI (g 3)))] [] (zL I A b) := by
    intro m
    induction m with
    | zero =>
      intro a k ha hk
      rw [B_Shop_firstColdPair_14]
      simp only [hc.n, zbS, nI_1]
      rw [if_pos (nI_le (by omega) (by omega)), show k = g 3 by omega]
      rfl
    | succ m ih =>
      intro a k ha hk
      rw [B_Shop_firstColdPair_14]
      simp only [hc.n, zbS, c_isColdPair hc hB ha (show k < g 3 by omega), zbI, zne, nI_1, zl10, pk_mul, nI_add]
      rw [if_neg (nI_ge (show k < g 3 by omega) (gbl hB 3))]
      rw [show zFind (gcp g a) (m + 1) k = if gcp g a k = true then some k else zFind (gcp g a) m (k + 1) from rfl]
      by_cases c : gcp g a k = true
      · rw [if_neg (fun q => q c), if_pos c]
      · rw [if_pos c, if_neg c, ih a _ ha (by omega)]
  have out : ∀ m a y, a + m = g 3 → zE L xs (d + 1) K_Shop_firstColdPair 2 [some (.ref 15), some (.int (nI a)), y] [] (zL I A b) = some (some (.int (zopt (oF g m a))), zL I A b) := by
    intro m
    induction m with
    | zero =>
      intro a y ha
      rw [B_Shop_firstColdPair_2]
      simp only [hc.n, zbS]
      rw [if_pos (nI_le (by omega) (by omega))]
      rfl
    | succ m ih =>
      intro a y ha
      rw [B_Shop_firstColdPair_2]
      simp only [hc.n, zbS, nI_1]
      rw [if_neg (nI_ge (show a < g 3 by omega) (gbl hB 3)), inn (g 3 - 1 - a) a (a + 1) (by omega) (by omega)]
      unfold oF gcf
      cases zFind (gcp g a) (g 3 - 1 - a) (a + 1) with
      | some c => rfl
      | none => exact ih _ _ (by omega)
  exact out (g 3) 0 none (by omega)
/-- a value that stands where nothing else is found -/
def zor2 (x : Option Nat) (v : Int32) : Int32 := match x with
  | some n => nI n
  | none => v
theorem m_coldLoop (hm : mR A 68 g) (hB : gB g) (w : Int32) : ∀ j, j ≤ g 3 → ∃ y5 y6, zE L xs 59 K_Model_colds 43 [some (.ref 64), some (.int w), some (.int 0), some (.int (-1000000)), some (.int (nI (g 3) - 1)), none, none] [] (zL I A b) = zE L xs 59 K_Model_colds 43 [some (.ref 64), some (.int w), some (.int (nI (sD (gcn g) j (g 3 - j)))), some (.int (zopt (oF g j (g 3 - j)))), some (.int (nI (g 3 - j) - 1)), y5, y6] [] (zL I A b) := by
  have hn := hB.1
  intro j
  induction j with
  | zero => intro _; exact ⟨none, none, rfl⟩
  | succ j ih =>
    intro hj
    obtain ⟨y5, y6, e⟩ := ih (by omega)
    obtain ⟨a, ha⟩ : ∃ a, g 3 - j = a + 1 := ⟨g 3 - j - 1, by omega⟩
    have ha3 : a < g 3 := by omega
    rw [e, ha, nI_pred, B_Model_colds_43]
    simp only [zr_64_5, zbS, m_rd' _ b hm zl3 (show 3 < 55 by decide)]
    rw [if_neg (nI_pos (by omega))]
    have e1 : nI (g 3) - 1 = nI (g 3 - 1) := by rw [zl1, pk_sub (by omega)]
    rw [e1]
    have inn : ∀ i, i ≤ g 3 - 1 - a → ∃ y6', zE L xs 59 K_Model_colds 58 [some (.ref 64), some (.int w), some (.int (nI (sD (gcn g) j (a + 1)))), some (.int (zopt (oF g j (a + 1)))), some (.int (nI a)), some (.int (nI (g 3 - 1))), y6] [] (zL I A b) = zE L xs 59 K_Model_colds 58 [some (.ref 64), some (.int w), some (.int (nI (sD (gcn g) j (a + 1) + sD (fun c => if gcp g a c = true then 1 else 0) i (g 3 - i)))), some (.int (zor2 ((zFind (gcp g a) i (g 3 - i)).map (fun c => 10 * a + c)) (zopt (oF g j (a + 1))))), some (.int (nI a)), some (.int (nI (g 3 - 1 - i))), y6'] [] (zL I A b) := by
      intro i
      induction i with
      | zero => intro _; exact ⟨y6, rfl⟩
      | succ i ih2 =>
        intro hi
        obtain ⟨y7, e7⟩ := ih2 (by omega)
        obtain ⟨c, hcc⟩ : ∃ c, g 3 - 1 - i = c + 1 := ⟨g 3 - 1 - i - 1, by omega⟩
        have hc3 : c + 1 < g 3 := by omega
        rw [e7, hcc, B_Model_colds_58]
        have f1 : (nI (gk g a) = (5 : Int32)) = (gk g a = 5) := by rw [zl5]; exact znI (gbl hB _) (by decide)
        have f2 : (nI (gk g (c + 1)) = (5 : Int32)) = (gk g (c + 1) = 5) := by rw [zl5]; exact znI (gbl hB _) (by decide)
        have f3 : (nI (gp g a) < (3 : Int32)) = ¬ 3 ≤ gp g a := by rw [zl3, znT (gbl hB _) (by decide)]; simp
        have f4 : (nI (gp g a) = nI (gp g (c + 1))) = (gp g a = gp g (c + 1)) := znI (gbl hB _) (gbl hB _)
        simp only [zr_64_5, zbS, m_of' L xs 58 _ b hm zl0 (show a < 7 by omega) (show 0 < 7 by decide), m_of' L xs 58 _ b hm zl0 (show c + 1 < 7 by omega) (show 0 < 7 by decide), m_of' L xs 58 _ b hm zl3 (show a < 7 by omega) (show 3 < 7 by decide), m_of' L xs 58 _ b hm zl3 (show c + 1 < 7 by omega) (show 3 < 7 by decide), zbI, f1, f2, f3, f4]
        rw [if_neg (nI_ge (show a < c + 1 by omega) (by omega))]
        have hs : sD (fun c => if gcp g a c = true then 1 else 0) (i + 1) (g 3 - (i + 1)) = (if gcp g a (c + 1) = true then 1 else 0) + sD (fun c => if gcp g a c = true then 1 else 0) i (g 3 - i) := by
          show (if gcp g a (g 3 - (i + 1)) = true then 1 else 0) + sD _ i (g 3 - (i + 1) + 1) = _
          rw [show g 3 - (i + 1) = c + 1 by omega, show c + 1 + 1 = g 3 - i by omega]
        have hf : zFind (gcp g a) (i + 1) (g 3 - (i + 1)) = if gcp g a (c + 1) = true then some (c + 1) else zFind (gcp g a) i (g 3 - i) := by
          show (if gcp g a (g 3 - (i + 1)) = true then some (g 3 - (i + 1)) else zFind (gcp g a) i (g 3 - (i + 1) + 1)) = _
          rw [show g 3 - (i + 1) = c + 1 by omega, show c + 1 + 1 = g 3 - i by omega]
        have hx : g 3 - 1 - (i + 1) = c := by omega
        have no : gcp g a (c + 1) = false → ∃ y6', zE L xs 59 K_Model_colds 135 [some (.ref 64), some (.int w), some (.int (nI (sD (gcn g) j (a + 1) + sD (fun c => if gcp g a c = true then 1 else 0) i (g 3 - i)))), some (.int (zor2 ((zFind (gcp g a) i (g 3 - i)).map (fun c => 10 * a + c)) (zopt (oF g j (a + 1))))), some (.int (nI a)), some (.int (nI (c + 1))), y7] [.int 0] (zL I A b) = zE L xs 59 K_Model_colds 58 [some (.ref 64), some (.int w), some (.int (nI (sD (gcn g) j (a + 1) + sD (fun c => if gcp g a c = true then 1 else 0) (i + 1) (g 3 - (i + 1))))), some (.int (zor2 ((zFind (gcp g a) (i + 1) (g 3 - (i + 1))).map (fun c => 10 * a + c)) (zopt (oF g j (a + 1))))), some (.int (nI a)), some (.int (nI (g 3 - 1 - (i + 1)))), y6'] [] (zL I A b) := by
          intro hno
          refine ⟨some (.int 0), ?_⟩
          rw [B_Model_colds_135, if_pos rfl, if_pos rfl, hs, hf, hx, hno, zdec1]
          simp only [Bool.false_eq_true, if_false, Nat.zero_add]
          rw [show ∀ z : Nat, nI z + (0 : Int32) = nI z from fun z => by rw [zl0, nI_add, Nat.add_zero]]
        by_cases c1 : gk g a = 5
        · rw [if_neg (fun q => q c1)]
          by_cases c2 : gk g (c + 1) = 5
          · rw [if_neg (fun q => q c2)]
            by_cases c3 : 3 ≤ gp g a
            · rw [if_neg (fun q => q c3)]
              by_cases c4 : gp g a = gp g (c + 1)
              · rw [if_neg (fun q => q c4)]
                have hyes : gcp g a (c + 1) = true := by simp [gcp, c1, c2, c3, c4, show 3 ≤ gp g (c + 1) by omega]
                refine ⟨some (.int 1), ?_⟩
                rw [B_Model_colds_135, if_neg (by decide), if_neg (by decide), hs, hf, hx, hyes, zdec1]
                simp only [if_true, zl10, pk_mul, nI_add, nI_1]
                rw [show sD (gcn g) j (a + 1) + (1 + sD (fun c => if gcp g a c = true then 1 else 0) i (g 3 - i)) = sD (gcn g) j (a + 1) + sD (fun c => if gcp g a c = true then 1 else 0) i (g 3 - i) + 1 by omega]
                rfl
              · rw [if_pos c4]
                exact no (by simp [gcp, c4])
            · rw [if_pos c3]
              exact no (by simp [gcp, c3])
          · rw [if_pos c2]
            exact no (by simp [gcp, c2])
        · rw [if_pos c1]
          exact no (by simp [gcp, c1])
    obtain ⟨y7, e7⟩ := inn (g 3 - 1 - a) (Nat.le_refl _)
    rw [e7, B_Model_colds_58, if_pos (nI_le (by omega) (by omega))]
    have hg : g 3 - (g 3 - 1 - a) = a + 1 := by omega
    have hja : g 3 - (j + 1) = a := by omega
    refine ⟨some (.int (nI (g 3 - 1 - (g 3 - 1 - a)))), y7, ?_⟩
    rw [hg, hja, zdec]
    have e8 : sD (gcn g) (j + 1) a = sD (gcn g) j (a + 1) + sD (fun c => if gcp g a c = true then 1 else 0) (g 3 - 1 - a) (a + 1) := by
      show gcn g a + sD (gcn g) j (a + 1) = _
      rw [Nat.add_comm]
      rfl
    have e9 : zopt (oF g (j + 1) a) = zor2 ((zFind (gcp g a) (g 3 - 1 - a) (a + 1)).map (fun c => 10 * a + c)) (zopt (oF g j (a + 1))) := by
      show zopt (match gcf g a with
        | some c => some (10 * a + c)
        | none => oF g j (a + 1)) = _
      unfold gcf
      cases zFind (gcp g a) (g 3 - 1 - a) (a + 1) <;> rfl
    rw [e8, e9]
theorem P_colds (h : Rel B I A) (w : Int32) : zOk L xs B m_Eggs_colds m_Model_colds [.int w] I A b := by
  have hw := h
  obtain ⟨g, -, -, -, -, ⟨hc, hm, hB, hD, -⟩, -⟩ := hw
  have hn := hB.1
  by_cases h1 : 0 < g 0
  · by_cases h2 : 0 ≤ w ∧ w ≤ 1
    · obtain ⟨k, hk, rfl⟩ := zmm (k := 1) (by decide) h2.1 h2.2
      refine zOk.pure (r := if nI k = 0 then nI (sD (gcn g) (g 3) 0) else zopt (oF g (g 3) 0)) h ?_ ?_
      · rw [D_Eggs_colds, B_Eggs_colds_0]
        simp only [zr_0_2, zbS, c_stands L xs 58 b hc hB, zbI, h1, if_true, zn1 (show k < 2 ^ 31 by omega), if_false, h2, and_self, c_coldPairs hc hB 57, c_firstCold hc hB 57]
        rw [if_pos (by decide)]
        by_cases c : nI k = 0
        · simp [c]
        · simp [c]
      · rw [D_Model_colds, B_Model_colds_0]
        simp only [zp_64_0, zbS, m_isThere L xs 58 _ b hm hB, zbI, h1, if_true, m_in L xs, h2, and_self, zr_64_5, m_rd' _ b hm zl3 (show 3 < 55 by decide)]
        rw [if_pos (by decide), if_pos (by decide)]
        obtain ⟨y5, y6, e⟩ := m_coldLoop (I := zuI I 64 0 0) (b := b) (L := L) (xs := xs) hm hB (nI k) (g 3) (Nat.le_refl _)
        rw [e, Nat.sub_self, B_Model_colds_43, if_pos (by decide)]
        by_cases c : nI k = 0
        · simp [c]
        · simp [c]
    · refine zOk.pure (r := -1000001) h ?_ ?_
      · rw [D_Eggs_colds, B_Eggs_colds_0]
        simp only [zr_0_2, zbS, c_stands L xs 58 b hc hB, zbI, h1, if_true]
        rw [if_pos (by decide)]
        by_cases c : w < 0
        · rw [if_pos c]
        · rw [if_neg c, if_neg (fun q => h2 ⟨fa_of_nlt c, q⟩)]
      · rw [D_Model_colds, B_Model_colds_0]
        simp only [zp_64_0, zbS, m_isThere L xs 58 _ b hm hB, zbI, h1, if_true, m_in L xs, h2, if_false]
        rw [if_pos (by decide), if_neg (by decide)]
  · refine zOk.pure (r := -1000002) h ?_ ?_
    · rw [D_Eggs_colds, B_Eggs_colds_0]
      simp only [zr_0_2, zbS, c_stands L xs 58 b hc hB, zbI, zne, h1, not_true_eq_false, not_false_eq_true, if_false]
    · rw [D_Model_colds, B_Model_colds_0]
      simp only [zp_64_0, zbS, m_isThere L xs 58 _ b hm hB, zbI, zne, h1, not_true_eq_false, not_false_eq_true, if_false]
end
