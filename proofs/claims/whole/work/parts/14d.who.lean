/-! who -/
section
variable {L : Nat} {xs : Nat → Int32} {B : Nat} {I A : Nat → Nat → Int32} {b : Value} {g : Nat → Nat}
theorem gu_h {t w v : Nat} (hw : w < 3) : ∀ u, gh (gu g (6 + 7 * t + w) v) u = gh g u := by
  intro u
  have e1 : ∀ u, gp (gu g (6 + 7 * t + w) v) u = gp g u := fun u => gu_n (by omega)
  have e2 : ∀ u, go (gu g (6 + 7 * t + w) v) u = go g u := fun u => gu_n (by omega)
  unfold gh
  rw [gu_n (show 3 ≠ 6 + 7 * t + w by omega)]
  simp only [e1, e2]
theorem gu_broken {t w v : Nat} (hw : w < 3) : gbroken (gu g (6 + 7 * t + w) v) = gbroken g := by
  unfold gbroken
  rw [gu_n (show 3 ≠ 6 + 7 * t + w by omega)]
  apply zB_congr
  intro u _
  rw [show gc (gu g (6 + 7 * t + w) v) u = gc g u from gu_n (by omega)]
/-- the kind (0), weight (1) or softness (2) of a thing changed -/
theorem cR.chg {o t w v : Nat} (h : cR I A o g) (hw : w < 3) : cR I (zuA A (o + 1 + w) t (nI v)) o (gu g (6 + 7 * t + w) v) := by
  refine ⟨h.1, ?_, fun u hu => ?_⟩
  · rw [gu_n (show 0 ≠ 6 + 7 * t + w by omega), gu_n (show 1 ≠ 6 + 7 * t + w by omega), gu_n (show 2 ≠ 6 + 7 * t + w by omega), gu_n (show 3 ≠ 6 + 7 * t + w by omega), gu_n (show 4 ≠ 6 + 7 * t + w by omega), gu_broken hw]
    exact h.2.1
  · rw [gu_n (show 3 ≠ 6 + 7 * t + w by omega)] at hu
    obtain ⟨k1, k2, k3, k4, k5, k6⟩ := h.2.2 u hu
    rw [gu_h hw, show gp (gu g (6 + 7 * t + w) v) u = gp g u from gu_n (by omega), show gi (gu g (6 + 7 * t + w) v) u = gi g u from gu_n (by omega), zuA_o (show o + 4 ≠ o + 1 + w by omega), zuA_o (show o + 5 ≠ o + 1 + w by omega), zuA_o (show o + 6 ≠ o + 1 + w by omega)]
    refine ⟨?_, ?_, ?_, k4, k5, k6⟩
    · by_cases e : w = 0
      · subst e
        rw [show o + 1 + 0 = o + 1 from rfl, zuA_s]
        unfold upd
        by_cases e2 : u = t
        · subst e2; rw [if_pos rfl, show gk (gu g (6 + 7 * u + 0) v) u = v from gu_s]
        · rw [if_neg e2, show gk (gu g (6 + 7 * t + 0) v) u = gk g u from gu_n (by omega)]; exact k1
      · rw [zuA_o (by omega), show gk (gu g (6 + 7 * t + w) v) u = gk g u from gu_n (by omega)]; exact k1
    · by_cases e : w = 1
      · subst e
        rw [show o + 1 + 1 = o + 2 from rfl, zuA_s]
        unfold upd
        by_cases e2 : u = t
        · subst e2; rw [if_pos rfl, show gw (gu g (6 + 7 * u + 1) v) u = v from gu_s]
        · rw [if_neg e2, show gw (gu g (6 + 7 * t + 1) v) u = gw g u from gu_n (by omega)]; exact k2
      · rw [zuA_o (by omega), show gw (gu g (6 + 7 * t + w) v) u = gw g u from gu_n (by omega)]; exact k2
    · by_cases e : w = 2
      · subst e
        rw [show o + 1 + 2 = o + 3 from rfl, zuA_s]
        unfold upd
        by_cases e2 : u = t
        · subst e2; rw [if_pos rfl, show gs (gu g (6 + 7 * u + 2) v) u = v from gu_s]
        · rw [if_neg e2, show gs (gu g (6 + 7 * t + 2) v) u = gs g u from gu_n (by omega)]; exact k3
      · rw [zuA_o (by omega), show gs (gu g (6 + 7 * t + w) v) u = gs g u from gu_n (by omega)]; exact k3
/-- what a row of broken things is to be -/
def gbk (g : Nat → Nat) (f : Nat → Int32) : Bool := zAl (fun t => decide (f t = if gbears g t < gload g t then 1 else 0)) (g 3) 0
theorem c_isBroken {o : Nat} (hc : cR I A o g) (hB : gB g) {q i : Nat} (hq : zIs q 40) (hi : i + g 3 ≤ 40) (d : Nat) : pm_call L xs (d + 4) m_Clues_isBroken [.ref o, .ref q, .int (nI i)] (zL I A b) = some (some (.int (if gbk g (fun t => A q (i + t)) = true then 1 else 0)), zL I A b) := by
  have hn := hB.1
  rw [C_Clues_isBroken, B_Clues_isBroken_0]
  simp only [c_overladenBits L xs d b hc hB, zbI]
  have hlt : gover g < 2 ^ 31 := by have := zB_128 (fun t => decide (gbears g t < gload g t)) hn; unfold gover; omega
  have yes : ∀ m k, k + m = g 3 → zE L xs (d + 3) K_Clues_isBroken 8 [some (.ref o), some (.ref q), some (.int (nI i)), some (.int (nI (gover g))), some (.int (nI k))] [] (zL I A b) = some (some (.int (if zAl (fun t => decide (A q (i + t) = if gbears g t < gload g t then 1 else 0)) m k = true then 1 else 0)), zL I A b) := by
    intro m
    induction m with
    | zero =>
      intro k hk
      rw [B_Clues_isBroken_8]
      simp only [hc.n, zbS]
      rw [if_pos (nI_le (by omega) (by omega))]
      rfl
    | succ m ih =>
      intro k hk
      have hk3 : k < g 3 := by omega
      have e1 : (nI (gover g) >>> (nI k &&& 31)) &&& (1 : Int32) = if gbears g k < gload g k then 1 else 0 := by
        rw [zbit hlt (by omega)]
        have h2 := ztb (fun t => decide (gbears g t < gload g t)) (g 3) k
        rw [Nat.testBit_eq_decide_div_mod_eq] at h2
        have h3 : zB (fun t => decide (gbears g t < gload g t)) (g 3) = gover g := rfl
        rw [h3] at h2
        by_cases c : gbears g k < gload g k
        · rw [if_pos c]
          simp [hk3, c] at h2
          rw [h2]
          rfl
        · rw [if_neg c]
          simp [c] at h2
          rw [show gover g / 2 ^ k % 2 = 0 by omega]
          rfl
      rw [B_Clues_isBroken_8]
      simp only [hc.n, zbS, nI_add, nI_1, z_rd hq (show i + k < 40 by omega), e1]
      rw [if_neg (nI_ge hk3 (by omega)), zAl_s]
      by_cases c : A q (i + k) = if gbears g k < gload g k then 1 else 0
      · rw [if_pos c, ih _ (by omega)]
        simp only [decide_eq_true c, Bool.true_and]
      · rw [if_neg c]
        simp only [decide_eq_false c, Bool.false_and, Bool.false_eq_true, if_false]
  exact yes (g 3) 0 (by omega)
theorem m_brokenSo (hm : mR A 70 g) (hB : gB g) {p : Nat} (hp : p + g 3 ≤ 320) (d : Nat) : pm_call L xs (d + 4) m_Model_brokenSo [.ref 64, .int (nI p)] (zL I A b) = some (some (.int (if gbk g (fun t => A 67 (p + t)) = true then 1 else 0)), zL I A b) := by
  have hn := hB.1
  rw [D_Model_brokenSo, B_Model_brokenSo_0]
  have no : ∀ m k, k + m = g 3 → zE L xs (d + 3) K_Model_brokenSo 4 [some (.ref 64), some (.int (nI p)), some (.int 0), some (.int (nI k))] [] (zL I A b) = some (some (.int 0), zL I A b) := by
    intro m
    induction m with
    | zero =>
      intro k hk
      rw [B_Model_brokenSo_4]
      simp only [zr_64_7, zbS, m_rd' _ b hm zl3 (show 3 < 55 by decide)]
      rw [if_pos (nI_le (by omega) (by omega)), if_pos trivial]
    | succ m ih =>
      intro k hk
      rw [B_Model_brokenSo_4]
      simp only [zr_64_7, zbS, m_rd' _ b hm zl3 (show 3 < 55 by decide), nI_1]
      rw [if_neg (nI_ge (show k < g 3 by omega) (by omega)), if_pos trivial, ih _ (by omega)]
  have yes : ∀ m k, k + m = g 3 → zE L xs (d + 3) K_Model_brokenSo 4 [some (.ref 64), some (.int (nI p)), some (.int 1), some (.int (nI k))] [] (zL I A b) = some (some (.int (if zAl (fun t => decide (A 67 (p + t) = if gbears g t < gload g t then 1 else 0)) m k = true then 1 else 0)), zL I A b) := by
    intro m
    induction m with
    | zero =>
      intro k hk
      rw [B_Model_brokenSo_4]
      simp only [zr_64_7, zbS, m_rd' _ b hm zl3 (show 3 < 55 by decide)]
      rw [if_pos (nI_le (by omega) (by omega)), if_neg (by decide), if_pos trivial]
      rfl
    | succ m ih =>
      intro k hk
      have hl := zgload_lt hB k
      have hb := zgbears_le (g := g) k
      rw [B_Model_brokenSo_4]
      simp only [zr_64_7, zr_64_4, zbS, m_rd' _ b hm zl3 (show 3 < 55 by decide), nI_1, nI_add, m_loadOf L xs d _ b hm hB (show k < 7 by omega), m_bears L xs (d + 1) _ b hm hB (show k < 7 by omega), zbI, z_rd za_67 (show p + k < 320 by omega), znL (show gload g k < 2 ^ 31 by omega) (show gbears g k < 2 ^ 31 by omega)]
      rw [if_neg (nI_ge (show k < g 3 by omega) (by omega)), if_neg (by decide), zAl_s]
      by_cases c1 : gload g k ≤ gbears g k
      · rw [if_pos c1]
        have c1' : ¬ gbears g k < gload g k := by omega
        simp only [c1', if_false]
        by_cases c : (0 : Int32) = A 67 (p + k)
        · rw [if_neg (fun q => q c), ih _ (by omega)]
          simp only [decide_eq_true c.symm, Bool.true_and]
        · rw [if_pos c, no m _ (by omega)]
          simp only [decide_eq_false (fun z : A 67 (p + k) = 0 => c z.symm), Bool.false_and, Bool.false_eq_true, if_false]
      · rw [if_neg c1]
        have c1' : gbears g k < gload g k := by omega
        simp only [c1', if_true]
        by_cases c : (1 : Int32) = A 67 (p + k)
        · rw [if_neg (fun q => q c), ih _ (by omega)]
          simp only [decide_eq_true c.symm, Bool.true_and]
        · rw [if_pos c, no m _ (by omega)]
          simp only [decide_eq_false (fun z : A 67 (p + k) = 1 => c z.symm), Bool.false_and, Bool.false_eq_true, if_false]
  exact yes (g 3) 0 (by omega)
theorem gbk_congr {f f' : Nat → Int32} (h : ∀ t, t < g 3 → f t = f' t) : gbk g f = gbk g f' := zAl_congr _ _ (fun t _ ht => by rw [h t (by omega)])
end
