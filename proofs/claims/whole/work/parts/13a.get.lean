/-! what is asked of a SHOP: thing, bag, stand, spare, beside, even, kind, trace, count -/
theorem zth {v : Int32} {n : Nat} (h : 0 ≤ v.toInt ∧ v.toInt < (n : Int)) : ∃ t : Nat, t < n ∧ v = nI t := by
  obtain ⟨j, hj, rfl⟩ := nI_of (x := v) (by rw [fa_lt, show (0 : Int32).toInt = 0 by decide]; omega)
  rw [nI_toInt hj] at h
  exact ⟨j, by omega, rfl⟩
section
variable {I A : Nat → Nat → Int32} {o : Nat} {g : Nat → Nat} (L : Nat) (xs : Nat → Int32) (d : Nat) (b : Value)
theorem c_stands (hR : cR I A o g) (hB : gB g) : pm_call L xs (d + 1) m_Shop_stands [.ref o] (zL I A b) = some (some (.int (if 0 < g 0 then 1 else 0)), zL I A b) := by
  rw [D_Shop_stands hR.1, B_Shop_stands_0]
  simp only [hR.bags, zbS]
  by_cases h : 0 < g 0
  · rw [if_neg (nI_nle h (gbl hB 0)), if_pos h]
  · rw [show g 0 = 0 by omega, if_pos (by decide), if_neg (by decide)]
theorem c_hasThing (hR : cR I A o g) (hB : gB g) (v : Int32) : pm_call L xs (d + 1) m_Shop_hasThing [.ref o, .int v] (zL I A b) = some (some (.int (if 0 ≤ v.toInt ∧ v.toInt < (g 3 : Int) then 1 else 0)), zL I A b) := by
  rw [D_Shop_hasThing hR.1, B_Shop_hasThing_0]
  simp only [hR.n, zbS]
  have e1 : (v < 0) = ¬ 0 ≤ v.toInt := by apply propext; rw [fa_lt, show (0 : Int32).toInt = 0 by decide]; omega
  have e2 : (nI (g 3) ≤ v) = ¬ v.toInt < (g 3 : Int) := by apply propext; rw [fa_le, nI_toInt (gbl hB 3)]; omega
  simp only [e1, e2]
  by_cases h1 : 0 ≤ v.toInt
  · by_cases h2 : v.toInt < (g 3 : Int)
    · simp [h1, h2]
    · simp [h1, h2]
  · simp [h1]
theorem c_hasBag (hR : cR I A o g) (hB : gB g) (v : Int32) : pm_call L xs (d + 1) m_Shop_hasBag [.ref o, .int v] (zL I A b) = some (some (.int (if 0 ≤ v.toInt ∧ v.toInt < (g 0 : Int) then 1 else 0)), zL I A b) := by
  rw [D_Shop_hasBag hR.1, B_Shop_hasBag_0]
  simp only [hR.bags, zbS]
  have e1 : (v < 0) = ¬ 0 ≤ v.toInt := by apply propext; rw [fa_lt, show (0 : Int32).toInt = 0 by decide]; omega
  have e2 : (nI (g 0) ≤ v) = ¬ v.toInt < (g 0 : Int) := by apply propext; rw [fa_le, nI_toInt (gbl hB 0)]; omega
  simp only [e1, e2]
  by_cases h1 : 0 ≤ v.toInt
  · by_cases h2 : v.toInt < (g 0 : Int)
    · simp [h1, h2]
    · simp [h1, h2]
  · simp [h1]
theorem c_bitsAt' (hR : cR I A o g) (hB : gB g) {p : Nat} {v : Int32} (hv : v = nI p) (hp : p < 2 ^ 31) : pm_call L xs (d + 1) m_Shop_bitsAt [.ref o, .int v] (zL I A b) = some (some (.int (nI (gset g p))), zL I A b) := by
  subst hv; exact c_bitsAt L xs d b hR hB hp
theorem c_countAt' (hR : cR I A o g) (hB : gB g) {p : Nat} {v : Int32} (hv : v = nI p) (hp : p < 2 ^ 31) : pm_call L xs (d + 2) m_Shop_countAt [.ref o, .int v] (zL I A b) = some (some (.int (nI (gcount g p))), zL I A b) := by
  subst hv; exact c_countAt L xs d b hR hB hp
theorem c_topOf' (hR : cR I A o g) (hB : gB g) (hD : gD g) {p : Nat} {v : Int32} (hv : v = nI p) (hp : p < 2 ^ 31) (hp2 : p ≠ 2) : pm_call L xs (d + 3) m_Shop_topOf [.ref o, .int v] (zL I A b) = some (some (.int (zopt (ghigh g p))), zL I A b) := by
  subst hv; exact c_topOf L xs d b hR hB hD hp hp2
theorem c_warmBits (hR : cR I A o g) (hB : gB g) : pm_call L xs (d + 2) m_Shop_warmBits [.ref o] (zL I A b) = some (some (.int (nI (zB (gwarm g) (g 3)))), zL I A b) := by
  rw [D_Shop_warmBits hR.1, B_Shop_warmBits_0]
  have hn := hB.1
  refine (zloop (fun k a => zE L xs (d + 1) K_Shop_warmBits 4 [some (.ref o), some (.int a), some (.int k)] [] (zL I A b)) (fun t a => if gwarm g t = true then a ||| ((1 : Int32) <<< (nI t &&& 31)) else a) (g 3) (fun a => some (some (.int a), zL I A b)) (fun t a ht => ?_) (fun a => ?_) 0).trans ?_
  · rw [B_Shop_warmBits_4]
    simp only [hR.n, zbS, c_isWarm L xs d b hR hB ht, zbI, zne]
    rw [if_neg (nI_ge ht (gbl hB 3))]
    cases hw : gwarm g t with
    | true => simp
    | false => simp [zor0]
  · rw [B_Shop_warmBits_4]
    simp only [hR.n, zbS]
    rw [if_pos (nI_le (Nat.le_refl _) (gbl hB 3))]
  · rw [zl0, zF_bits (gwarm g) _ _ (by omega) (fun k a _ => rfl)]
end
section
variable {A : Nat → Nat → Int32} {q : Nat} {g : Nat → Nat} (L : Nat) (xs : Nat → Int32) (d : Nat) (I : Nat → Nat → Int32) (b : Value)
theorem m_rd' (hR : mR A q g) {j : Nat} {v : Int32} (hv : v = nI j) (hj : j < 55) : pm_rd 0 (zL I A b) q v = some (nI (g j)) := by
  subst hv; exact m_rd I b hR hj
theorem m_of' (hR : mR A q g) {t w : Nat} {v : Int32} (hv : v = nI w) (ht : t < 7) (hw : w < 7) : pm_call L xs (d + 1) m_Model_of [.ref q, .int (nI t), .int v] (zL I A b) = some (some (.int (nI (g (6 + 7 * t + w)))), zL I A b) := by
  subst hv; exact m_of L xs d I b hR ht hw
theorem m_things' (hR : mR A q g) (hB : gB g) {p : Nat} {v : Int32} (hv : v = nI p) (hp : p < 2 ^ 31) : pm_call L xs (d + 2) m_Model_things [.ref q, .int v] (zL I A b) = some (some (.int (nI (gset g p))), zL I A b) := by
  subst hv; exact m_things L xs d I b hR hB hp
theorem m_firstOf' (hR : mR A q g) (hB : gB g) {p : Nat} {v : Int32} (hv : v = nI p) (hp : p < 2 ^ 31) : pm_call L xs (d + 2) m_Model_firstOf [.ref q, .int v] (zL I A b) = some (some (.int (zopt (gfirst g p (g 3)))), zL I A b) := by
  subst hv; exact m_firstOf L xs d I b hR hB hp
theorem m_topOf' (hR : mR A q g) (hB : gB g) {p : Nat} {v : Int32} (hv : v = nI p) (hp : p < 2 ^ 31) : pm_call L xs (d + 2) m_Model_topOf [.ref q, .int v] (zL I A b) = some (some (.int (zopt (gtop g p (g 3)))), zL I A b) := by
  subst hv; exact m_topOf L xs d I b hR hB hp
theorem m_isThere (hR : mR A 68 g) (hB : gB g) : pm_call L xs (d + 1) m_Model_isThere [.ref 64] (zL I A b) = some (some (.int (if 0 < g 0 then 1 else 0)), zL I A b) := by
  rw [D_Model_isThere, B_Model_isThere_0]
  simp only [zr_64_5, zbS, m_rd' I b hR zl0 (show 0 < 55 by decide)]
  by_cases h : 0 < g 0
  · rw [if_neg (nI_nle h (gbl hB 0)), if_pos h]
  · rw [show g 0 = 0 by omega, if_pos (by decide), if_neg (by decide)]
theorem zin {v : Int32} {n : Nat} (hn : n < 2 ^ 20) : (0 ≤ v ∧ v ≤ nI n - 1) = (0 ≤ v.toInt ∧ v.toInt < (n : Int)) := by
  apply propext
  rw [fa_le, fa_le, zl1, pk_sub_toInt (by omega) (by decide), show (0 : Int32).toInt = 0 by decide]
  omega
theorem m_isThing (hR : mR A 68 g) (hB : gB g) (v : Int32) : pm_call L xs (d + 2) m_Model_isThing [.ref 64, .int v] (zL I A b) = some (some (.int (if 0 ≤ v.toInt ∧ v.toInt < (g 3 : Int) then 1 else 0)), zL I A b) := by
  rw [D_Model_isThing, B_Model_isThing_0]
  simp only [zr_64_5, zbS, m_rd' I b hR zl3 (show 3 < 55 by decide), m_in L xs, zbI, zin (hB.2.2.1 3)]
  by_cases h : 0 ≤ v.toInt ∧ v.toInt < (g 3 : Int)
  · simp [h]
  · simp [h]
theorem m_isBag (hR : mR A 68 g) (hB : gB g) (v : Int32) : pm_call L xs (d + 2) m_Model_isBag [.ref 64, .int v] (zL I A b) = some (some (.int (if 0 ≤ v.toInt ∧ v.toInt < (g 0 : Int) then 1 else 0)), zL I A b) := by
  rw [D_Model_isBag, B_Model_isBag_0]
  simp only [zr_64_5, zbS, m_rd' I b hR zl0 (show 0 < 55 by decide), m_in L xs, zbI, zin (hB.2.2.1 0)]
  by_cases h : 0 ≤ v.toInt ∧ v.toInt < (g 0 : Int)
  · simp [h]
  · simp [h]
end
section
variable {L : Nat} {xs : Nat → Int32} {B : Nat} {I A : Nat → Nat → Int32} {b : Value}
theorem P_kind (h : Rel B I A) (v : Int32) : zOk L xs B m_Eggs_kind m_Model_kind [.int v] I A b := by
  have hw := h
  obtain ⟨g, -, -, -, -, ⟨hc, hm, hB, -⟩, -⟩ := hw
  have hn := hB.1
  by_cases h1 : 0 ≤ v.toInt ∧ v.toInt < (g 3 : Int)
  · obtain ⟨t, ht, rfl⟩ := zth h1
    refine zOk.pure (r := nI (gk g t)) h ?_ ?_
    · rw [D_Eggs_kind, B_Eggs_kind_0]
      simp only [zr_0_2, zbS, c_hasThing L xs 58 b hc hB, zbI, zne, h1, and_self, not_true_eq_false, if_false, zSr1 hc.1, hc.kind hB b ht]
    · rw [D_Model_kind, B_Model_kind_0]
      simp only [zp_64_0, zbS, m_isThing L xs 57 _ b hm hB, zbI, zne, h1, and_self, not_true_eq_false, if_false, zr_64_5, m_of' L xs 58 _ b hm zl0 (show t < 7 by omega) (show 0 < 7 by decide)]
  · refine zOk.pure (r := -1000001) h ?_ ?_
    · rw [D_Eggs_kind, B_Eggs_kind_0]
      simp only [zr_0_2, zbS, c_hasThing L xs 58 b hc hB, zbI, zne, h1, not_false_eq_true, if_true]
    · rw [D_Model_kind, B_Model_kind_0]
      simp only [zp_64_0, zbS, m_isThing L xs 57 _ b hm hB, zbI, zne, h1, not_false_eq_true, if_true]
theorem P_thing (h : Rel B I A) (v w : Int32) : zOk L xs B m_Eggs_thing m_Model_thing [.int v, .int w] I A b := by
  have hw := h
  obtain ⟨g, -, -, -, -, ⟨hc, hm, hB, hD, hU, hO, h5, hk, -⟩, -⟩ := hw
  have hn := hB.1
  by_cases h1 : 0 ≤ v.toInt ∧ v.toInt < (g 3 : Int)
  · obtain ⟨t, ht, rfl⟩ := zth h1
    have ht7 : t < 7 := by omega
    obtain ⟨k1, k2, k3, k4⟩ := hk t ht
    refine zOk.pure (r := if w = 0 then nI (gw g t) else if w = 1 then nI (gs g t) else if w = 2 then nI (gp g t) else if w = 3 then nI (gload g t) else if w = 4 then nI (gpress g t) else if w = 5 then nI (gbears g t) else if w = 6 then nI (gc g t) else if w = 7 then (if gwarm g t = true then 1 else 0) else -1000001) h ?_ ?_
    · rw [D_Eggs_thing, B_Eggs_thing_0]
      have e1 : (if gc g t = 1 then (1 : Int32) else 0) = nI (gc g t) := by
        rcases (show gc g t = 0 ∨ gc g t = 1 by omega) with e | e
        · rw [e]; rfl
        · rw [e]; rfl
      simp only [zr_0_2, zbS, c_hasThing L xs 58 b hc hB, zbI, zne, h1, and_self, not_true_eq_false, not_false_eq_true, if_true, zSr1 hc.1, zSr2 hc.1, zSr3 hc.1, zSr4 hc.1, hc.weight hB b ht, hc.soft hB b ht, hc.place hB b ht, c_loadOn L xs 57 b hc hB ht, c_pressOf L xs 57 b hc hB ht, c_bearsOf L xs 57 b hc hB ht, c_isCrushed L xs 58 b hc hB ht, c_isWarm L xs 58 b hc hB ht]
      by_cases c0 : w = 0
      · simp [c0]
      by_cases c1 : w = 1
      · simp [c1]
      by_cases c2 : w = 2
      · simp [c2]
      by_cases c3 : w = 3
      · simp [c3]
      by_cases c4 : w = 4
      · simp [c4]
      by_cases c5 : w = 5
      · simp [c5]
      by_cases c6 : w = 6
      · simp only [c6]
        rw [← e1]
        by_cases e : gc g t = 1 <;> simp [e]
      by_cases c7 : w = 7
      · simp only [c7]
        cases gwarm g t <;> simp
      simp [c0, c1, c2, c3, c4, c5, c6, c7]
    · rw [D_Model_thing, B_Model_thing_0]
      simp only [zp_64_0, zbS, m_isThing L xs 57 _ b hm hB, zbI, zne, h1, and_self, not_true_eq_false, not_false_eq_true, if_true, zr_64_5, m_of' L xs 58 _ b hm zl1 ht7 (show 1 < 7 by decide), m_of' L xs 58 _ b hm zl2 ht7 (show 2 < 7 by decide), m_of' L xs 58 _ b hm zl3 ht7 (show 3 < 7 by decide), m_of' L xs 58 _ b hm zl5 ht7 (show 5 < 7 by decide), m_loadOf L xs 56 _ b hm hB ht7, m_presses L xs 57 _ b hm hB ht7, m_bears L xs 57 _ b hm hB ht7, m_isWarm L xs 57 _ b hm hB ht7]
      by_cases c0 : w = 0
      · simp [c0]
      by_cases c1 : w = 1
      · simp [c1]
      by_cases c2 : w = 2
      · simp [c2]
      by_cases c3 : w = 3
      · simp [c3]
      by_cases c4 : w = 4
      · simp [c4]
      by_cases c5 : w = 5
      · simp [c5]
      by_cases c6 : w = 6
      · simp [c6]
      by_cases c7 : w = 7
      · simp only [c7]
        cases gwarm g t <;> simp
      simp [c0, c1, c2, c3, c4, c5, c6, c7]
  · refine zOk.pure (r := -1000001) h ?_ ?_
    · rw [D_Eggs_thing, B_Eggs_thing_0]
      simp only [zr_0_2, zbS, c_hasThing L xs 58 b hc hB, zbI, zne, h1, not_false_eq_true, not_true_eq_false, if_false]
    · rw [D_Model_thing, B_Model_thing_0]
      simp only [zp_64_0, zbS, m_isThing L xs 57 _ b hm hB, zbI, zne, h1, not_false_eq_true, not_true_eq_false, if_false]
theorem ghigh_b {g : Nat → Nat} {c : Nat} : ghigh g (3 + c) = gtop g (3 + c) (g 3) := by
  unfold ghigh
  rw [if_neg (by omega)]
theorem P_bag (h : Rel B I A) (v w : Int32) : zOk L xs B m_Eggs_bag m_Model_bag [.int v, .int w] I A b := by
  have hw := h
  obtain ⟨g, -, -, -, -, ⟨hc, hm, hB, hD, -⟩, -⟩ := hw
  have hn := hB.2.1
  by_cases h1 : 0 ≤ v.toInt ∧ v.toInt < (g 0 : Int)
  · obtain ⟨t, ht, rfl⟩ := zth h1
    have e3 : (3 : Int32) + nI t = nI (3 + t) := by rw [zl3, nI_add]
    refine zOk.pure (r := if w = 0 then nI (gweighs g t) else if w = 1 then nI (gset g (3 + t)) else if w = 2 then zopt (gtop g (3 + t) (g 3)) else if w = 3 then (if g 1 < gweighs g t then 1 else 0) else -1000001) h ?_ ?_
    · rw [D_Eggs_bag, B_Eggs_bag_0]
      simp only [zr_0_2, zbS, c_hasBag L xs 58 b hc hB, zbI, zne, h1, and_self, not_true_eq_false, not_false_eq_true, if_true, e3, c_weighs L xs 58 b hc hB (show t < 2 ^ 30 by omega), c_bitsAt L xs 58 b hc hB (show 3 + t < 2 ^ 31 by omega), c_topOf L xs 56 b hc hB hD (show 3 + t < 2 ^ 31 by omega) (show 3 + t ≠ 2 by omega), c_isTorn L xs 57 b hc hB (show t < 2 ^ 30 by omega), ghigh_b]
      by_cases c0 : w = 0
      · simp [c0]
      by_cases c1 : w = 1
      · simp [c1]
      by_cases c2 : w = 2
      · simp [c2]
      by_cases c4 : w = 3
      · by_cases c3 : g 1 < gweighs g t
        · simp [c3, c4]
        · simp [c3, c4]
      simp [c0, c1, c2, c4]
    · rw [D_Model_bag, B_Model_bag_0]
      simp only [zp_64_0, zbS, m_isBag L xs 57 _ b hm hB, zbI, zne, h1, and_self, not_true_eq_false, if_false, m_in L xs, zr_64_5, e3, m_weighs L xs 57 _ b hm hB (show t < 2 ^ 30 by omega), m_things L xs 57 _ b hm hB (show 3 + t < 2 ^ 31 by omega), m_topOf L xs 57 _ b hm hB (show 3 + t < 2 ^ 31 by omega), m_isTorn L xs 56 _ b hm hB (show t < 2 ^ 30 by omega)]
      by_cases c : 0 ≤ w ∧ w ≤ 3
      · obtain ⟨k, hk, rfl⟩ := zmm (k := 3) (by decide) c.1 c.2
        simp only [c, and_self, not_true_eq_false, not_false_eq_true, if_true]
        rcases (show k = 0 ∨ k = 1 ∨ k = 2 ∨ k = 3 by omega) with rfl | rfl | rfl | rfl
        · simp [nI_0]
        · rw [← zl1]; simp
        · rw [← zl2]; simp
        · rw [← zl3]
          by_cases c3 : g 1 < gweighs g t
          · simp [c3]
          · simp [c3]
      · have y0 : ¬ w = 0 := fun e => c (by rw [e]; decide)
        have y1 : ¬ w = 1 := fun e => c (by rw [e]; decide)
        have y2 : ¬ w = 2 := fun e => c (by rw [e]; decide)
        have y3 : ¬ w = 3 := fun e => c (by rw [e]; decide)
        simp only [c, not_true_eq_false, not_false_eq_true, if_false, y0, y1, y2, y3]
  · refine zOk.pure (r := -1000001) h ?_ ?_
    · rw [D_Eggs_bag, B_Eggs_bag_0]
      simp only [zr_0_2, zbS, c_hasBag L xs 58 b hc hB, zbI, zne, h1, not_false_eq_true, not_true_eq_false, if_false]
    · rw [D_Model_bag, B_Model_bag_0]
      simp only [zp_64_0, zbS, m_isBag L xs 57 _ b hm hB, zbI, zne, h1, not_false_eq_true, if_true]
end
