/-! least -/
section
variable {L : Nat} {xs : Nat → Int32} {B : Nat} {g : Nat → Nat} {b : Value}
theorem gO_bro (hO : gO g) : gbroken g ||| gover g = gbroken g := by
  apply Nat.eq_of_testBit_eq
  intro i
  unfold gbroken gover
  rw [Nat.testBit_or, ztb, ztb]
  by_cases hi : i < g 3
  · by_cases c : gbears g i < gload g i
    · rw [decide_eq_true hi, decide_eq_true (hO i hi c)]
      rfl
    · rw [decide_eq_false c]
      simp
  · rw [decide_eq_false hi]
    rfl
theorem c_seekLeast {I A : Nat → Nat → Int32} (hc : cR I A 15 g) (hD : gD g) (hO : gO g) (hW : Wok (lP g none) g) : ∃ I' A', pm_call L xs 59 m_Ways_seekLeast [.ref 49, .ref 15] (zL I A b) = some (none, zL I' A' b) ∧ wA (I' 49 13) (I' 49 14) (dfs (kk hM) (lP g none) g [] (8 * 4294967296, [])).1 ∧ tR A' 53 (dfs (kk hM) (lP g none) g [] (8 * 4294967296, [])).2 ∧ tR A' 51 (lP g none) ∧ I' 49 12 = nI (lP g none).length ∧ (∀ o k, o ≠ 49 → I' o k = I o k) ∧ ∀ q, (q < 50 ∨ 58 < q) → A' q = A q := by
  have hB := hW.1
  have hP := lP_good hB hD none
  have hP7 := hP.1
  have hQ : pGood (lQ g) := by rw [lP_none] at hP; exact hP
  obtain ⟨I1, A1, x1, x2, x3, x4, x5, x6⟩ := c_begin (L := L) (xs := xs) (b := b) hB hD hc 53
  obtain ⟨I2, A2, y1, y2, y3, y4, y5⟩ := c_packAllBut (L := L) (xs := xs) (b := b) hQ x3 x4 (nt := none) (fun t h => by cases h) 57
  have eP : ((lQ g).filter fun u => decide (none ≠ some u)) = lP g none := rfl
  rw [eP] at y2 y3
  obtain ⟨I3, hI3⟩ : ∃ I3, I3 = zuI I2 49 13 (8 : Int32) := ⟨_, rfl⟩
  have f3 : ∀ o k, o ≠ 49 → I3 o k = I o k := fun o k ho => by rw [hI3, zuI_o ho, y4 o k (by omega), x5 o k ho]
  have hc3 : cR I3 A2 15 g := hc.c (funext fun k => f3 15 k (by decide)) (fun q q1 q2 => by rw [y5 q (by omega), x6 q (by omega)])
  have hR3 : wR I3 A2 g := x2.c (by rw [hI3, zuI_n (by decide), y4 49 9 (by omega)]) (by rw [hI3, zuI_n (by decide), y4 49 10 (by omega)]) (fun q q1 q2 => y5 q (by omega))
  have hw3 : wA (I3 49 13) (I3 49 14) ((8 * 4294967296, ([] : List Nat)).1) := Or.inl ⟨Nat.le_refl _, by rw [hI3, zuI_s]; rfl⟩
  obtain ⟨I4, A4, z1, z2, z3, z4, z5, z6, z7⟩ := c_goOn (L := L) (xs := xs) (b := b) hM_st hM_lt gmost_mon gmost_sym hP (lP g none) g [] (8 * 4294967296, []) I3 A2 (56 - (lP g none).length) hW (by rw [List.length_nil]; omega) (fun j hj => by rw [List.length_nil, Nat.zero_add]) hR3 (by rw [hI3, zuI_n (by decide), y3]) y2 (fun j hj => absurd hj (Nat.not_lt_zero _)) hw3 (fun j hj => absurd hj (Nat.not_lt_zero _))
  rw [show 56 - (lP g none).length + (lP g none).length + 2 = 58 by omega, gO_bro hO] at z1
  refine ⟨I4, A4, ?_, z4, z5, y2.c (z7 51 (by decide) (by decide) (by decide) (by decide) (by decide)), by rw [z6 49 12 (by omega), hI3, zuI_n (by decide), y3], fun o k ho => by rw [z6 o k (by omega), f3 o k ho], fun q hq => by rw [z7 q (by omega) (by omega) (by omega) (by omega) (by omega), y5 q (by omega), x6 q hq]⟩
  rw [show pm_call L xs 59 m_Ways_seekLeast [.ref 49, .ref 15] (zL I A b) = zE L xs 58 K_Ways_seekLeast 0 [some (.ref 49), some (.ref 15)] [] (zL I A b) from D_Ways_seekLeast L xs 58 I A b 15, B_Ways_seekLeast_0, x1, zbV]
  have y1' : pm_call L xs 58 m_Ways_packAllBut [.ref 49, .int (-1000000 : Int32)] (zL I1 A1 b) = some (none, zL I2 A2 b) := y1
  rw [y1', zbV, zp_49_13, zbS, ← hI3, hc3.crushed, zbS, c_heaviest L xs 56 b hc3 hB, zbI]
  dsimp only
  have z1' : pm_call L xs 58 m_Ways_goOn [.ref 49, .int (0 : Int32), .int (nI (gbroken g)), .int (nI (gmost g (g 0)))] (zL I3 A2 b) = some (none, zL I4 A4 b) := z1
  rw [z1', zbV]
/-- the BAG for a THING -/
def lb (P ds : List Nat) (k : Nat) : Int32 := match zFind (fun j => decide (P.getD j 0 = k)) P.length 0 with
  | some j => nI (ds.getD j 0)
  | none => -1000000
theorem c_bagFor {I A : Nat → Nat → Int32} {P ds : List Nat} (hP : pGood P) (h51 : tR A 51 P) (h53 : tR A 53 ds) (hl : ds.length = P.length) (h12 : I 49 12 = nI P.length) {k : Nat} (hk : k < 7) (d : Nat) : pm_call L xs (d + 1) m_Ways_bagFor [.ref 49, .int (nI k)] (zL I A b) = some (some (.int (lb P ds k)), zL I A b) := by
  have hP7 := hP.1
  rw [D_Ways_bagFor, B_Ways_bagFor_0]
  refine (zfind (fun j => zE L xs d K_Ways_bagFor 2 [some (.ref 49), some (.int (nI k)), some (.int j)] [] (zL I A b)) (fun j => decide (P.getD j 0 = k)) P.length (fun j => some (some (.int (nI (ds.getD j 0))), zL I A b)) (some (some (.int (-1000000 : Int32)), zL I A b)) (fun j hj hf => ?_) (fun j hj hf => ?_) ?_).trans ?_
  · have hx := hP.at hj
    have hne : ¬ P.getD j 0 = k := of_decide_eq_false hf
    rw [B_Ways_bagFor_2, zg_49_12, zbS, h12, if_neg (nI_ge hj (by omega)), zr_49_1, zbS, z_rd za_51 (by omega), zbS, h51 j hj, if_pos (fun q => hne ((nI_eq (by omega) (by omega)).mp q))]
  · have he : P.getD j 0 = k := of_decide_eq_true hf
    rw [B_Ways_bagFor_2, zg_49_12, zbS, h12, if_neg (nI_ge hj (by omega)), zr_49_1, zbS, z_rd za_51 (by omega), zbS, h51 j hj, if_neg (fun q => q (by rw [he])), zr_49_3, zbS, z_rd za_53 (by omega), zbS, h53 j (by omega)]
  · rw [B_Ways_bagFor_2, zg_49_12, zbS, h12, if_pos (nI_le (Nat.le_refl _) (by omega))]
  · unfold lb
    cases zFind (fun j => decide (P.getD j 0 = k)) P.length 0 <;> rfl
theorem m_bagFor {I A : Nat → Nat → Int32} {P : List Nat} (hm : mR A 68 g) (hB : gB g) (h0 : 0 < g 0) (hP : pGood P) (h73 : tR A 73 P) (h20 : I 64 20 = nI P.length) {v : Nat} (hv : v < 2 ^ 20) (h21 : I 64 21 = nI v) {k : Nat} (hk : k < 7) (d : Nat) : zE L xs (d + 1) K_Model_least 67 [some (.ref 64), some (.int (nI k)), some (.int (0 : Int32))] [] (zL I A b) = some (some (.int (lb P (wdg (g 0) P.length v) k)), zL I A b) := by
  have hP7 := hP.1
  refine (zfind (fun j => zE L xs (d + 1) K_Model_least 67 [some (.ref 64), some (.int (nI k)), some (.int j)] [] (zL I A b)) (fun j => decide (P.getD j 0 = k)) P.length (fun j => some (some (.int (nI ((wdg (g 0) P.length v).getD j 0))), zL I A b)) (some (some (.int (-1000000 : Int32)), zL I A b)) (fun j hj hf => ?_) (fun j hj hf => ?_) ?_).trans ?_
  · have hx := hP.at hj
    have hne : ¬ P.getD j 0 = k := of_decide_eq_false hf
    rw [B_Model_least_67, zg_64_20, zbS, h20, if_neg (nI_ge hj (by omega)), zr_64_19, zbS, z_rd za_73 (by omega), zbS, h73 j hj, if_pos (fun q => hne ((nI_eq (by omega) (by omega)).mp q))]
  · have he : P.getD j 0 = k := of_decide_eq_true hf
    rw [B_Model_least_67, zg_64_20, zbS, h20, if_neg (nI_ge hj (by omega)), zr_64_19, zbS, z_rd za_73 (by omega), zbS, h73 j hj, if_neg (fun q => q (by rw [he])), zg_64_21, zbS, h21, m_bagBy hm hB h0 hP7 hj (by omega) h20 d, zbI]
  · rw [B_Model_least_67, zg_64_20, zbS, h20, if_pos (nI_le (Nat.le_refl _) (by omega))]
  · unfold lb
    cases zFind (fun j => decide (P.getD j 0 = k)) P.length 0 <;> rfl
theorem wA_fix {F T : Int32} {c h : Nat} (hA : wA F T (c * 4294967296 + h)) (hc : c ≤ 7) (hh : h < 2 ^ 31) : F = nI c ∧ T = nI h := by
  rcases hA with ⟨h1, -⟩ | ⟨c', h', c1, h1, e, f1, f2⟩
  · omega
  · have e1 : c = c' := by omega
    have e2 : h = h' := by omega
    rw [f1, f2, e1, e2]
    exact ⟨rfl, rfl⟩
theorem P_least {I A : Nat → Nat → Int32} (h : Rel B I A) (hB2 : B + 7 < 2 ^ 20) (w : Int32) : zOk L xs B m_Eggs_least m_Model_least [.int w] I A b := by
  have hw := h
  obtain ⟨g, -, -, -, -, hS, -, -⟩ := hw
  obtain ⟨hc, hm, hI⟩ := hS
  have hB := hI.1
  have hD := hI.2.1
  have hO := hI.2.2.2.1
  have h7 := hB.1
  have eN : (nI (g 3) - 1).toInt = (g 3 : Int) - 1 := by
    have := pk_sub_toInt (a := g 3) (b := 1) (by omega) (by decide)
    exact this
  have e3 := nI_toInt (show g 3 < 2 ^ 31 by omega)
  have m2 : (-2 : Int32).toInt = -2 := rfl
  by_cases h0 : 0 < g 0
  · by_cases c1 : w < (-2 : Int32)
    · have hno : ¬ ((-2 : Int32) ≤ w ∧ w ≤ nI (g 3) - 1) := fun q => by rw [fa_lt] at c1; rw [fa_le] at q; omega
      refine zOk.pure (r := -1000001) h ?_ ?_
      · rw [D_Eggs_least, B_Eggs_least_0, zr_0_2, zbS, c_stands L xs 58 b hc hB, zbI]
        dsimp only
        rw [if_pos h0, if_pos (by decide), if_pos c1]
      · rw [D_Model_least, B_Model_least_0, zp_64_0, zbS, m_isThere L xs 58 _ b hm hB, zbI]
        dsimp only
        rw [if_pos h0, if_pos (by decide), zr_64_5, zbS, m_rd' _ b hm zl3 (show 3 < 55 by decide), zbS, m_in L xs 58, zbI]
        dsimp only
        rw [if_neg hno, if_neg (fun q => q rfl)]
    · by_cases c2 : w < nI (g 3)
      · have hyes : ((-2 : Int32) ≤ w ∧ w ≤ nI (g 3) - 1) := by rw [fa_lt] at c1 c2; rw [fa_le, fa_le]; omega
        have hW := Wok_of hI h0 hB2 none
        obtain ⟨I1, A1, x1, x2, x3, x4, x5, x6, x7⟩ := c_seekLeast (L := L) (xs := xs) (b := b) hc hD hO hW
        have hm1 : mR A1 68 g := hm.c (x7 68 (by omega))
        obtain ⟨I2, A2, y1, ⟨v, c, e, v1, k1, e1, y2, y3, y4, y5⟩, y6, y7, y8, y9⟩ := m_seekLeast (L := L) (xs := xs) (I := zuI I1 64 0 0) (A := A1) (b := b) hm1 hD (nt := none) (fun u q => by cases q) hW 53
        rw [y2] at x2 x3
        obtain ⟨f1, f2⟩ := wA_fix x2 k1 e1
        have hs1 : zSame I A I1 A1 := ⟨fun o k hk => x6 o k (fun q => by rw [q] at hk; simp [zKI] at hk), fun q hq => x7 q (by simp [zKA] at hq; omega), by rw [x7 60 (by omega)], by rw [x7 61 (by omega)]⟩
        have hs2 : zSame I1 A1 I2 A2 := by
          refine ⟨fun o k hk => ?_, fun q hq => y9 q (fun q2 => by rw [q2] at hq; simp [zKA] at hq) (fun q2 => by rw [q2] at hq; simp [zKA] at hq), by rw [y9 60 (by decide) (by decide)], by rw [y9 61 (by decide) (by decide)]⟩
          rw [y8 o k (fun q => by obtain ⟨q1, q2, q3⟩ := q; rw [q1] at hk; simp [zKI] at hk; omega), zuI_at, if_neg (zKI_0 hk)]
        have hm2 : mR A2 68 g := hm1.c (y9 68 (by decide) (by decide))
        have cls : ∀ F, F = (if ¬ w = (-1 : Int32) then (if ¬ w = (-2 : Int32) then (pm_gR (zL I1 A1 b) 0 7 6).bind fun x8 => (pm_cI (pm_call L xs 59 m_Ways_bagFor [.ref x8, .int w] (zL I1 A1 b))).bind fun z9 => some (some (.int z9.1), z9.2) else (pm_gR (zL I1 A1 b) 0 7 6).bind fun x10 => (pm_gI (zL I1 A1 b) x10 6 14).bind fun x11 => some (some (.int x11), zL I1 A1 b)) else (pm_gR (zL I1 A1 b) 0 7 6).bind fun x12 => (pm_gI (zL I1 A1 b) x12 6 13).bind fun x13 => some (some (.int x13), zL I1 A1 b)) → pm_call L xs 60 m_Eggs_least [.ref 0, .int w] (zL I A b) = F := by
          intro F hF
          rw [hF, D_Eggs_least, B_Eggs_least_0, zr_0_2, zbS, c_stands L xs 58 b hc hB, zbI]
          dsimp only
          rw [if_pos h0, if_pos (by decide), if_neg c1, zr_0_2, zbS, hc.n, zbS, if_pos c2, zr_0_6, zbS, zbS, x1, zbV]
        have y1' : pm_call L xs 59 m_Model_seekLeast [.ref 64, .int (-1000000 : Int32)] (zL (zuI I1 64 0 0) A1 b) = some (none, zL I2 A2 b) := y1
        have mdl : ∀ F, F = (if 0 ≤ w then zE L xs 59 K_Model_least 67 [some (.ref 64), some (.int w), some (.int (0 : Int32))] [] (zL I2 A2 b) else (if ¬ w = (-1 : Int32) then (pm_gI (zL I2 A2 b) 64 8 23).bind fun x7 => some (some (.int x7), zL I2 A2 b) else (pm_gI (zL I2 A2 b) 64 8 22).bind fun x8 => some (some (.int x8), zL I2 A2 b))) → pm_call L xs 60 m_Model_least [.ref 64, .int w] (zL I1 A1 b) = F := by
          intro F hF
          rw [hF, D_Model_least, B_Model_least_0, zp_64_0, zbS, m_isThere L xs 58 _ b hm1 hB, zbI]
          dsimp only
          rw [if_pos h0, if_pos (by decide), zr_64_5, zbS, m_rd' _ b hm1 zl3 (show 3 < 55 by decide), zbS, m_in L xs 58, zbI]
          dsimp only
          rw [if_pos hyes, if_pos (by decide), y1', zbV]
        by_cases q0 : 0 ≤ w
        · obtain ⟨k, hk, rfl⟩ := nI_of (fun q => by rw [fa_lt] at q; rw [fa_le] at q0; omega : ¬ w < 0)
          have hk3 : k < g 3 := (nI_ltI hk (by omega)).mp c2
          have hP := lP_good hB hD none
          refine zOk.scr (b1 := b) (r := lb (lP g none) (wdg (g 0) (lP g none).length v) k) h ?_ hs1 ?_ hs2
          · refine cls _ ?_
            rw [if_pos (show ¬ nI k = (-1 : Int32) from fun q => by rw [zn2 hk] at q; exact q), if_pos (show ¬ nI k = (-2 : Int32) from fun q => by rw [fa_eq, nI_toInt hk, m2] at q; omega), zr_0_6, zbS, c_bagFor hP x4 x3 (wdg_len _ _) x5 (by omega) 58, zbI]
          · refine mdl _ ?_
            rw [if_pos q0, m_bagFor hm2 hB h0 hP y6 y7 v1 y3 (by omega) 58]
        · by_cases q1 : w = -1
          · subst q1
            refine zOk.scr (b1 := b) (r := nI c) h ?_ hs1 ?_ hs2
            · refine cls _ ?_
              rw [if_neg (fun q => q rfl), zr_0_6, zbS, zg_49_13, zbS, f1]
            · refine mdl _ ?_
              rw [if_neg q0, if_neg (fun q => q rfl), zg_64_22, zbS, y4]
          · have q2 : w = -2 := by
              have m1 : (-1 : Int32).toInt = -1 := rfl
              have m0 : (0 : Int32).toInt = 0 := rfl
              rw [fa_lt, m2] at c1
              rw [fa_le, m0] at q0
              rw [fa_eq, m1] at q1
              rw [fa_eq, m2]
              omega
            subst q2
            refine zOk.scr (b1 := b) (r := nI e) h ?_ hs1 ?_ hs2
            · refine cls _ ?_
              rw [if_pos (by decide), if_neg (fun q => q rfl), zr_0_6, zbS, zg_49_14, zbS, f2]
            · refine mdl _ ?_
              rw [if_neg q0, if_pos (by decide), zg_64_23, zbS, y5]
      · have hno : ¬ ((-2 : Int32) ≤ w ∧ w ≤ nI (g 3) - 1) := fun q => by rw [fa_lt] at c2; rw [fa_le, fa_le] at q; omega
        refine zOk.pure (r := -1000001) h ?_ ?_
        · rw [D_Eggs_least, B_Eggs_least_0, zr_0_2, zbS, c_stands L xs 58 b hc hB, zbI]
          dsimp only
          rw [if_pos h0, if_pos (by decide), if_neg c1, zr_0_2, zbS, hc.n, zbS, if_neg c2]
        · rw [D_Model_least, B_Model_least_0, zp_64_0, zbS, m_isThere L xs 58 _ b hm hB, zbI]
          dsimp only
          rw [if_pos h0, if_pos (by decide), zr_64_5, zbS, m_rd' _ b hm zl3 (show 3 < 55 by decide), zbS, m_in L xs 58, zbI]
          dsimp only
          rw [if_neg hno, if_neg (fun q => q rfl)]
  · refine zOk.pure (r := -1000002) h ?_ ?_
    · rw [D_Eggs_least, B_Eggs_least_0, zr_0_2, zbS, c_stands L xs 58 b hc hB, zbI]
      dsimp only
      rw [if_neg h0, if_neg (fun q => q rfl)]
    · rw [D_Model_least, B_Model_least_0, zp_64_0, zbS, m_isThere L xs 58 _ b hm hB, zbI]
      dsimp only
      rw [if_neg h0, if_neg (fun q => q rfl)]
end
