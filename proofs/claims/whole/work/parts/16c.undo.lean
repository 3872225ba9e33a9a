/-! undo -/
section
variable {L : Nat} {xs : Nat → Int32} {B n o : Nat} {g g' : Nat → Nat} {hs : Nat → Nat → Nat} {I A : Nat → Nat → Int32} {b : Value}
theorem gu4_p {v : Nat} (u : Nat) : gp (gu g 4 v) u = gp g u := gu_n (by omega)
theorem gu4_o {v : Nat} (u : Nat) : go (gu g 4 v) u = go g u := gu_n (by omega)
theorem gu4_count {v : Nat} (p : Nat) : gcount (gu g 4 v) p = gcount g p := by
  unfold gcount
  rw [gu_n (show 3 ≠ 4 by decide)]
  exact zC_congr _ (fun u _ => by rw [gu4_p])
theorem gu4_B (hB : gB g) {v : Nat} (hv : v < 2 ^ 20) : gB (gu g 4 v) := by
  refine ⟨by rw [gu_n (by decide)]; exact hB.1, by rw [gu_n (by decide)]; exact hB.2.1, fun j => ?_, fun u hu => by rw [show gs (gu g 4 v) u = gs g u from gu_n (by omega)]; exact hB.2.2.2 u hu⟩
  unfold gu
  split
  · exact hv
  · exact hB.2.2.1 j
theorem cR.set4 {o : Nat} (hc : cR I A o g) (v : Nat) : cR (zuI I o 4 (nI v)) A o (gu g 4 v) := by
  obtain ⟨g0, g1, g2, g3, g4, g5⟩ := hc.2.1
  have ew : ∀ j, j ≠ 4 → gu g 4 v j = g j := fun j hj => gu_n hj
  refine ⟨hc.1, ?_, fun u hu => ?_⟩
  · have eb : gbroken (gu g 4 v) = gbroken g := by
      unfold gbroken
      rw [ew 3 (by decide)]
      apply zB_congr
      intro u _
      rw [show gc (gu g 4 v) u = gc g u from ew _ (by omega)]
    rw [ew 0 (by decide), ew 1 (by decide), ew 2 (by decide), ew 3 (by decide), gu_s, eb]
    exact ⟨by rw [zuI_n (by decide)]; exact g0, by rw [zuI_n (by decide)]; exact g1, by rw [zuI_n (by decide)]; exact g2, by rw [zuI_n (by decide)]; exact g3, zuI_s, by rw [zuI_n (by decide)]; exact g5⟩
  · rw [ew 3 (by decide)] at hu
    have eh : gh (gu g 4 v) u = gh g u := by
      unfold gh
      rw [ew 3 (by decide)]
      simp only [gu4_p, gu4_o]
    rw [eh, show gk (gu g 4 v) u = gk g u from ew _ (by omega), show gw (gu g 4 v) u = gw g u from ew _ (by omega), show gs (gu g 4 v) u = gs g u from ew _ (by omega), gu4_p, show gi (gu g 4 v) u = gi g u from ew _ (by omega)]
    exact hc.2.2 u hu
theorem c_putR {o : Nat} (hc : cR I A o g) (hB : gB g) {t p : Nat} (ht : t < 7) (hp : p < 2 ^ 31) (d : Nat) : pm_call L xs (d + 3) m_Shop_put [.ref o, .int (nI t), .int (nI p)] (zL I A b) = some (none, zL I (zuA (zuA A (o + 5) t (nI (gcount g p))) (o + 4) t (nI p)) b) := by
  rw [D_Shop_put (ho := hc.1), B_Shop_put_0]
  simp only [zSr5 hc.1, zbS, c_countAt L xs d b hc hB hp, zbI, z_wr (zSa5 hc.1) ht, zSr4 hc.1, z_wr (zSa4 hc.1) ht]
theorem c_takeBack {m : Nat} (hg : gI B (hs m)) (hI : gI B (hs (m + 1))) (hc : cR I A 15 (hs (m + 1))) (hH : zHc (m + 1) o hs I A) (d : Nat) : ∃ I' A', pm_call L xs (d + 4) m_Acts_takeBack [.ref 44, .ref 15] (zL I A b) = some (some (.int (nI m)), zL I' A' b) ∧ cR I' A' 15 (hs m) ∧ zHc m o hs I' A' ∧ (∀ q, q ≠ 19 → q ≠ 20 → A' q = A q) ∧ ∀ o', o' ≠ 15 → o' ≠ 44 → I' o' = I o' := by
  obtain ⟨hm, ho, k4, k5, hb⟩ := hH
  obtain ⟨a, hadef⟩ : ∃ a, a = (o + m) % 24 := ⟨_, rfl⟩
  have ha : a < 24 := by omega
  obtain ⟨bc, ⟨b0, b1, b2, b3⟩, bk, bx⟩ := hb m (by omega)
  rw [← hadef] at bc bx
  have hB := hI.1
  have h7 := hB.1
  have hc15 := hc.1
  obtain ⟨g0, g1, g2, g3, g4, g5⟩ := hc.2.1
  have hcR := hc.2.2
  rw [b3] at hcR h7
  have e1 : (1 : Int32) ≤ nI (m + 1) := by rw [zl1]; exact nI_le (by omega) (by omega)
  obtain ⟨I1, hI1⟩ : ∃ I1, I1 = zuI I 44 5 (nI m) := ⟨_, rfl⟩
  have i4 : I1 44 4 = nI o := by rw [hI1, zuI_n (by decide)]; exact k4
  have i5 : I1 44 5 = nI m := by rw [hI1, zuI_s]
  have io : ∀ o', o' ≠ 44 → I1 o' = I o' := fun o' ho' => by rw [hI1]; funext k; exact zuI_o ho'
  have hix : (nI o + nI m) - (nI o + nI m) / (24 : Int32) * (24 : Int32) = nI a := by rw [hadef]; exact zmod24 ho (by omega)
  have hc1 : cR I1 A 15 (hs (m + 1)) := hc.c (io 15 (by decide)) (fun _ _ _ => rfl)
  have fin : ∀ I' A' : Nat → Nat → Int32, I' 44 = I1 44 → (∀ q, q ≠ 19 → q ≠ 20 → A' q = A q) → zHc m o hs I' A' := by
    intro I' A' h1 h2
    refine ⟨by omega, ho, by rw [h1]; exact i4, by rw [h1]; exact i5, fun k hk => ?_⟩
    rw [h2 45 (by decide) (by decide), h2 46 (by decide) (by decide), h2 47 (by decide) (by decide), h2 48 (by decide) (by decide)]
    exact hb k (by omega)
  rw [D_Acts_takeBack, B_Acts_takeBack_0]
  rw [zg_44_5, k5, zbS, if_pos e1, zbS, nI_pred, zp_44_5, zbS, ← hI1, zg_44_4, zbS, zg_44_5, zbS, i4, i5, hix, zr_44_0, zbS, z_rd za_45 ha, zbS]
  rcases bx with ⟨s2, m2, f4, hsw⟩ | ⟨s1, m1, f4, hsm⟩ | ⟨t, mt, ft, hmv, hs12⟩
  · obtain ⟨x, y, hx, hy, hxy, px, py, hall, hhx, hhy, hhy', hhx', hoth⟩ := hsw
    have hcnt : gcount (hs (m + 1)) 0 = gcount (hs m) 0 := by
      unfold gcount
      rw [b3]
      exact zC_congr _ (fun u hu => by rw [(hall u hu).1])
    have hcall := c_swapFirstTwo (L := L) (xs := xs) (b := b) (a := y) (c := x) hc1 hB hI.2.1 (by omega) (by rw [b3]; exact hy) (by rw [b3]; exact hx) (by rw [← (hall y hy).1]; exact py) (by rw [← (hall x hx).1]; exact px) (by omega) (by omega) d
    obtain ⟨A2, hA2⟩ : ∃ A2, A2 = zuA (zuA A (15 + 5) y (nI (gh (hs (m + 1)) x))) (15 + 5) x (nI (gh (hs (m + 1)) y)) := ⟨_, rfl⟩
    rw [← hA2] at hcall
    have fA : ∀ q, q ≠ 20 → A2 q = A q := fun q hq => by rw [hA2, zuA_o (by omega), zuA_o (by omega)]
    refine ⟨zuI I1 15 5 (A 48 a), A2, ?_, ⟨hc15, ?_, fun t ht => ?_⟩, fin _ _ (by funext k; exact zuI_o (by decide)) (fun q _ q2 => fA q q2), fun q _ q2 => fA q q2, fun o' o1 o2 => by rw [← io o' o2]; funext k; exact zuI_o o1⟩
    · rw [s2, if_neg (fun q => q rfl), hcall, zbV, zr_44_0, zbS, z_rd za_45 ha, zbS, fA 45 (by decide), s2, if_pos (by decide), zr_44_1, zbS, z_rd za_46 ha, zbS, fA 46 (by decide), m2, if_pos rfl, zr_44_3, zbS, z_rd za_48 ha, zbS, fA 48 (by decide), zSp5 hc15, zbS, zg_44_5, zbS, zuI_o (by decide), i5]
    · rw [zuI_n (by decide), zuI_n (by decide), zuI_n (by decide), zuI_n (by decide), zuI_n (by decide), zuI_s, io 15 (by decide)]
      exact ⟨by rw [g0, b0], by rw [g1, b1], by rw [g2, b2], by rw [g3, b3], by rw [g4, f4], bc⟩
    · obtain ⟨r1, r2, r3, r4, r5, r6⟩ := hcR t ht
      rw [fA (15 + 1) (by decide), fA (15 + 2) (by decide), fA (15 + 3) (by decide), fA (15 + 4) (by decide), fA (15 + 6) (by decide), (bk t ht).1, (bk t ht).2.1, (bk t ht).2.2, (hall t ht).1, (hall t ht).2]
      refine ⟨r1, r2, r3, r4, fun hp => ?_, r6⟩
      rw [hA2, zuA_s, zuA_s]
      by_cases q1 : t = x
      · subst q1; rw [pk_us]; congr 1; omega
      · rw [pk_un q1]
        by_cases q2 : t = y
        · subst q2; rw [pk_us]; congr 1; omega
        · rw [pk_un q2, r5 hp, hoth t ht q1 q2 (by rw [(hall t ht).1]; exact hp)]
  · have g4' : pm_gI (zL I1 A b) 15 4 4 = some (nI (hs m 4 + 1)) := by rw [zSg4 hc15, io 15 (by decide), g4, f4]
    refine ⟨zuI (zuI I1 15 4 (nI (hs m 4))) 15 5 (A 48 a), A, ?_, ⟨hc15, ?_, fun t ht => ?_⟩, fin _ _ (by funext k; rw [zuI_o (by decide), zuI_o (by decide)]) (fun q _ q2 => rfl), fun q _ q2 => rfl, fun o' o1 o2 => by rw [← io o' o2]; funext k; rw [zuI_o o1, zuI_o o1]⟩
    · rw [s1, if_pos (by decide), zbS, z_rd za_45 ha, zbS, s1, if_neg (fun q => q rfl), g4', zbS, nI_pred, zSp4 hc15, zbS, zr_44_1, zbS, z_rd za_46 ha, zbS, m1, if_pos rfl, zr_44_3, zbS, z_rd za_48 ha, zbS, zSp5 hc15, zbS, zg_44_5, zbS, zuI_o (by decide), zuI_o (by decide), i5]
    · rw [zuI_n (by decide), zuI_n (by decide), zuI_n (by decide), zuI_n (by decide), zuI_n (by decide), zuI_n (by decide), zuI_n (by decide), zuI_n (by decide), zuI_n (by decide), zuI_s, zuI_s, io 15 (by decide)]
      exact ⟨by rw [g0, b0], by rw [g1, b1], by rw [g2, b2], by rw [g3, b3], rfl, bc⟩
    · obtain ⟨r1, r2, r3, r4, r5, r6⟩ := hcR t ht
      obtain ⟨q1, q2, q3⟩ := hsm t ht
      rw [(bk t ht).1, (bk t ht).2.1, (bk t ht).2.2, q1]
      refine ⟨r1, r2, r3, r4, fun hp => ?_, fun hp => ?_⟩
      · rw [r5 hp, q2 (by rw [q1]; exact hp)]
      · rw [r6 hp, q3 (by rw [q1]; exact hp)]
  · obtain ⟨tl, tne, toth, th, ti⟩ := hmv
    have ht7 : t < 7 := by omega
    have hp31 : gp (hs m) t < 2 ^ 31 := gbl hg.1 _
    obtain ⟨A2, hA2⟩ : ∃ A2, A2 = zuA (zuA A (15 + 5) t (nI (gcount (hs (m + 1)) (gp (hs m) t)))) (15 + 4) t (nI (gp (hs m) t)) := ⟨_, rfl⟩
    have fA : ∀ q, q ≠ 19 → q ≠ 20 → A2 q = A q := fun q h1 h2 => by rw [hA2, zuA_o (by omega), zuA_o (by omega)]
    have arr : ∀ u, u < hs m 3 → A2 (15 + 1) u = nI (gk (hs m) u) ∧ A2 (15 + 2) u = nI (gw (hs m) u) ∧ A2 (15 + 3) u = nI (gs (hs m) u) ∧ A2 (15 + 4) u = nI (gp (hs m) u) ∧ (gp (hs m) u ≠ 2 → A2 (15 + 5) u = nI (gh (hs m) u)) ∧ (gp (hs m) u ≠ 0 → A2 (15 + 6) u = nI (gi (hs m) u + 1)) := by
      intro u hu
      obtain ⟨r1, r2, r3, r4, r5, r6⟩ := hcR u hu
      rw [fA (15 + 1) (by decide) (by decide), fA (15 + 2) (by decide) (by decide), fA (15 + 3) (by decide) (by decide), fA (15 + 6) (by decide) (by decide), (bk u hu).1, (bk u hu).2.1, (bk u hu).2.2]
      refine ⟨r1, r2, r3, ?_, fun hp => ?_, fun hp => ?_⟩
      · rw [hA2, zuA_s, zuA_o (by decide)]
        by_cases q1 : u = t
        · subst q1; rw [pk_us]
        · rw [pk_un q1, r4, (toth u hu q1).1]
      · rw [hA2, zuA_o (by decide), zuA_s]
        by_cases q1 : u = t
        · subst q1; rw [pk_us, th hp]
        · obtain ⟨w1, w2, w3⟩ := toth u hu q1
          rw [pk_un q1, r5 (by rw [← w1]; exact hp), w2 hp]
      · by_cases q1 : u = t
        · subst q1
          obtain ⟨w1, w2⟩ := ti hp
          rw [r6 w2, w1]
        · obtain ⟨w1, w2, w3⟩ := toth u hu q1
          rw [r6 (by rw [← w1]; exact hp), w3 hp]
    rcases hs12 with ⟨s1, f4⟩ | ⟨s0, f4⟩
    · have g4' : pm_gI (zL I1 A b) 15 4 4 = some (nI (hs m 4 + 1)) := by rw [zSg4 hc15, io 15 (by decide), g4, f4]
      have hv : hs m 4 < 2 ^ 20 := hg.1.2.2.1 4
      have hcall := c_putR (L := L) (xs := xs) (b := b) (hc1.set4 (hs m 4)) (gu4_B hB hv) ht7 hp31 d
      rw [gu4_count, ← hA2] at hcall
      refine ⟨zuI (zuI I1 15 4 (nI (hs m 4))) 15 5 (A 48 a), A2, ?_, ⟨hc15, ?_, arr⟩, fin _ _ (by funext k; rw [zuI_o (by decide), zuI_o (by decide)]) fA, fA, fun o' o1 o2 => by rw [← io o' o2]; funext k; rw [zuI_o o1, zuI_o o1]⟩
      · rw [s1, if_pos (by decide), zbS, z_rd za_45 ha, zbS, s1, if_neg (fun q => q rfl), g4', zbS, nI_pred, zSp4 hc15, zbS, zr_44_1, zbS, z_rd za_46 ha, zbS, mt, if_neg (zNn (by omega)), zbS, z_rd za_46 ha, zbS, mt, zr_44_2, zbS, z_rd za_47 ha, zbS, ft, hcall, zbV, zr_44_3, zbS, z_rd za_48 ha, zbS, fA 48 (by decide) (by decide), zSp5 hc15, zbS, zg_44_5, zbS, zuI_o (by decide), zuI_o (by decide), i5]
      · rw [zuI_n (by decide), zuI_n (by decide), zuI_n (by decide), zuI_n (by decide), zuI_n (by decide), zuI_n (by decide), zuI_n (by decide), zuI_n (by decide), zuI_n (by decide), zuI_s, zuI_s, io 15 (by decide)]
        exact ⟨by rw [g0, b0], by rw [g1, b1], by rw [g2, b2], by rw [g3, b3], rfl, bc⟩
    · have hcall := c_putR (L := L) (xs := xs) (b := b) hc1 hB ht7 hp31 d
      rw [← hA2] at hcall
      refine ⟨zuI I1 15 5 (A 48 a), A2, ?_, ⟨hc15, ?_, arr⟩, fin _ _ (by funext k; exact zuI_o (by decide)) fA, fA, fun o' o1 o2 => by rw [← io o' o2]; funext k; exact zuI_o o1⟩
      · rw [s0, if_pos (by decide), zbS, z_rd za_45 ha, zbS, s0, if_pos (by decide), zr_44_1, zbS, z_rd za_46 ha, zbS, mt, if_neg (zNn (by omega)), zbS, z_rd za_46 ha, zbS, mt, zr_44_2, zbS, z_rd za_47 ha, zbS, ft, hcall, zbV, zr_44_3, zbS, z_rd za_48 ha, zbS, fA 48 (by decide) (by decide), zSp5 hc15, zbS, zg_44_5, zbS, zuI_o (by decide), i5]
      · rw [zuI_n (by decide), zuI_n (by decide), zuI_n (by decide), zuI_n (by decide), zuI_n (by decide), zuI_s, io 15 (by decide)]
        exact ⟨by rw [g0, b0], by rw [g1, b1], by rw [g2, b2], by rw [g3, b3], by rw [g4, f4], bc⟩
theorem m_undoC {m : Nat} (hm : m < 24) (h9 : I 64 9 = nI m) : zE L xs 59 K_Model_undo 27 [some (.ref 64), some (.int (0 : Int32))] [] (zL I A b) = some (some (.int (nI m)), zL I (zcp A 68 0 55 (fun k => A 71 (55 * m + k))) b) := by
  rw [zfill (fun i A => zE L xs 59 K_Model_undo 27 [some (.ref 64), some (.int i)] [] (zL I A b)) A 68 0 55 (fun k => A 71 (55 * m + k)) (fun k hk => ?_)]
  · rw [B_Model_undo_27, if_pos (by decide), zg_64_9, zbS, h9]
  · rw [B_Model_undo_27, if_neg (by rw [zl55]; exact nI_ge hk (by decide))]
    simp only [zr_64_5, zr_64_8, zg_64_9, zbS, h9, zl55, pk_mul, nI_add]
    rw [z_rd za_71 (show 55 * m + k < 1320 by omega), zbS, zcp_o (by decide), z_wr za_68 (by omega), zbS, Nat.zero_add]
theorem P_undo (h : Rel B I A) : zOk L xs B m_Eggs_undo m_Model_undo [] I A b := by
  have hw := h
  obtain ⟨g, -, -, -, -, hS, -, hH⟩ := hw
  obtain ⟨n, o, hs, hc', hm', hG, rfl⟩ := hH.un
  have hS' := hS
  obtain ⟨hc, hm, hI⟩ := hS'
  have hn := hc'.1
  cases n with
  | zero =>
    have k5 : I 44 5 = 0 := hc'.2.2.2.1
    have k9 : I 64 9 = 0 := hm'.2.1
    refine zOk.pure (r := -1000002) h ?_ ?_
    · rw [D_Eggs_undo, B_Eggs_undo_0]
      rw [zr_0_5, zbS, zr_0_2, zbS, D_Acts_takeBack, B_Acts_takeBack_0, zg_44_5, k5, zbS, if_neg (by decide), zbI]
    · rw [D_Model_undo, B_Model_undo_0]
      rw [zp_64_0, zbS, zg_64_9, zbS, zuI_n (show 9 ≠ 0 by decide), k9, if_neg (fun q => q rfl)]
  | succ m =>
    obtain ⟨hg, hg0⟩ := hG m (by omega)
    obtain ⟨I1, A1, x1, x2, x3, x4, x5⟩ := c_takeBack (L := L) (xs := xs) (b := b) hg hI hc hc' 55
    have k9 : I1 64 9 = nI (m + 1) := by rw [x5 64 (by decide) (by decide)]; exact hm'.2.1
    have hw2 : ∀ k, k < m + 1 → ∀ j, j < 55 → A1 71 (55 * k + j) = nI (hs k j) := fun k hk j hj => by rw [x4 71 (by decide) (by decide)]; exact hm'.2.2 k hk j hj
    obtain ⟨I2, hI2⟩ : ∃ I2, I2 = zuI (zuI I1 64 0 0) 64 9 (nI m) := ⟨_, rfl⟩
    have q9 : I2 64 9 = nI m := by rw [hI2, zuI_s]
    have qo : ∀ o' k', ¬ (o' = 64 ∧ k' = 9) → ¬ (o' = 64 ∧ k' = 0) → I2 o' k' = I1 o' k' := fun o' k' a1 a2 => by rw [hI2]; simp only [zuI_at, if_neg a1, if_neg a2]
    obtain ⟨A2, hA2⟩ : ∃ A2, A2 = zcp A1 68 0 55 (fun k => A1 71 (55 * m + k)) := ⟨_, rfl⟩
    have fA : ∀ q, q ≠ 68 → A2 q = A1 q := fun q hq => by rw [hA2, zcp_o hq]
    refine ⟨nI m, I1, A1, I2, A2, b, ?_, ?_, h.acted (g' := hs m) (Nat.le_refl _) (fun o' k hk a1 a2 a3 => by rw [qo o' k a3 (zKI_0 hk), x5 o' a1 a2]) (fun q hq a1 a2 a3 a4 => by rw [fA q a3, x4 q (by omega) (by omega)]) (by rw [fA 60 (by decide), x4 60 (by decide) (by decide)]) (by rw [fA 61 (by decide), x4 61 (by decide) (by decide)]) ⟨x2.c (funext fun k => qo 15 k (by omega) (by omega)) (fun q _ _ => fA q (by omega)), ⟨hm.1, fun j hj => ?_⟩, hg⟩ (zHs.up (n := m) (o := o) (hs := hs) (x3.c (qo 44 4 (by omega) (by omega)) (qo 44 5 (by omega) (by omega)) (fun q _ _ => fA q (by omega))) ⟨by omega, q9, fun k hk j hj => by rw [fA 71 (by decide)]; exact hw2 k (by omega) j hj⟩ (fun k hk => hG k (by omega)) rfl)⟩
    · rw [D_Eggs_undo, B_Eggs_undo_0]
      simp only [zr_0_5, zr_0_2, zbS, x1, zbI]
    · rw [D_Model_undo, B_Model_undo_0]
      rw [zp_64_0, zbS, zg_64_9, zbS, zuI_n (show 9 ≠ 0 by decide), k9, if_pos (nI_ne0 (by omega) (by omega)), zbS, nI_pred, zp_64_9, zbS, ← hI2, m_undoC (by omega) q9, hA2]
    · rw [hA2]
      have := zcp_at (A := A1) (q := 68) (p := 0) (n := 55) (f := fun k => A1 71 (55 * m + k)) hj
      rw [Nat.zero_add] at this
      rw [this]
      exact hw2 m (by omega) j hj
end
