/-! heavy, who -/
section
variable {L : Nat} {xs : Nat → Int32} {B : Nat} {I A : Nat → Nat → Int32} {b : Value} {g : Nat → Nat}
theorem gu_id {j : Nat} : gu g j (g j) = g := by
  funext k
  unfold gu
  split
  · rename_i h; rw [h]
  · rfl
theorem P_heavy (h : Rel B I A) (u v i : Int32) : zOk L xs B m_Eggs_heavy m_Model_heavy [.int u, .int v, .int i] I A b := by
  have hw := h
  obtain ⟨g, hR, -, -, -, ⟨hc, hm, hB, hD, hU, hO, h5, hk, -⟩, -⟩ := hw
  have hn := hB.1
  have hn0 := hB.2.1
  unfold zOk
  rw [D_Eggs_heavy, B_Eggs_heavy_0]
  simp only [D_Model_heavy, B_Model_heavy_0, zr_0_2, zr_0_0, zbS, c_hasThing L xs 58 b hc hB, zbI, zp_64_0, c_isRow L xs, m_isRow L xs, zne]
  by_cases h0 : 0 ≤ u.toInt ∧ u.toInt < (g 3 : Int)
  · obtain ⟨t, ht, rfl⟩ := zth h0
    have ht7 : t < 7 := by omega
    by_cases h1 : 0 ≤ v ∧ v ≤ 7
    · obtain ⟨r, hr, rfl⟩ := zmm (k := 7) (by decide) h1.1 h1.2
      have hr8 : r < 8 := by omega
      simp only [h0, h1, and_self, not_true_eq_false, not_false_eq_true, if_true, if_false, hc.bags, zbS, c_findingAt L xs 57 b hr8 (hR.2 r hr8), zbI]
      have e0 : ∀ (I1 : Nat → Nat → Int32), pm_call L xs 59 m_Model_isThing [.ref 64, .int (nI t)] (zL I1 A b) = some (some (.int 1), zL I1 A b) := fun I1 => by rw [m_isThing L xs 57 I1 b hm hB, if_pos h0]
      by_cases c1 : A 12 r = -1
      · simp only [c1, if_true]
        rw [if_neg (by decide), c_found L xs, zbI]
        refine ⟨_, _, _, zuI (zuI (zuI I 0 10 1) 64 0 0) 64 1 1, _, _, rfl, ?_, h.fnd 1 (fun o k => by simp only [zuI_at]; split <;> split <;> first | rfl | (exfalso; omega) | (split <;> first | rfl | (exfalso; omega) | (split <;> first | rfl | (exfalso; omega))))⟩
        simp only [e0, zbI, zr_64_5, zbS, m_rd' _ b hm zl0 (show 0 < 55 by decide), m_rowFound hr8 (hR.2 r hr8) (hB.2.2.1 0) i 57, c1, if_true]
        rw [if_neg (by decide), if_neg (by decide)]
      · simp only [c1, if_false]
        by_cases c2 : 0 ≤ i.toInt ∧ 0 ≤ (nI (g 0)).toInt ∧ i.toInt + (nI (g 0)).toInt ≤ (A 12 r).toInt
        · rcases (hR.2 r hr8).1 with ⟨m1, -⟩ | ⟨N, l, hN, hl, m1, m2, m3, m4⟩
          · exact absurd m1 c1
          obtain ⟨j, hj, rfl⟩ := nI_of (x := i) (by rw [fa_lt, show (0 : Int32).toInt = 0 by decide]; omega)
          have hjN : j + g 0 ≤ 40 := by
            have := c2.2.2
            rw [m1, nI_toInt hj, nI_toInt (gbl hB 0), nI_toInt (by omega)] at this
            omega
          have hrow : ∀ c, c < g 0 → A (3 + r) (j + c) = A 67 (40 * r + j + c) := fun c hc => by
            rw [(hR.2 r hr8).2 (j + c) (by omega), Nat.add_assoc]
          simp only [c2, and_self, if_true, zr_0_0, zr_0_2, zr_1_0, z_items hr8, zbS]
          obtain ⟨ok, hok⟩ : ∃ ok : Nat → Bool, ok = fun w => zAl (fun c => decide (nI (gweighs (gu g (6 + 7 * t + 1) w) c) = A 67 (40 * r + j + c))) (g 0) 0 := ⟨_, rfl⟩
          have cm : pm_call L xs 59 m_Clues_weights [.ref 15, .int (nI t), .ref (3 + r), .int (nI j)] (zL I A b) = some (some (.int (zF (fun k a => if ok (1 + k) = true then a ||| ((1 : Int32) <<< (nI (1 + k) &&& 31)) else a) 20 0)), zL I A b) := by
            rw [C_Clues_weights, B_Clues_weights_0, show (1 : Int32) = nI 1 from zl1]
            refine zloopS (fun k a => zE L xs 58 K_Clues_weights 6 [some (.ref 15), some (.int (nI t)), some (.ref (3 + r)), some (.int (nI j)), some (.int a), some (.int k)] [] (zL I A b)) (fun w a => if ok w = true then a ||| ((1 : Int32) <<< (nI w &&& 31)) else a) 1 (fun a => some (some (.int a), zL I A b)) 20 0 (fun k a hk2 => ?_) (fun a => ?_)
            · rw [B_Clues_weights_6, zl20, if_neg (nI_nlt (by omega) (by omega))]
              simp only [c_isWeighed hc hB (za_row hr8) hjN ht (show 1 + k < 2 ^ 20 by omega) 56, zbI, zne]
              have e4 : zAl (fun c => decide (nI (gweighs (gu g (6 + 7 * t + 1) (1 + k)) c) = A (3 + r) (j + c))) (g 0) 0 = ok (1 + k) := by
                rw [hok]
                exact zAl_congr _ _ (fun c _ hc => by rw [hrow c (by omega)])
              rw [e4]
              by_cases c4 : ok (1 + k) = true
              · rw [if_neg (fun q => q c4), if_pos c4]
              · rw [if_pos c4, if_neg c4, zor0]
            · rw [B_Clues_weights_6, zl20, if_pos (nI_lt (by decide) (by decide))]
          rw [cm, zbI, c_fine L xs, zbI]
          obtain ⟨I2, hI2⟩ : ∃ I2, I2 = zuI (zuI (zuI I 0 10 0) 64 0 0) 64 1 0 := ⟨_, rfl⟩
          have lp : ∀ k, k ≤ 20 → ∃ A', zE L xs 59 K_Model_heavy 55 [some (.ref 64), some (.int (nI t)), some (.int (nI r)), some (.int (nI j)), some (.int 0), some (.int 0), some (.int 1)] [] (zL I2 (zcp A 70 0 55 (A 68)) b) = zE L xs 59 K_Model_heavy 55 [some (.ref 64), some (.int (nI t)), some (.int (nI r)), some (.int (nI j)), some (.int 0), some (.int (zF (fun k a => if ok (1 + k) = true then a ||| ((1 : Int32) <<< (nI (1 + k) &&& 31)) else a) k 0)), some (.int (nI (1 + k)))] [] (zL I2 A' b) ∧ (∃ w, mR A' 70 (gu g (6 + 7 * t + 1) w)) ∧ ∀ q, q ≠ 70 → A' q = A q := by
            intro k
            induction k with
            | zero => intro _; exact ⟨_, rfl, ⟨g (6 + 7 * t + 1), by rw [gu_id]; exact m_then hm⟩, fun q hq => zcp_o hq⟩
            | succ k ih =>
              intro hk2
              obtain ⟨A1, e1, ⟨w, hw1⟩, f1⟩ := ih (by omega)
              have f5 : ((6 : Int32) + ((7 : Int32) * nI t)) + (1 : Int32) = nI (6 + 7 * t + 1) := by rw [zl6, zl7, zl1, pk_mul, nI_add, nI_add]
              have h70 := hw1.set (6 + 7 * t + 1) (1 + k)
              rw [gu_2] at h70
              have hB2 : gB (gu g (6 + 7 * t + 1) (1 + k)) := gu_B hB (by omega) (by omega) (fun t _ e => by omega)
              have g0 : gu g (6 + 7 * t + 1) (1 + k) 0 = g 0 := gu_n (by omega)
              have e6 := m_weighSo (L := L) (xs := xs) (I := I2) (b := b) h70 hB2 (p := 40 * r + j) (by rw [g0]; omega) 56
              have e7 : ∀ c, zuA A1 70 (6 + 7 * t + 1) (nI (1 + k)) 67 c = A 67 c := fun c => by rw [zuA_o (by decide), f1 67 (by decide)]
              simp only [e7, g0] at e6
              have e8 : zAl (fun c => decide (nI (gweighs (gu g (6 + 7 * t + 1) (1 + k)) c) = A 67 (40 * r + j + c))) (g 0) 0 = ok (1 + k) := by rw [hok]
              rw [e8] at e6
              rw [e1, B_Model_heavy_55, zl20, if_neg (nI_nlt (by omega) (by omega))]
              simp only [zr_64_7, zbS, f5, z_wr za_70 (show 6 + 7 * t + 1 < 55 by omega), zga 0, e6, zbI, zne, nI_1]
              refine ⟨zuA A1 70 (6 + 7 * t + 1) (nI (1 + k)), ?_, ⟨_, h70⟩, fun q hq => by rw [zuA_o hq, f1 q hq]⟩
              rw [show zF (fun k a => if ok (1 + k) = true then a ||| ((1 : Int32) <<< (nI (1 + k) &&& 31)) else a) (k + 1) 0 = (if ok (1 + k) = true then zF (fun k a => if ok (1 + k) = true then a ||| ((1 : Int32) <<< (nI (1 + k) &&& 31)) else a) k 0 ||| ((1 : Int32) <<< (nI (1 + k) &&& 31)) else zF (fun k a => if ok (1 + k) = true then a ||| ((1 : Int32) <<< (nI (1 + k) &&& 31)) else a) k 0) from rfl]
              by_cases c4 : ok (1 + k) = true
              · rw [if_neg (fun q => q c4), if_pos c4]; rfl
              · rw [if_pos c4, if_neg c4, zor0]; rfl
          obtain ⟨A2, e2, -, f2⟩ := lp 20 (Nat.le_refl _)
          refine ⟨_, _, _, I2, A2, _, rfl, ?_, (h.fine (A' := A) (fun _ _ _ _ _ => rfl) hR.2).same (by rw [hI2]; exact zKA_70 f2)⟩
          simp only [e0, zbI, zr_64_5, zbS, m_rd' _ b hm zl0 (show 0 < 55 by decide), m_rowFound hr8 (hR.2 r hr8) (hB.2.2.1 0) (nI j) 57, c1, c2, and_self, if_true, if_false]
          rw [if_neg (by decide), ← hI2, m_layThen hm 58, zbV, e2, B_Model_heavy_55, zl20, if_pos (nI_lt (by decide) (by decide))]
        · simp only [eq_false c2, if_false]
          rw [if_neg (by decide), c_found L xs, zbI]
          refine ⟨_, _, _, zuI (zuI (zuI I 0 10 2) 64 0 0) 64 1 2, _, _, rfl, ?_, h.fnd 2 (fun o k => by simp only [zuI_at]; split <;> split <;> first | rfl | (exfalso; omega) | (split <;> first | rfl | (exfalso; omega) | (split <;> first | rfl | (exfalso; omega))))⟩
          simp only [e0, zbI, zr_64_5, zbS, m_rd' _ b hm zl0 (show 0 < 55 by decide), m_rowFound hr8 (hR.2 r hr8) (hB.2.2.1 0) i 57, c1, eq_false c2, if_false]
          rw [if_neg (by decide), if_neg (by decide)]
    · simp only [h0, h1, and_self, not_true_eq_false, not_false_eq_true, if_true, if_false]
      refine ⟨_, _, _, _, _, _, rfl, ?_, h.same (zSame.fI 64 0 0 rfl)⟩
      simp only [m_isThing L xs 57 _ b hm hB, zbI, h0, and_self, if_true]
      rw [if_neg (by decide)]
  · simp only [h0, not_true_eq_false, not_false_eq_true, if_true, if_false]
    refine ⟨_, _, _, _, _, _, rfl, ?_, h.same (zSame.fI 64 0 0 rfl)⟩
    simp only [m_isThing L xs 57 _ b hm hB, zbI, h0, if_false]
    rw [if_pos (by decide)]
theorem zSh.far {o p : Nat} (ho : zSh o) (hp : zSh p) (hne : o ≠ p) : p + 6 < o + 1 ∨ o + 6 < p + 1 := by
  rcases ho with rfl | rfl | rfl | rfl <;> rcases hp with rfl | rfl | rfl | rfl <;> omega
theorem c_become {o p : Nat} (ho : zSh o) (hp : zSh p) (hne : o ≠ p) (d : Nat) : ∃ I' A', pm_call L xs (d + 1) m_Shop_become [.ref o, .ref p] (zL I A b) = some (none, zL I' A' b) ∧ (∀ k, k < 6 → I' o k = I p k) ∧ (∀ o', o' ≠ o → I' o' = I o') ∧ (∀ j, 1 ≤ j → j ≤ 6 → ∀ t, t < 7 → A' (o + j) t = A (p + j) t) ∧ ∀ q, (q < o + 1 ∨ o + 6 < q) → A' q = A q := by
  have hf := zSh.far ho hp hne
  have hpo : p ≠ o := fun q => hne q.symm
  rw [D_Shop_become ho, B_Shop_become_0]
  simp only [zSg0 hp, zSg1 hp, zSg2 hp, zSg3 hp, zSg4 hp, zSg5 hp, zSp0 ho, zSp1 ho, zSp2 ho, zSp3 ho, zSp4 ho, zSp5 ho, zbS, zuI_o hpo]
  obtain ⟨I2, hI2⟩ : ∃ I2, I2 = zuI (zuI (zuI (zuI (zuI (zuI I o 0 (I p 0)) o 1 (I p 1)) o 2 (I p 2)) o 3 (I p 3)) o 4 (I p 4)) o 5 (I p 5) := ⟨_, rfl⟩
  rw [← hI2]
  have lp : ∀ k, k ≤ 7 → ∃ A', zE L xs d K_Shop_become 50 [some (.ref o), some (.ref p), some (.int 0)] [] (zL I2 A b) = zE L xs d K_Shop_become 50 [some (.ref o), some (.ref p), some (.int (nI k))] [] (zL I2 A' b) ∧ (∀ j, 1 ≤ j → j ≤ 6 → ∀ t, t < k → A' (o + j) t = A (p + j) t) ∧ ∀ q, (q < o + 1 ∨ o + 6 < q) → A' q = A q := by
    intro k
    induction k with
    | zero => intro _; exact ⟨A, rfl, fun j _ _ t ht => by omega, fun _ _ => rfl⟩
    | succ k ih =>
      intro hk
      obtain ⟨A1, e1, f1, f2⟩ := ih (by omega)
      have hk7 : k < 7 := by omega
      rw [e1, B_Shop_become_50, zl7, if_neg (nI_ge hk7 (by decide))]
      simp only [zSr1 ho, zSr2 ho, zSr3 ho, zSr4 ho, zSr5 ho, zSr6 ho, zSr1 hp, zSr2 hp, zSr3 hp, zSr4 hp, zSr5 hp, zSr6 hp, zbS, z_rd (zSa1 hp) hk7, z_rd (zSa2 hp) hk7, z_rd (zSa3 hp) hk7, z_rd (zSa4 hp) hk7, z_rd (zSa5 hp) hk7, z_rd (zSa6 hp) hk7, z_wr (zSa1 ho) hk7, z_wr (zSa2 ho) hk7, z_wr (zSa3 ho) hk7, z_wr (zSa4 ho) hk7, z_wr (zSa5 ho) hk7, z_wr (zSa6 ho) hk7, nI_1]
      refine ⟨_, rfl, fun j hj1 hj6 t ht => ?_, fun q hq => ?_⟩
      · rw [zuA_o (show p + 2 ≠ o + 1 by omega), zuA_o (show p + 3 ≠ o + 2 by omega), zuA_o (show p + 3 ≠ o + 1 by omega), zuA_o (show p + 4 ≠ o + 3 by omega), zuA_o (show p + 4 ≠ o + 2 by omega), zuA_o (show p + 4 ≠ o + 1 by omega), zuA_o (show p + 5 ≠ o + 4 by omega), zuA_o (show p + 5 ≠ o + 3 by omega), zuA_o (show p + 5 ≠ o + 2 by omega), zuA_o (show p + 5 ≠ o + 1 by omega), zuA_o (show p + 6 ≠ o + 5 by omega), zuA_o (show p + 6 ≠ o + 4 by omega), zuA_o (show p + 6 ≠ o + 3 by omega), zuA_o (show p + 6 ≠ o + 2 by omega), zuA_o (show p + 6 ≠ o + 1 by omega)]
        have hx : ∀ j, 1 ≤ j → j ≤ 6 → A1 (p + j) = A (p + j) := fun j _ _ => f2 (p + j) (by omega)
        have fin : ∀ j, 1 ≤ j → j ≤ 6 → upd (A1 (o + j)) k (A1 (p + j) k) t = A (p + j) t := by
          intro j h1 h6
          unfold upd
          by_cases e : t = k
          · subst e; rw [if_pos rfl, hx j h1 h6]
          · rw [if_neg e]; exact f1 j h1 h6 t (by omega)
        rcases (show j = 1 ∨ j = 2 ∨ j = 3 ∨ j = 4 ∨ j = 5 ∨ j = 6 by omega) with rfl | rfl | rfl | rfl | rfl | rfl
        · rw [zuA_o (by omega), zuA_o (by omega), zuA_o (by omega), zuA_o (by omega), zuA_o (by omega), zuA_s]
          exact fin 1 (by decide) (by decide)
        · rw [zuA_o (by omega), zuA_o (by omega), zuA_o (by omega), zuA_o (by omega), zuA_s, zuA_o (by omega)]
          exact fin 2 (by decide) (by decide)
        · rw [zuA_o (by omega), zuA_o (by omega), zuA_o (by omega), zuA_s, zuA_o (by omega), zuA_o (by omega)]
          exact fin 3 (by decide) (by decide)
        · rw [zuA_o (by omega), zuA_o (by omega), zuA_s, zuA_o (by omega), zuA_o (by omega), zuA_o (by omega)]
          exact fin 4 (by decide) (by decide)
        · rw [zuA_o (by omega), zuA_s, zuA_o (by omega), zuA_o (by omega), zuA_o (by omega), zuA_o (by omega)]
          exact fin 5 (by decide) (by decide)
        · rw [zuA_s, zuA_o (by omega), zuA_o (by omega), zuA_o (by omega), zuA_o (by omega), zuA_o (by omega)]
          exact fin 6 (by decide) (by decide)
      · rw [zuA_o (by omega), zuA_o (by omega), zuA_o (by omega), zuA_o (by omega), zuA_o (by omega), zuA_o (by omega), f2 q hq]
  obtain ⟨A2, e2, f1, f2⟩ := lp 7 (Nat.le_refl _)
  refine ⟨I2, A2, ?_, ?_, ?_, f1, f2⟩
  · rw [e2, B_Shop_become_50, zl7, if_pos (nI_le (Nat.le_refl _) (by decide))]
  · intro k hk
    rw [hI2]
    rcases (show k = 0 ∨ k = 1 ∨ k = 2 ∨ k = 3 ∨ k = 4 ∨ k = 5 by omega) with rfl | rfl | rfl | rfl | rfl | rfl <;> simp [zuI_at]
  · intro o' ho'
    rw [hI2]
    funext k
    simp only [zuI_at, ho', false_and, if_false]
/-- a SHOP that became another holds the same row -/
theorem cR.copy {o p : Nat} {I' A' : Nat → Nat → Int32} (h : cR I A p g) (hB : gB g) (ho : zSh o) (h1 : ∀ k, k < 6 → I' o k = I p k) (h2 : ∀ j, 1 ≤ j → j ≤ 6 → ∀ t, t < 7 → A' (o + j) t = A (p + j) t) : cR I' A' o g := by
  have hn := hB.1
  refine ⟨ho, ?_, fun t ht => ?_⟩
  · rw [h1 0 (by decide), h1 1 (by decide), h1 2 (by decide), h1 3 (by decide), h1 4 (by decide), h1 5 (by decide)]
    exact h.2.1
  · rw [h2 1 (by decide) (by decide) t (by omega), h2 2 (by decide) (by decide) t (by omega), h2 3 (by decide) (by decide) t (by omega), h2 4 (by decide) (by decide) t (by omega), h2 5 (by decide) (by decide) t (by omega), h2 6 (by decide) (by decide) t (by omega)]
    exact h.2.2 t ht
end
