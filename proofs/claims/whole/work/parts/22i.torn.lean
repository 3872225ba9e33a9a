/-! torn -/
section
variable {L : Nat} {xs : Nat → Int32} {B : Nat} {g : Nat → Nat} {b : Value}
theorem gtn_le {s : Nat → Nat} : gtn s ≤ s 0 := zC_le _ _
theorem c_tornNow {I A : Nat → Nat → Int32} {s : Nat → Nat} (hR : uR I A s) (hB : gB s) (d : Nat) : pm_call L xs (d + 1) m_Ways_tornNow [.ref 49] (zL I A b) = some (some (.int (nI (gtn s))), zL I A b) := by
  have h03 := hB.2.1
  have h1 : s 1 < 2 ^ 31 := gbl hB 1
  rw [D_Ways_tornNow, B_Ways_tornNow_0]
  have key : ∀ k, k ≤ s 0 → zE L xs d K_Ways_tornNow 4 [some (.ref 49), some (.int (0 : Int32)), some (.int (0 : Int32))] [] (zL I A b) = zE L xs d K_Ways_tornNow 4 [some (.ref 49), some (.int (nI (zC (fun c => decide (s 1 < gweighs s c)) k))), some (.int (nI k))] [] (zL I A b) := by
    intro k
    induction k with
    | zero => intro _; rfl
    | succ k ih =>
      intro hk
      have hw := zgw_lt hB k
      rw [ih (by omega), B_Ways_tornNow_4, zg_49_9, zbS, hR.1.1, if_neg (nI_ge (by omega) (by omega)), zr_49_8, zbS, z_rd za_58 (by omega), zbS, hR.2.1 k (by omega), zg_49_10, zbS, hR.1.2, zC_s]
      by_cases c : s 1 < gweighs s k
      · rw [if_neg (nI_ge c (by omega)), nI_1, nI_1, if_pos (decide_eq_true c)]
      · rw [if_pos (nI_le (by omega) h1), nI_1, if_neg (by simp [c]), show nI (zC (fun c => decide (s 1 < gweighs s c)) k) + (0 : Int32) = nI (zC (fun c => decide (s 1 < gweighs s c)) k + 0) from by rw [zl0, nI_add]]
  rw [key (s 0) (Nat.le_refl _), B_Ways_tornNow_4, zg_49_9, zbS, hR.1.1, if_pos (nI_le (Nat.le_refl _) (by omega))]
  rfl
theorem uR_co {I A : Nat → Nat → Int32} {s : Nat → Nat} (hR : uR I A s) {t c : Nat} (ht : t < s 3) (hp : gp s t < 3) : uR I (zuA A 58 c (nI (gweighs s c + gw s t))) (gcomes s t (3 + c)) := by
  have h0 : gcomes s t (3 + c) 0 = s 0 := gcomes_h (by decide)
  refine ⟨⟨by rw [hR.1.1, h0], by rw [hR.1.2, show gcomes s t (3 + c) 1 = s 1 from gcomes_h (by decide)]⟩, fun e he => ?_, fun u hu => ?_⟩
  · rw [h0] at he
    rw [gweighs_co ht hp, zuA_s]
    by_cases q : e = c
    · rw [q, pk_us, if_pos rfl]
    · rw [pk_un q, if_neg q, Nat.add_zero, hR.2.1 e he]
  · rw [gco_n] at hu
    rw [zuA_o (by decide), hR.2.2 u hu, show gw (gcomes s t (3 + c)) u = gw s u from gco_w (w := 1) (by decide) (by decide) (by decide)]
theorem uR_un {I A : Nat → Nat → Int32} {s : Nat → Nat} {t c : Nat} (hR : uR I A (gcomes s t (3 + c))) (ht : t < s 3) (hp : gp s t < 3) : uR I (zuA A 58 c (nI (gweighs s c))) s := by
  have h0 : gcomes s t (3 + c) 0 = s 0 := gcomes_h (by decide)
  obtain ⟨⟨i9, i10⟩, r58, r56⟩ := hR
  rw [h0] at i9 r58
  rw [gco_n] at r56
  rw [show gcomes s t (3 + c) 1 = s 1 from gcomes_h (by decide)] at i10
  refine ⟨⟨i9, i10⟩, fun e he => ?_, fun u hu => ?_⟩
  · rw [zuA_s]
    by_cases q : e = c
    · rw [q, pk_us]
    · rw [pk_un q, r58 e he, gweighs_co ht hp, if_neg q, Nat.add_zero]
  · rw [zuA_o (by decide), r56 u hu, show gw (gcomes s t (3 + c)) u = gw s u from gco_w (w := 1) (by decide) (by decide) (by decide)]
theorem c_fewestTorn {I : Nat → Nat → Int32} {P : List Nat} (hP : pGood P) (h11 : I 49 11 = nI P.length) : ∀ (r : List Nat) (s : Nat → Nat) (p : List Nat) (acc : Nat × List Nat) (A : Nat → Nat → Int32) (d : Nat), Wok r s → p.length + r.length = P.length → (∀ j, j < r.length → P.getD (p.length + j) 0 = r.getD j 0) → uR I A s → tR A 50 P → acc.1 ≤ 3 → ∃ A', pm_call L xs (d + r.length + 2) m_Ways_fewestTorn [.ref 49, .int (nI p.length), .int (nI acc.1)] (zL I A b) = some (some (.int (nI (dfs gtn r s p acc).1)), zL I A' b) ∧ uR I A' s ∧ ∀ q, q ≠ 58 → A' q = A q
  | [], s, p, acc, A, d, hw, hl, hPr, hR, h50, hk => by
    have hB := hw.1
    have h03 := hB.2.1
    have htn := gtn_le (s := s)
    have hP7 := hP.1
    have hl' : p.length = P.length := hl
    have edf : dfs gtn [] s p acc = lf (gtn s) p acc := rfl
    rw [show d + ([] : List Nat).length + 2 = d + 1 + 1 from rfl, C_Ways_fewestTorn, B_Ways_fewestTorn_0, c_tornNow hR hB d, zbI, edf]
    dsimp only
    by_cases c1 : gtn s < acc.1
    · rw [if_neg (nI_ge c1 (by omega)), zg_49_11, zbS, h11, if_neg (nI_nlt (by omega) (by omega)), if_neg (nI_nlt (by omega) (by omega)), show lf (gtn s) p acc = (gtn s, p) from if_pos c1]
      exact ⟨A, rfl, hR, fun _ _ => rfl⟩
    · rw [if_pos (nI_le (by omega) (by omega)), show lf (gtn s) p acc = acc from if_neg c1]
      by_cases c2 : acc.1 < gtn s
      · rw [if_pos (nI_lt c2 (by omega))]
        exact ⟨A, rfl, hR, fun _ _ => rfl⟩
      · rw [if_neg (nI_nlt (by omega) (by omega)), show gtn s = acc.1 by omega]
        exact ⟨A, rfl, hR, fun _ _ => rfl⟩
  | t :: r, s, p, acc, A, d, hw, hl, hPr, hR, h50, hk => by
    have hB := hw.1
    have h7 := hB.1
    have h03 := hB.2.1
    have htn := gtn_le (s := s)
    have hP7 := hP.1
    obtain ⟨ht, hpt⟩ := hw.hd
    rw [List.length_cons] at hl
    rw [show d + (t :: r).length + 2 = (d + r.length + 1 + 1) + 1 from rfl, C_Ways_fewestTorn, B_Ways_fewestTorn_0, c_tornNow hR hB (d + r.length + 1), zbI]
    dsimp only
    by_cases c1 : gtn s < acc.1
    · have e50 : A 50 p.length = nI t := by
        have e1 := hPr 0 (by rw [List.length_cons]; omega)
        rw [h50 p.length (by omega)]
        rw [Nat.add_zero] at e1
        rw [e1]
        rfl
      obtain ⟨m, m1, m2, m3, m4⟩ := c_bagsToTry (L := L) (xs := xs) (b := b) hR hB hw.2.2.2.2.2.1 (d + r.length + 1)
      rw [if_neg (nI_ge c1 (by omega)), zg_49_11, zbS, h11, if_pos (nI_lt (by omega) (by omega)), zr_49_0, zbS, z_rd za_50 (by omega), zbS, e50, m4, zbI]
      dsimp only
      rw [dfs_prune gtn_sym hw m1 m2 m3 p acc]
      have key : ∀ k, k ≤ m → ∃ A', zE L xs (d + r.length + 1 + 1) K_Ways_fewestTorn 44 [some (.ref 49), some (.int (nI p.length)), some (.int (nI acc.1)), some (.int (nI (gtn s))), some (.int (nI t)), some (.int (nI acc.1)), some (.int (nI m)), some (.int (0 : Int32))] [] (zL I A b) = zE L xs (d + r.length + 1 + 1) K_Ways_fewestTorn 44 [some (.ref 49), some (.int (nI p.length)), some (.int (nI acc.1)), some (.int (nI (gtn s))), some (.int (nI t)), some (.int (nI (zF (fun c acc => dfs gtn r (gcomes s t (3 + c)) (p ++ [c]) acc) k acc).1)), some (.int (nI m)), some (.int (nI k))] [] (zL I A' b) ∧ uR I A' s ∧ (zF (fun c acc => dfs gtn r (gcomes s t (3 + c)) (p ++ [c]) acc) k acc).1 ≤ 3 ∧ ∀ q, q ≠ 58 → A' q = A q := by
        intro k
        induction k with
        | zero => intro _; exact ⟨A, rfl, hR, hk, fun _ _ => rfl⟩
        | succ k ih =>
          intro hkm
          obtain ⟨A1, e1, e2, e3, e4⟩ := ih (by omega)
          have hks : k < s 0 := by omega
          have hw' := hw.st hks
          obtain ⟨A2, hA2⟩ : ∃ A2, A2 = zuA A1 58 k (nI (gweighs s k + gw s t)) := ⟨_, rfl⟩
          have e2' : uR I A2 (gcomes s t (3 + k)) := by rw [hA2]; exact uR_co e2 ht hpt
          obtain ⟨A3, z1, z2, z3⟩ := c_fewestTorn hP h11 r (gcomes s t (3 + k)) (p ++ [k]) (zF (fun c acc => dfs gtn r (gcomes s t (3 + c)) (p ++ [c]) acc) k acc) A2 d hw' (by rw [List.length_append, List.length_singleton]; omega) (fun j hj => by
            have := hPr (j + 1) (by rw [List.length_cons]; omega)
            rw [List.length_append, List.length_singleton, show p.length + 1 + j = p.length + (j + 1) by omega, this]
            rfl) e2' (h50.c (by rw [hA2, zuA_o (by decide), e4 50 (by decide)])) e3
          rw [show (p ++ [k]).length = p.length + 1 from by rw [List.length_append, List.length_singleton]] at z1
          have h0' : gcomes s t (3 + k) 0 = s 0 := gcomes_h (by decide)
          have r58 : pm_rd 0 (zL I A3 b) 58 (nI k) = some (nI (gweighs s k + gw s t)) := by rw [z_rd za_58 (by omega), z2.2.1 k (by rw [h0']; exact hks), gweighs_co ht hpt, if_pos rfl]
          have r56 : pm_rd 0 (zL I A3 b) 56 (nI t) = some (nI (gw s t)) := by rw [z_rd za_56 (by omega), z3 56 (by decide), hA2, zuA_o (by decide), e2.2.2 t ht]
          refine ⟨zuA A3 58 k (nI (gweighs s k)), ?_, uR_un z2 ht hpt, ?_, fun q hq => by rw [zuA_o hq, z3 q hq, hA2, zuA_o hq, e4 q hq]⟩
          · rw [e1, B_Ways_fewestTorn_44, if_neg (nI_ge (by omega) (by omega)), zr_49_8, zbS, z_rd za_58 (by omega), zbS, e2.2.1 k hks, zr_49_6, zbS, z_rd za_56 (by omega), zbS, e2.2.2 t ht, nI_add, z_wr za_58 (by omega), zbS, ← hA2, nI_1, z1, zbI]
            dsimp only
            rw [zr_49_8, zbS, r58, zbS, zr_49_6, zbS, r56, zbS, pk_sub (by omega), Nat.add_sub_cancel, z_wr za_58 (by omega), zbS, nI_1]
            rfl
          · exact Nat.le_trans (dfs_le r _ _ _) e3
      obtain ⟨A1, e1, e2, e3, e4⟩ := key m (Nat.le_refl _)
      refine ⟨A1, ?_, e2, e4⟩
      rw [e1, B_Ways_fewestTorn_44, if_pos (nI_le (Nat.le_refl _) (by omega))]
    · rw [if_pos (nI_le (by omega) (by omega)), dfs_keep (t :: r) s p acc (LB_of gtn_mon (t :: r) s hw (Nat.not_lt.mp c1))]
      by_cases c2 : acc.1 < gtn s
      · rw [if_pos (nI_lt c2 (by omega))]
        exact ⟨A, rfl, hR, fun _ _ => rfl⟩
      · rw [if_neg (nI_nlt (by omega) (by omega)), show gtn s = acc.1 by omega]
        exact ⟨A, rfl, hR, fun _ _ => rfl⟩
/-- the fewest that TEAR by the first WAYS -/
def tac (g : Nat → Nat) (P : List Nat) : Nat → Nat × List Nat
  | 0 => (3, [])
  | w + 1 => lf (gtn (gPW P (wdg (g 0) P.length w) g)) (wdg (g 0) P.length w) (tac g P w)
theorem tac_0 (P : List Nat) : tac g P 0 = (3, []) := by rw [tac]
theorem tac_s (P : List Nat) (w : Nat) : tac g P (w + 1) = lf (gtn (gPW P (wdg (g 0) P.length w) g)) (wdg (g 0) P.length w) (tac g P w) := by rw [tac]
theorem m_tornIn {I A : Nat → Nat → Int32} {s : Nat → Nat} (hm : mR A 70 s) (hB : gB s) (i1 i2 i3 : Int32) (d : Nat) : zE L xs (d + 3) K_Model_torn 47 [some (.ref 64), some (.int i1), some (.int i2), some (.int i3), some (.int (0 : Int32)), some (.int (0 : Int32))] [] (zL I A b) = zE L xs (d + 3) K_Model_torn 47 [some (.ref 64), some (.int i1), some (.int i2), some (.int i3), some (.int (nI (gtn s))), some (.int (nI (s 0)))] [] (zL I A b) := by
  have h03 := hB.2.1
  have key : ∀ k, k ≤ s 0 → zE L xs (d + 3) K_Model_torn 47 [some (.ref 64), some (.int i1), some (.int i2), some (.int i3), some (.int (0 : Int32)), some (.int (0 : Int32))] [] (zL I A b) = zE L xs (d + 3) K_Model_torn 47 [some (.ref 64), some (.int i1), some (.int i2), some (.int i3), some (.int (nI (zC (fun c => decide (s 1 < gweighs s c)) k))), some (.int (nI k))] [] (zL I A b) := by
    intro k
    induction k with
    | zero => intro _; rfl
    | succ k ih =>
      intro hk
      rw [ih (by omega), B_Model_torn_47, zr_64_7, zbS, m_rd' I b hm zl0 (show 0 < 55 by decide), zbS, if_neg (nI_ge (by omega) (by omega)), zbS, m_isTorn L xs d I b hm hB (show k < 2 ^ 30 by omega), zbI, zC_s]
      dsimp only
      by_cases c : s 1 < gweighs s k
      · rw [if_pos c, if_neg (by decide), nI_1, nI_1, if_pos (decide_eq_true c)]
      · rw [if_neg c, if_pos rfl, nI_1, if_neg (by simp [c]), show nI (zC (fun c => decide (s 1 < gweighs s c)) k) + (0 : Int32) = nI (zC (fun c => decide (s 1 < gweighs s c)) k + 0) from by rw [zl0, nI_add]]
  exact key (s 0) (Nat.le_refl _)
theorem m_tornL {I A : Nat → Nat → Int32} (hm : mR A 68 g) {P : List Nat} (hW : Wok P g) (hP : pGood P) (h73 : tR A 73 P) (h20 : I 64 20 = nI P.length) : ∃ A', zE L xs 59 K_Model_torn 31 [some (.ref 64), some (.int (-1000000 : Int32)), some (.int (nI (g 0 ^ P.length))), some (.int (0 : Int32)), none, none] [] (zL I A b) = some (some (.int (nI (dfs gtn P g [] (3, [])).1)), zL I A' b) ∧ ∀ q, q ≠ 70 → A' q = A q := by
  have hB := hW.1
  have h0 := hW.2.2.2.2.2.1
  have h03 := hB.2.1
  have hpw := pow7 h03 hP.1
  have key : ∀ w, w ≤ g 0 ^ P.length → ∃ A' x y4 y5, zE L xs 59 K_Model_torn 31 [some (.ref 64), some (.int (-1000000 : Int32)), some (.int (nI (g 0 ^ P.length))), some (.int (0 : Int32)), none, none] [] (zL I A b) = zE L xs 59 K_Model_torn 31 [some (.ref 64), some (.int x), some (.int (nI (g 0 ^ P.length))), some (.int (nI w)), y4, y5] [] (zL I A' b) ∧ ((w = 0 ∧ x = -1000000) ∨ (0 < w ∧ x = nI (tac g P w).1 ∧ (tac g P w).1 ≤ 3)) ∧ ∀ q, q ≠ 70 → A' q = A q := by
    intro w
    induction w with
    | zero => intro _; exact ⟨A, _, none, none, rfl, Or.inl ⟨rfl, rfl⟩, fun _ _ => rfl⟩
    | succ w ih =>
      intro hw
      obtain ⟨A1, x, y4, y5, e1, e2, e3⟩ := ih (by omega)
      obtain ⟨A2, z1, z2, z3⟩ := m_layWay (L := L) (xs := xs) (I := I) (b := b) (hm.c (e3 68 (by decide))) hW hP (h73.c (e3 73 (by decide))) h20 (show w < 2 ^ 31 by omega) 54
      obtain ⟨hW', hs0⟩ := Wok_PW P (wdg (g 0) P.length w) g hW (wdg_len _ _) (wdg_lt h0 _ _)
      have etac := tac_s (g := g) P w
      obtain ⟨s, hs⟩ : ∃ s, s = gPW P (wdg (g 0) P.length w) g := ⟨_, rfl⟩
      rw [← hs] at z2 hW' hs0 etac
      have hBs := gcr_B hW'.1 (s 3)
      have et : gtn (gcr s (s 3)) = gtn s := by
        unfold gtn
        rw [gcr_h _ _ (by decide), gcr_h _ _ (by decide)]
        exact zC_congr _ (fun c _ => by rw [gcr_weighs])
      have hle := gtn_le (s := s)
      rw [e1, B_Model_torn_31, if_neg (nI_ge (by omega) (by omega)), z1, zbV, m_tornIn z2 hBs x _ _ 56, et, B_Model_torn_47, zr_64_7, zbS, m_rd' I b z2 zl0 (show 0 < 55 by decide), zbS, if_pos (nI_le (Nat.le_refl _) (gbl hBs 0))]
      have fr : ∀ q, q ≠ 70 → A2 q = A q := fun q hq => by rw [z3 q hq, e3 q hq]
      rcases e2 with ⟨w0, x0⟩ | ⟨wp, x0, x3⟩
      · have t0 : tac g P w = (3, []) := by rw [w0, tac_0]
        have t1 : (tac g P (w + 1)).1 = gtn s := by
          rw [etac, t0]
          unfold lf
          dsimp only
          split
          · rfl
          · omega
        rw [x0, if_pos rfl, nI_1]
        exact ⟨A2, _, _, _, rfl, Or.inr ⟨by omega, by rw [t1], by rw [t1]; omega⟩, fr⟩
      · rw [x0, if_neg (zNn (by omega))]
        by_cases c : gtn s < (tac g P w).1
        · have t1 : (tac g P (w + 1)).1 = gtn s := by rw [etac, show lf (gtn s) (wdg (g 0) P.length w) (tac g P w) = (gtn s, wdg (g 0) P.length w) from if_pos c]
          rw [if_neg (nI_ge c (by omega)), nI_1]
          exact ⟨A2, _, _, _, rfl, Or.inr ⟨by omega, by rw [t1], by rw [t1]; omega⟩, fr⟩
        · have t1 : tac g P (w + 1) = tac g P w := by rw [etac]; exact if_neg c
          rw [if_pos (nI_le (by omega) (by omega)), nI_1]
          exact ⟨A2, _, _, _, rfl, Or.inr ⟨by omega, by rw [t1], by rw [t1]; exact x3⟩, fr⟩
  obtain ⟨A1, x, y4, y5, e1, e2, e3⟩ := key (g 0 ^ P.length) (Nat.le_refl _)
  have hpos : 0 < g 0 ^ P.length := Nat.pow_pos h0
  rcases e2 with ⟨w0, -⟩ | ⟨-, x0, -⟩
  · omega
  · refine ⟨A1, ?_, e3⟩
    rw [e1, B_Model_torn_31, if_pos (nI_le (Nat.le_refl _) (by omega)), x0, dfs_enum h0 P g [] (3, []) rfl, mac_F _ _ (tac g P) (tac_0 P) (fun w => by rw [tac_s, List.nil_append])]
theorem P_torn {I A : Nat → Nat → Int32} (h : Rel B I A) (hB2 : B + 7 < 2 ^ 20) : zOk L xs B m_Eggs_torn m_Model_torn [] I A b := by
  have hw := h
  obtain ⟨g, -, -, -, -, hS, -, -⟩ := hw
  obtain ⟨hc, hm, hI⟩ := hS
  have hB := hI.1
  have hD := hI.2.1
  by_cases h0 : 0 < g 0
  · have hW := Wok_of hI h0 hB2 none
    have hP := lP_good hB hD none
    have hP7 := hP.1
    obtain ⟨I1, A1, x1, x2, x3, x4, x5, x6⟩ := c_begin (L := L) (xs := xs) (b := b) hB hD hc 53
    rw [← lP_none] at x3 x4
    obtain ⟨A2, z1, z2, z3⟩ := c_fewestTorn (L := L) (xs := xs) (b := b) hP x4 (lP g none) g [] (3, []) A1 (56 - (lP g none).length) hW (by rw [List.length_nil]; omega) (fun j hj => by rw [List.length_nil, Nat.zero_add]) x2.1 x3 (Nat.le_refl _)
    rw [show 56 - (lP g none).length + (lP g none).length + 2 = 58 by omega] at z1
    have z1' : pm_call L xs 58 m_Ways_fewestTorn [.ref 49, .int (0 : Int32), .int (3 : Int32)] (zL I1 A1 b) = some (some (.int (nI (dfs gtn (lP g none) g [] (3, [])).1)), zL I1 A2 b) := z1
    have fr : ∀ q, (q < 50 ∨ 58 < q) → A2 q = A q := fun q hq => by rw [z3 q (by omega), x6 q hq]
    have hm1 : mR A2 68 g := hm.c (fr 68 (by omega))
    obtain ⟨I3, A3, u1, u2, u3, u4, u5⟩ := m_lineUp (L := L) (xs := xs) (I := zuI I1 64 0 0) (A := A2) (b := b) hm1 hB hD (nt := none) (fun u q => by cases q) 57
    have u1' : pm_call L xs 59 m_Model_lineUp [.ref 64, .int (-1000000 : Int32)] (zL (zuI I1 64 0 0) A2 b) = some (none, zL I3 A3 b) := u1
    have hm3 : mR A3 68 g := hm1.c (u5 68 (by decide))
    obtain ⟨A4, v1, v2⟩ := m_tornL (L := L) (xs := xs) (b := b) hm3 hW hP u2 u3
    have hs1 : zSame I A I1 A2 := ⟨fun o k hk => x5 o k (fun q => by rw [q] at hk; simp [zKI] at hk), fun q hq => fr q (by simp [zKA] at hq; omega), by rw [fr 60 (by omega)], by rw [fr 61 (by omega)]⟩
    have hs2 : zSame I1 A2 I3 A4 := by
      refine ⟨fun o k hk => ?_, fun q hq => by rw [v2 q (fun q2 => by rw [q2] at hq; simp [zKA] at hq), u5 q (fun q2 => by rw [q2] at hq; simp [zKA] at hq)], by rw [v2 60 (by decide), u5 60 (by decide)], by rw [v2 61 (by decide), u5 61 (by decide)]⟩
      rw [u4 o k (fun q => by obtain ⟨q1, q2⟩ := q; rw [q1, q2] at hk; simp [zKI] at hk), zuI_at, if_neg (zKI_0 hk)]
    refine zOk.scr (b1 := b) (r := nI (dfs gtn (lP g none) g [] (3, [])).1) h ?_ hs1 ?_ hs2
    · rw [D_Eggs_torn, B_Eggs_torn_0, zr_0_2, zbS, c_stands L xs 58 b hc hB, zbI]
      dsimp only
      rw [if_pos h0, if_neg (by decide), zr_0_6, zbS, zr_0_2, zbS, show pm_call L xs 59 m_Ways_seekTorn [.ref 49, .ref 15] (zL I A b) = zE L xs 58 K_Ways_seekTorn 0 [some (.ref 49), some (.ref 15)] [] (zL I A b) from D_Ways_seekTorn L xs 58 I A b 15, B_Ways_seekTorn_0, x1, zbV, z1', zbI, zbI]
    · rw [D_Model_torn, B_Model_torn_0, zp_64_0, zbS, m_isThere L xs 58 _ b hm1 hB, zbI]
      dsimp only
      rw [if_pos h0, if_pos (by decide), u1', zbV, m_waysOf hm3 hB hP7 u3 58, zbI]
      exact v1
  · refine zOk.pure (r := -1000002) h ?_ ?_
    · rw [D_Eggs_torn, B_Eggs_torn_0, zr_0_2, zbS, c_stands L xs 58 b hc hB, zbI]
      dsimp only
      rw [if_neg h0, if_pos rfl]
    · rw [D_Model_torn, B_Model_torn_0, zp_64_0, zbS, m_isThere L xs 58 _ b hm hB, zbI]
      dsimp only
      rw [if_neg h0, if_neg (fun q => q rfl)]
end
