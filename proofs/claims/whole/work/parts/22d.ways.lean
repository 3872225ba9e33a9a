/-! ways: goOn -/
section
variable {L : Nat} {xs : Nat → Int32} {b : Value} {hv : (Nat → Nat) → Nat}
def hSt (hv : (Nat → Nat) → Nat) : Prop := ∀ (t : Nat) (r : List Nat) (s : Nat → Nat) (c : Nat), Wok (t :: r) s → c < s 0 → hv (gcomes s t (3 + c)) = if hv s < gweighs (gcomes s t (3 + c)) c then gweighs (gcomes s t (3 + c)) c else hv s
def hLt (hv : (Nat → Nat) → Nat) : Prop := ∀ s, gB s → hv s < 2 ^ 31
theorem hM_st : hSt hM := by
  intro t r s c h hc
  unfold hM
  rw [show gcomes s t (3 + c) 0 = s 0 from gcomes_h (by decide)]
  exact gmost_co h hc
theorem hM_lt : hLt hM := fun s hB => Nat.lt_of_lt_of_le (gmost_lt hB (s 0)) (by decide)
theorem hX_st : hSt hX := by
  intro t r s c h hc
  have := zgw_140 (h.st hc).1.1 (fun t ht => ((h.st hc).2.2.2.2.2.2 t ht).2) c
  unfold hX
  rw [if_neg (by omega)]
theorem hX_lt : hLt hX := fun _ _ => by unfold hX; decide
theorem bro_lt {s : Nat → Nat} (hB : gB s) : gbroken s ||| gover s < 128 := by
  unfold gbroken gover
  rw [zB_or]
  exact zB_128 _ hB.1
theorem c_goOn (hst : hSt hv) (hlt : hLt hv) (hmo : Mon hv) (hsy : Sym hv) {P : List Nat} (hP : pGood P) : ∀ (r : List Nat) (s : Nat → Nat) (p : List Nat) (acc : Nat × List Nat) (I A : Nat → Nat → Int32) (d : Nat), Wok r s → p.length + r.length = P.length → (∀ j, j < r.length → P.getD (p.length + j) 0 = r.getD j 0) → wR I A s → I 49 12 = nI P.length → tR A 51 P → tR A 52 p → wA (I 49 13) (I 49 14) acc.1 → tR A 53 acc.2 → ∃ I' A', pm_call L xs (d + r.length + 2) m_Ways_goOn [.ref 49, .int (nI p.length), .int (nI (gbroken s ||| gover s)), .int (nI (hv s))] (zL I A b) = some (none, zL I' A' b) ∧ wR I' A' s ∧ tR A' 52 p ∧ wA (I' 49 13) (I' 49 14) (dfs (kk hv) r s p acc).1 ∧ tR A' 53 (dfs (kk hv) r s p acc).2 ∧ (∀ o k, ¬ (o = 49 ∧ (k = 13 ∨ k = 14)) → I' o k = I o k) ∧ ∀ q, q ≠ 52 → q ≠ 53 → q ≠ 55 → q ≠ 57 → q ≠ 58 → A' q = A q
  | [], s, p, acc, I, A, d, hw, hl, hPr, hR, h12, h51, h52, hA, h53 => by
    have hB := hw.1
    have hb := bro_lt hB
    have hcn := gcnt_le hB
    have hh := hlt s hB
    have hP7 := hP.1
    have hl' : p.length = P.length := hl
    rw [show d + ([] : List Nat).length + 2 = d + 1 + 1 from rfl, C_Ways_goOn, B_Ways_goOn_0, c_bitCount L xs d b hb, zbI]
    dsimp only
    rw [show zpc (gbroken s ||| gover s) = gcnt s from rfl, c_isBetter hA hcn hh d, zbI]
    dsimp only
    have edf : dfs (kk hv) [] s p acc = lf (kk hv s) p acc := rfl
    rw [edf]
    by_cases c1 : gcnt s * 4294967296 + hv s < acc.1
    · rw [if_pos c1, if_pos (by decide), zg_49_12, zbS, h12, if_neg (nI_nlt (by omega) (by omega)), c_bitCount L xs d b hb, zbI]
      dsimp only
      rw [show zpc (gbroken s ||| gover s) = gcnt s from rfl]
      obtain ⟨A1, x1, x2, x3⟩ := c_wkeep (L := L) (xs := xs) (I := I) (A := A) (b := b) (p := p) (by omega) (by rw [h12, hl']) h52 (nI (gcnt s)) (nI (hv s)) d
      rw [x1, zbV, show lf (kk hv s) p acc = (kk hv s, p) from if_pos c1]
      refine ⟨_, _, rfl, hR.c (by rw [zuI_n (by decide), zuI_n (by decide)]) (by rw [zuI_n (by decide), zuI_n (by decide)]) (fun q q1 q2 => x3 q (by omega)), h52.c (x3 52 (by decide)), ?_, x2, fun o k hk => ?_, fun q q1 q2 q3 q4 q5 => x3 q q2⟩
      · rw [zuI_n (by decide), zuI_s, zuI_s]
        exact Or.inr ⟨gcnt s, hv s, hcn, hh, rfl, rfl, rfl⟩
      · rw [zuI_at, if_neg (by omega), zuI_at, if_neg (by omega)]
    · rw [if_neg c1, if_neg (fun q => q rfl), show lf (kk hv s) p acc = acc from if_neg c1]
      exact ⟨I, A, rfl, hR, h52, hA, h53, fun _ _ _ => rfl, fun _ _ _ _ _ _ => rfl⟩
  | t :: r, s, p, acc, I, A, d, hw, hl, hPr, hR, h12, h51, h52, hA, h53 => by
    have hB := hw.1
    have hU := hw.2.1
    have h7 := hB.1
    have h03 := hB.2.1
    have hb := bro_lt hB
    have hcn := gcnt_le hB
    have hh := hlt s hB
    have hP7 := hP.1
    obtain ⟨ht, hpt⟩ := hw.hd
    rw [List.length_cons] at hl
    rw [show d + (t :: r).length + 2 = (d + r.length + 1 + 1) + 1 from rfl, C_Ways_goOn, B_Ways_goOn_0, c_bitCount L xs (d + r.length + 1) b hb, zbI]
    dsimp only
    rw [show zpc (gbroken s ||| gover s) = gcnt s from rfl, c_isBetter hA hcn hh (d + r.length + 1), zbI]
    dsimp only
    by_cases c1 : gcnt s * 4294967296 + hv s < acc.1
    · have e51 : A 51 p.length = nI t := by
        have e1 := hPr 0 (by rw [List.length_cons]; omega)
        rw [h51 p.length (by omega)]
        rw [Nat.add_zero] at e1
        rw [e1]
        rfl
      obtain ⟨m, m1, m2, m3, m4⟩ := c_bagsToTry (L := L) (xs := xs) (b := b) hR.1 hB hw.2.2.2.2.2.1 (d + r.length + 1)
      rw [if_pos c1, if_pos (by decide), zg_49_12, zbS, h12, if_pos (nI_lt (by omega) (by omega)), zr_49_1, zbS, z_rd za_51 (by omega), zbS, e51, m4, zbI]
      dsimp only
      rw [dfs_prune (kk_sym hsy) hw m1 m2 m3 p acc]
      have key : ∀ k, k ≤ m → ∃ I' A' y7, zE L xs (d + r.length + 1 + 1) K_Ways_goOn 48 [some (.ref 49), some (.int (nI p.length)), some (.int (nI (gbroken s ||| gover s))), some (.int (nI (hv s))), some (.int (nI t)), some (.int (nI m)), some (.int (0 : Int32)), none] [] (zL I A b) = zE L xs (d + r.length + 1 + 1) K_Ways_goOn 48 [some (.ref 49), some (.int (nI p.length)), some (.int (nI (gbroken s ||| gover s))), some (.int (nI (hv s))), some (.int (nI t)), some (.int (nI m)), some (.int (nI k)), y7] [] (zL I' A' b) ∧ wR I' A' s ∧ tR A' 52 p ∧ wA (I' 49 13) (I' 49 14) (zF (fun c acc => dfs (kk hv) r (gcomes s t (3 + c)) (p ++ [c]) acc) k acc).1 ∧ tR A' 53 (zF (fun c acc => dfs (kk hv) r (gcomes s t (3 + c)) (p ++ [c]) acc) k acc).2 ∧ (∀ o k, ¬ (o = 49 ∧ (k = 13 ∨ k = 14)) → I' o k = I o k) ∧ ∀ q, q ≠ 52 → q ≠ 53 → q ≠ 55 → q ≠ 57 → q ≠ 58 → A' q = A q := by
        intro k
        induction k with
        | zero => intro _; exact ⟨I, A, none, rfl, hR, h52, hA, h53, fun _ _ _ => rfl, fun _ _ _ _ _ _ => rfl⟩
        | succ k ih =>
          intro hk
          obtain ⟨I1, A1, y7, e1, e2, e3, e4, e5, e6, e7⟩ := ih (by omega)
          have hks : k < s 0 := by omega
          have hw' := hw.st hks
          obtain ⟨A2, hA2⟩ : ∃ A2, A2 = zuA A1 52 p.length (nI k) := ⟨_, rfl⟩
          have f2 : ∀ q, q ≠ 52 → A2 q = A1 q := fun q hq => by rw [hA2, zuA_o hq]
          have e2' : wR I1 A2 s := e2.c rfl rfl (fun q q1 q2 => f2 q (by omega))
          obtain ⟨A3, ov, x1, x2, x3, x4⟩ := c_wlay (L := L) (xs := xs) (b := b) e2' hB hU ht hpt hks (d + r.length + 1)
          have t52 : tR A3 52 (p ++ [k]) := by
            have : tR A2 52 (p ++ [k]) := by rw [hA2]; exact tR_app e3
            exact this.c (x3 52 (by decide) (by decide) (by decide))
          obtain ⟨I4, A4, z1, z2, z3, z4, z5, z6, z7⟩ := c_goOn hst hlt hmo hsy hP r (gcomes s t (3 + k)) (p ++ [k]) (zF (fun c acc => dfs (kk hv) r (gcomes s t (3 + c)) (p ++ [c]) acc) k acc) I1 A3 d hw' (by rw [List.length_append, List.length_singleton]; omega) (fun j hj => by
            have := hPr (j + 1) (by rw [List.length_cons]; omega)
            rw [List.length_append, List.length_singleton, show p.length + 1 + j = p.length + (j + 1) by omega, this]
            rfl) x2 (by rw [e6 49 12 (by omega), h12]) (h51.c (by rw [x3 51 (by decide) (by decide) (by decide), f2 51 (by decide), e7 51 (by decide) (by decide) (by decide) (by decide) (by decide)])) t52 e4 (e5.c (by rw [x3 53 (by decide) (by decide) (by decide), f2 53 (by decide)]))
          rw [show (p ++ [k]).length = p.length + 1 from by rw [List.length_append, List.length_singleton]] at z1
          obtain ⟨A5, w1, w2, w3⟩ := c_wlift (L := L) (xs := xs) (b := b) z2 hB hU ht hpt hks (d + r.length + 1)
          have hk58 : pm_rd 0 (zL I1 A3 b) 58 (nI k) = some (nI (gweighs (gcomes s t (3 + k)) k)) := by
            rw [z_rd za_58 (by omega), x2.1.2.1 k (by rw [gcomes_h (by decide)]; exact hks)]
          have hgw := zgw_lt hw'.1 k
          have hmx : (if nI (hv s) < nI (gweighs (gcomes s t (3 + k)) k) then nI (gweighs (gcomes s t (3 + k)) k) else nI (hv s)) = nI (hv (gcomes s t (3 + k))) := by
            rw [hst t r s k hw hks]
            by_cases c9 : hv s < gweighs (gcomes s t (3 + k)) k
            · rw [if_pos c9, if_pos (nI_lt c9 (by omega))]
            · rw [if_neg c9, if_neg (nI_nlt (by omega) hh)]
          refine ⟨I4, A5, some (.int (nI (gbroken (gcomes s t (3 + k)) ||| gover (gcomes s t (3 + k))))), ?_, w2, (tR_pre z3).c (w3 52 (by decide) (by decide) (by decide)), z4, z5.c (w3 53 (by decide) (by decide) (by decide)), fun o j hj => by rw [z6 o j hj, e6 o j hj], fun q q1 q2 q3 q4 q5 => by rw [w3 q q3 q4 q5, z7 q q1 q2 q3 q4 q5, x3 q q3 q4 q5, f2 q q1, e7 q q1 q2 q3 q4 q5]⟩
          rw [e1, B_Ways_goOn_48, if_neg (nI_ge (by omega) (by omega)), zr_49_2, zbS, z_wr za_52 (by omega), zbS, ← hA2, x1, zbI]
          dsimp only
          rw [zr_49_8, zbS, hk58, zbS, fa_or, x4, hmx, nI_1, z1, zbV, w1, zbV, nI_1]
      obtain ⟨I1, A1, y7, e1, e2, e3, e4, e5, e6, e7⟩ := key m (Nat.le_refl _)
      refine ⟨I1, A1, ?_, e2, e3, e4, e5, e6, e7⟩
      rw [e1, B_Ways_goOn_48, if_pos (nI_le (Nat.le_refl _) (by omega))]
    · rw [if_neg c1, if_neg (fun q => q rfl), dfs_keep (t :: r) s p acc (LB_of (kk_mon hmo) (t :: r) s hw (Nat.not_lt.mp c1))]
      exact ⟨I, A, rfl, hR, h52, hA, h53, fun _ _ _ => rfl, fun _ _ _ _ _ _ => rfl⟩
end
