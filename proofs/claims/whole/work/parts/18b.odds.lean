section
variable {L : Nat} {xs : Nat → Int32} {B : Nat} {g : Nat → Nat} {I A : Nat → Nat → Int32} {b : Value} {p w s k : Nat}
def zOkJ (L : Nat) (xs : Nat → Int32) (B mc mm : Nat) (as : List Value) (I A : Nat → Nat → Int32) (b : Value) : Prop := ∃ (r : Int64) (I1 A1 I2 A2 : Nat → Nat → Int32) (b1 : Value), pm_call L xs 60 mc (.ref 0 :: as) (zL I A b) = some (some (.long r), zL I1 A1 b1) ∧ pm_call L xs 60 mm (.ref 64 :: as) (zL I1 A1 b1) = some (some (.long r), zL I2 A2 b1) ∧ Rel B I2 A2
theorem zL1 : Int32.toInt64 (1 : Int32) = lN 1 := by decide
theorem zL0 : Int32.toInt64 (0 : Int32) = lN 0 := by decide
theorem zL2 : Int32.toInt64 (2 : Int32) = lN 2 := by decide
theorem zL5 : Int32.toInt64 (5 : Int32) = lN 5 := by decide
theorem zL10 : Int32.toInt64 (10 : Int32) = lN 10 := by decide
theorem gset_lt (hB : gB g) (q : Nat) : gset g q < 128 := zB_128 _ hB.1
theorem oc_le (hp : p ≤ 10) (c : Nat) : oc g p c ≤ 10 := by
  unfold oc
  split
  · exact Nat.le_refl _
  · split <;> omega
theorem c_tearing (hc : cR I A 15 g) (hB : gB g) {c : Nat} (hcn : c < 3) (d : Nat) : pm_call L xs (d + 3) m_Odds_tearingCases [.ref 15, .int (nI c), .int (nI p)] (zL I A b) = some (some (.int (nI (oc g p c))), zL I A b) := by
  rw [C_Odds_tearingCases, B_Odds_tearingCases_0, c_isTorn L xs d b hc hB (show c < 2 ^ 30 by omega), zbI]
  dsimp only
  unfold oc oT
  by_cases c1 : g 1 < gweighs g c
  · rw [if_pos c1, if_neg (by decide), if_pos (by simp [c1])]
    rfl
  · rw [if_neg c1, if_pos rfl, if_neg (by simp [c1]), zl3, nI_add, c_bitsAt L xs (d + 1) b hc hB (show 3 + c < 2 ^ 31 by omega), zbI]
    dsimp only
    have := gset_lt hB (3 + c)
    by_cases c2 : gset g (3 + c) = 0
    · rw [c2, if_neg (fun q => q rfl), if_pos rfl]
      rfl
    · rw [if_pos (nI_ne0 (by omega) (by omega)), if_neg c2]
theorem c_casesIn (hc : cR I A 15 g) (hB : gB g) (hp : p ≤ 10) (hw : w < 8) (d : Nat) : pm_call L xs (d + 4) m_Odds_casesIn [.ref 15, .int (nI w), .int (nI p)] (zL I A b) = some (some (.long (lN (zP (cf g p w) (g 0)))), zL I A b) := by
  have h3 := hB.2.1
  rw [C_Odds_casesIn, B_Odds_casesIn_0, zL1]
  have key : ∀ c, c ≤ g 0 → ∃ y4 y6, zE L xs (d + 3) K_Odds_casesIn 5 [some (.ref 15), some (.int (nI w)), some (.int (nI p)), some (.long (lN 1)), none, some (.int (0 : Int32)), none] [] (zL I A b) = zE L xs (d + 3) K_Odds_casesIn 5 [some (.ref 15), some (.int (nI w)), some (.int (nI p)), some (.long (lN (zP (cf g p w) c))), y4, some (.int (nI c)), y6] [] (zL I A b) := by
    intro c
    induction c with
    | zero => intro _; exact ⟨none, none, rfl⟩
    | succ c ih =>
      intro hcn
      obtain ⟨y4, y6, e⟩ := ih (by omega)
      rw [e, B_Odds_casesIn_5, hc.bags, zbS, if_neg (nI_ge (by omega) (by omega)), c_tearing hc hB (show c < 3 by omega) d, zbI]
      dsimp only
      rw [zbit (show w < 2 ^ 31 by omega) (show c < 31 by omega), zP_s]
      have ho := oc_le (g := g) hp c
      unfold cf
      by_cases c1 : w.testBit c = true
      · rw [ztest.mpr c1, if_neg (fun q => q rfl), if_pos c1, zl10, pk_sub ho, nI_l (show 10 - oc g p c < 2 ^ 31 by omega), lN_mul, nI_1]
        exact ⟨_, _, rfl⟩
      · have c2 : w / 2 ^ c % 2 = 0 := by
          have := Nat.mod_two_eq_zero_or_one (w / 2 ^ c)
          rcases this with q | q
          · exact q
          · exact absurd (ztest.mp q) c1
        rw [c2, if_pos (by decide), if_neg c1, nI_l (show oc g p c < 2 ^ 31 by omega), lN_mul, nI_1]
        exact ⟨_, _, rfl⟩
  obtain ⟨y4, y6, e⟩ := key (g 0) (Nat.le_refl _)
  rw [e, B_Odds_casesIn_5, hc.bags, zbS, if_pos (nI_le (Nat.le_refl _) (by omega))]
theorem c_comeHome (hc : cR I A 15 g) (hB : gB g) (hg : ∀ t, t < g 3 → gp g t < 3 + g 0) (hw : w < 8) (d : Nat) : pm_call L xs (d + 2) m_Odds_comeHome [.ref 15, .int (nI w)] (zL I A b) = some (some (.int (nI (chome g w))), zL I A b) := by
  have h3 := hB.2.1
  have h7 := hB.1
  rw [C_Odds_comeHome, B_Odds_comeHome_0]
  unfold chome
  have key : ∀ t, t ≤ g 3 → ∃ y4, zE L xs (d + 1) K_Odds_comeHome 4 [some (.ref 15), some (.int (nI w)), some (.int (0 : Int32)), some (.int (0 : Int32)), none] [] (zL I A b) = zE L xs (d + 1) K_Odds_comeHome 4 [some (.ref 15), some (.int (nI w)), some (.int (nI (zC (fun t => decide (3 ≤ gp g t) && (w.testBit (gp g t - 3) && decide (gc g t ≠ 1))) t))), some (.int (nI t)), y4] [] (zL I A b) := by
    intro t
    induction t with
    | zero => intro _; exact ⟨none, rfl⟩
    | succ t ih =>
      intro ht
      have ht3 : t < g 3 := by omega
      obtain ⟨y4, e⟩ := ih (by omega)
      have hpl := hg t ht3
      rw [e, B_Odds_comeHome_4, hc.n, zbS, if_neg (nI_ge ht3 (by omega)), zSr4 hc.1, zbS, hc.place hB b ht3, zbS, zC_s]
      by_cases c1 : 3 ≤ gp g t
      · rw [zl3, pk_sub c1, if_neg (nI_pos (by omega)), zbit (show w < 2 ^ 31 by omega) (show gp g t - 3 < 31 by omega)]
        by_cases c2 : w.testBit (gp g t - 3) = true
        · rw [ztest.mpr c2, if_neg (fun q => q rfl), c_isCrushed L xs d b hc hB ht3, zbI]
          dsimp only
          by_cases c3 : gc g t = 1
          · rw [if_pos c3, if_pos (by decide), if_neg (by simp [c3]), nI_1]
            exact ⟨_, rfl⟩
          · rw [if_neg c3, if_neg (fun q => q rfl), if_pos (by simp [c1, c2, c3]), nI_1, nI_1]
            exact ⟨_, rfl⟩
        · have c3 : w / 2 ^ (gp g t - 3) % 2 = 0 := by
            rcases Nat.mod_two_eq_zero_or_one (w / 2 ^ (gp g t - 3)) with q | q
            · exact q
            · exact absurd (ztest.mp q) c2
          rw [c3, if_pos (by decide), if_neg (by simp [c2]), nI_1]
          exact ⟨_, rfl⟩
      · rw [zl3, if_pos (pk_sneg (by decide) (by omega)), if_neg (by simp [c1]), nI_1]
        exact ⟨_, rfl⟩
  obtain ⟨y4, e⟩ := key (g 3) (Nat.le_refl _)
  rw [e, B_Odds_comeHome_4, hc.n, zbS, if_pos (nI_le (Nat.le_refl _) (by omega))]
theorem zsh3 {n : Nat} (hn : n ≤ 3) : (1 : Int32) <<< (nI n &&& 31) = nI (2 ^ n) := zsh (by omega)
theorem z2n {n : Nat} (hn : n ≤ 3) : 2 ^ n ≤ 8 := by
  rcases (show n = 0 ∨ n = 1 ∨ n = 2 ∨ n = 3 by omega) with rfl | rfl | rfl | rfl <;> decide
theorem chome_le (w : Nat) : chome g w ≤ g 3 := zC_le _ _
theorem c_casesOf (hc : cR I A 15 g) (hB : gB g) (hg : ∀ t, t < g 3 → gp g t < 3 + g 0) (hp : p ≤ 10) (hk : k ≤ 7) (d : Nat) : pm_call L xs (d + 5) m_Odds_casesOf [.ref 15, .int (nI k), .int (nI p)] (zL I A b) = some (some (.long (lN (cabove g k p (g 0)))), zL I A b) := by
  have h3 := hB.2.1
  have h7 := hB.1
  have h8 := z2n h3
  rw [C_Odds_casesOf, B_Odds_casesOf_0, zL0]
  unfold cabove
  have key : ∀ w, w ≤ 2 ^ g 0 → ∃ y4, zE L xs (d + 4) K_Odds_casesOf 5 [some (.ref 15), some (.int (nI k)), some (.int (nI p)), some (.long (lN 0)), none, some (.int (0 : Int32))] [] (zL I A b) = zE L xs (d + 4) K_Odds_casesOf 5 [some (.ref 15), some (.int (nI k)), some (.int (nI p)), some (.long (lN (zS (fun w => if k ≤ chome g w then zP (cf g p w) (g 0) else 0) w))), y4, some (.int (nI w))] [] (zL I A b) := by
    intro w
    induction w with
    | zero => intro _; exact ⟨none, rfl⟩
    | succ w ih =>
      intro hw
      obtain ⟨y4, e⟩ := ih (by omega)
      have hcl := chome_le (g := g) w
      rw [e, B_Odds_casesOf_5, hc.bags, zbS, zsh3 h3, if_neg (nI_ge (by omega) (by omega)), c_comeHome hc hB hg (show w < 8 by omega) (d + 2), zbI, zS_s]
      dsimp only
      by_cases c1 : k ≤ chome g w
      · rw [if_neg (nI_nlt c1 (by omega)), if_pos c1, c_casesIn hc hB hp (show w < 8 by omega) d, zbJ]
        dsimp only
        rw [lN_add, nI_1]
        exact ⟨_, rfl⟩
      · rw [if_pos (nI_lt (by omega) (by omega)), if_neg c1, nI_1]
        exact ⟨_, rfl⟩
  obtain ⟨y4, e⟩ := key (2 ^ g 0) (Nat.le_refl _)
  rw [e, B_Odds_casesOf_5, hc.bags, zbS, zsh3 h3, if_pos (nI_le (Nat.le_refl _) (by omega))]
theorem c_allCases (hc : cR I A 15 g) (hB : gB g) (d : Nat) : pm_call L xs (d + 1) m_Odds_allCases [.ref 15] (zL I A b) = some (some (.long (lN (10 ^ g 0))), zL I A b) := by
  have h3 := hB.2.1
  rw [C_Odds_allCases, B_Odds_allCases_0, zL1]
  have key : ∀ c, c ≤ g 0 → ∃ y, zE L xs d K_Odds_allCases 4 [some (.ref 15), some (.long (lN 1)), none, some (.int (0 : Int32))] [] (zL I A b) = zE L xs d K_Odds_allCases 4 [some (.ref 15), some (.long (lN (10 ^ c))), y, some (.int (nI c))] [] (zL I A b) := by
    intro c
    induction c with
    | zero => intro _; exact ⟨none, rfl⟩
    | succ c ih =>
      intro hcn
      obtain ⟨y, e⟩ := ih (by omega)
      rw [e, B_Odds_allCases_4, hc.bags, zbS, if_neg (nI_ge (by omega) (by omega)), zL10, lN_mul, nI_1, Nat.pow_succ]
      exact ⟨_, rfl⟩
  obtain ⟨y, e⟩ := key (g 0) (Nat.le_refl _)
  rw [e, B_Odds_allCases_4, hc.bags, zbS, if_pos (nI_le (Nat.le_refl _) (by omega))]
theorem zmr {a m : Nat} (ha : a < 2 ^ 31) (hm : 0 < m) (hm2 : m < 2 ^ 31) : lg_cmp (lN a - lN a / lN m * lN m) (Int32.toInt64 (0 : Int32)) = 0 ↔ a % m = 0 := by
  rw [pk_lRem (by omega) hm (by omega)]
  have := Nat.mod_lt a hm
  rw [zcmp0 (by omega)]
theorem rdn_le (x : Nat × Nat) : ∀ n, (rdn x n).1 ≤ x.1 ∧ (rdn x n).2 ≤ x.2
  | 0 => ⟨Nat.le_refl _, Nat.le_refl _⟩
  | n + 1 => by
    obtain ⟨h1, h2⟩ := rdn_le x n
    have e : rdn x (n + 1) = rst (rdn x n) := rfl
    rw [e]
    unfold rst
    have q1 := Nat.div_le_self (rdn x n).1 2
    have q2 := Nat.div_le_self (rdn x n).2 2
    have q3 := Nat.div_le_self (rdn x n).1 5
    have q4 := Nat.div_le_self (rdn x n).2 5
    have q5 := Nat.div_le_self ((rdn x n).1 / 2) 5
    have q6 := Nat.div_le_self ((rdn x n).2 / 2) 5
    by_cases c1 : (rdn x n).1 % 2 = 0 ∧ (rdn x n).2 % 2 = 0
    · simp only [if_pos c1]
      split <;> (try dsimp only) <;> omega
    · simp only [if_neg c1]
      split <;> (try dsimp only) <;> omega
theorem c_redstep {a e c : Nat} (d : Nat) (i1 i2 i3 : Int32) (y5 y7 : Option Value) (hc : cR I A 15 g) (hB : gB g) (ha : a < 2 ^ 31) (he : e < 2 ^ 31) (hcn : c < g 0) : ∃ y5' y7', zE L xs d K_Odds_part 17 [some (.ref 15), some (.int i1), some (.int i2), some (.int i3), some (.long (lN a)), y5, some (.long (lN e)), y7, some (.int (nI c))] [] (zL I A b) = zE L xs d K_Odds_part 17 [some (.ref 15), some (.int i1), some (.int i2), some (.int i3), some (.long (lN (rst (a, e)).1)), y5', some (.long (lN (rst (a, e)).2)), y7', some (.int (nI (c + 1)))] [] (zL I A b) := by
  have h3 := hB.2.1
  have q1 := Nat.div_le_self a 2
  have q2 := Nat.div_le_self e 2
  have five : ∀ (a e : Nat) (y5 y7 : Option Value), a < 2 ^ 31 → e < 2 ^ 31 → ∃ y5' y7', zE L xs d K_Odds_part 70 [some (.ref 15), some (.int i1), some (.int i2), some (.int i3), some (.long (lN a)), y5, some (.long (lN e)), y7, some (.int (nI c))] [.long (lN a - lN a / lN 5 * lN 5)] (zL I A b) = zE L xs d K_Odds_part 17 [some (.ref 15), some (.int i1), some (.int i2), some (.int i3), some (.long (lN (if a % 5 = 0 ∧ e % 5 = 0 then (a / 5, e / 5) else (a, e)).1)), y5', some (.long (lN (if a % 5 = 0 ∧ e % 5 = 0 then (a / 5, e / 5) else (a, e)).2)), y7', some (.int (nI (c + 1)))] [] (zL I A b) := by
    intro a e y5 y7 ha he
    rw [B_Odds_part_70, B_Odds_part_72]
    by_cases c1 : a % 5 = 0
    · rw [if_neg (fun q => q ((zmr ha (by decide) (by decide)).mpr c1)), if_neg (by decide), B_Odds_part_81, zL5, B_Odds_part_83]
      by_cases c2 : e % 5 = 0
      · rw [if_neg (fun q => q ((zmr he (by decide) (by decide)).mpr c2)), zL5, if_neg (by decide), B_Odds_part_92, zL5, if_neg (by decide), B_Odds_part_100, pk_lDiv (by omega) (by decide) (by decide), pk_lDiv (by omega) (by decide) (by decide), nI_1, if_pos ⟨c1, c2⟩]
        exact ⟨_, _, rfl⟩
      · rw [if_pos (fun q => c2 ((zmr he (by decide) (by decide)).mp q)), nI_1, if_neg (fun q => c2 q.2)]
        exact ⟨_, _, rfl⟩
    · rw [if_pos (fun q => c1 ((zmr ha (by decide) (by decide)).mp q)), nI_1, if_neg (fun q => c1 q.1)]
      exact ⟨_, _, rfl⟩
  rw [B_Odds_part_17, hc.bags, zbS, if_neg (nI_ge (by omega) (by omega)), zL2, if_neg (by decide), B_Odds_part_32, B_Odds_part_34]
  unfold rst
  dsimp only
  by_cases c1 : a % 2 = 0
  · rw [if_neg (fun q => q ((zmr ha (by decide) (by decide)).mpr c1)), zL2, if_neg (by decide), B_Odds_part_43, B_Odds_part_45]
    by_cases c2 : e % 2 = 0
    · rw [if_neg (fun q => q ((zmr he (by decide) (by decide)).mpr c2)), zL2, if_neg (by decide), B_Odds_part_54, zL2, if_neg (by decide), B_Odds_part_62, zL5, if_neg (by decide), pk_lDiv (by omega) (by decide) (by decide), pk_lDiv (by omega) (by decide) (by decide)]
      simp only [if_pos (show a % 2 = 0 ∧ e % 2 = 0 from ⟨c1, c2⟩)]
      exact five _ _ _ _ (by omega) (by omega)
    · rw [if_pos (fun q => c2 ((zmr he (by decide) (by decide)).mp q)), zL5, if_neg (by decide)]
      simp only [if_neg (show ¬ (a % 2 = 0 ∧ e % 2 = 0) from fun q => c2 q.2)]
      exact five _ _ _ _ ha he
  · rw [if_pos (fun q => c1 ((zmr ha (by decide) (by decide)).mp q)), zL5, if_neg (by decide)]
    simp only [if_neg (show ¬ (a % 2 = 0 ∧ e % 2 = 0) from fun q => c1 q.1)]
    exact five _ _ _ _ ha he
theorem z10n {n : Nat} (hn : n ≤ 3) : 10 ^ n ≤ 1000 := by
  rcases (show n = 0 ∨ n = 1 ∨ n = 2 ∨ n = 3 by omega) with rfl | rfl | rfl | rfl <;> decide
theorem c_part (hc : cR I A 15 g) (hB : gB g) (hg : ∀ t, t < g 3 → gp g t < 3 + g 0) (hp : p ≤ 10) (hk : k ≤ 7) (w : Int32) (d : Nat) : pm_call L xs (d + 6) m_Odds_part [.ref 15, .int (nI k), .int (nI p), .int w] (zL I A b) = some (some (.long (if ¬ w = 0 then lN (rdn (cabove g k p (g 0), 10 ^ g 0) (g 0)).2 else lN (rdn (cabove g k p (g 0), 10 ^ g 0) (g 0)).1)), zL I A b) := by
  have h3 := hB.2.1
  have ht := z10n h3
  have hca : cabove g k p (g 0) ≤ 1000 := by
    have h1 := omk (g := g) (g 0)
    have h2 := mabove_le (g := g) (n := g 0) hp k
    rw [above_eq hg k]
    exact Nat.le_trans (by rw [← h1] at ht; exact Nat.mul_le_mul_right _ h2) (by rw [h1]; exact ht)
  rw [C_Odds_part, B_Odds_part_0, c_casesOf hc hB hg hp hk d, zbJ]
  dsimp only
  rw [c_allCases hc hB (d + 4), zbJ]
  dsimp only
  have key : ∀ c, c ≤ g 0 → ∃ y5 y7, zE L xs (d + 5) K_Odds_part 17 [some (.ref 15), some (.int (nI k)), some (.int (nI p)), some (.int w), some (.long (lN (cabove g k p (g 0)))), none, some (.long (lN (10 ^ g 0))), none, some (.int (0 : Int32))] [] (zL I A b) = zE L xs (d + 5) K_Odds_part 17 [some (.ref 15), some (.int (nI k)), some (.int (nI p)), some (.int w), some (.long (lN (rdn (cabove g k p (g 0), 10 ^ g 0) c).1)), y5, some (.long (lN (rdn (cabove g k p (g 0), 10 ^ g 0) c).2)), y7, some (.int (nI c))] [] (zL I A b) := by
    intro c
    induction c with
    | zero => intro _; exact ⟨none, none, rfl⟩
    | succ c ih =>
      intro hcn
      obtain ⟨y5, y7, e⟩ := ih (by omega)
      obtain ⟨l1, l2⟩ := rdn_le (cabove g k p (g 0), 10 ^ g 0) c
      dsimp only at l1 l2
      obtain ⟨y5', y7', e2⟩ := c_redstep (L := L) (xs := xs) (b := b) (d + 5) (nI k) (nI p) w y5 y7 hc hB (a := (rdn (cabove g k p (g 0), 10 ^ g 0) c).1) (e := (rdn (cabove g k p (g 0), 10 ^ g 0) c).2) (by omega) (by omega) (show c < g 0 by omega)
      rw [e, e2]
      exact ⟨y5', y7', rfl⟩
  obtain ⟨y5, y7, e⟩ := key (g 0) (Nat.le_refl _)
  rw [e, B_Odds_part_17, hc.bags, zbS, if_pos (nI_le (Nat.le_refl _) (by omega))]
  split <;> rfl
end
