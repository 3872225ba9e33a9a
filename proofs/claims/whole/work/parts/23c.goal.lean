/-! the law: its loop, its start, its end -/
section
variable {L : Nat} {xs : Nat → Int32}
theorem Rel0 : Rel 7 zI0 zA0 := by
  refine ⟨fun _ => 0, ⟨rfl, fun r hr => ?_⟩, ⟨rfl, 0, by decide, rfl, rfl, fun i hi => absurd hi (Nat.not_lt_zero _)⟩, ⟨0, by decide, rfl, rfl, fun i hi => absurd hi (Nat.not_lt_zero _)⟩, ⟨rfl, rfl⟩, ⟨⟨Or.inl rfl, ⟨rfl, rfl, rfl, rfl, rfl, rfl⟩, fun t ht => absurd ht (Nat.not_lt_zero _)⟩, ⟨Or.inl rfl, fun j hj => rfl⟩, ⟨⟨by decide, by decide, fun j => show 0 < 2 ^ 20 by decide, fun t _ => Nat.zero_le _⟩, fun t u ht => absurd ht (Nat.not_lt_zero _), fun t ht => absurd ht (Nat.not_lt_zero _), fun t ht => absurd ht (Nat.not_lt_zero _), by decide, fun t ht => absurd ht (Nat.not_lt_zero _), fun _ => rfl, by decide⟩⟩, fun k hk => ?_, ⟨0, 0, fun _ _ => 0, by decide, by decide, rfl, rfl, rfl, rfl, fun k hk => absurd hk (Nat.not_lt_zero _)⟩⟩
  · rcases (show r = 0 ∨ r = 1 ∨ r = 2 ∨ r = 3 ∨ r = 4 ∨ r = 5 ∨ r = 6 ∨ r = 7 by omega) with rfl | rfl | rfl | rfl | rfl | rfl | rfl | rfl
    all_goals exact ⟨Or.inl ⟨rfl, rfl⟩, fun i hi => rfl⟩
  · exact Or.inl ⟨rfl, rfl⟩
theorem l_ro0 {j : Nat} (hL : L ≤ 3072) (h : j < L) : pm_ro (pm_od L xs) 0 (nI j) = some (xs j) := by
  show (if ¬ (nI j < 0 ∨ L ≤ (nI j).toNatClampNeg) then some (xs (nI j).toNatClampNeg) else none) = _
  rw [if_pos (nI_in h (by omega)), nI_clamp (by omega)]
theorem l_loop (hL : L ≤ 3072) : ∀ (n k : Nat) (I A : Nat → Nat → Int32) (b : Value), Rel (7 + 24 * k) I A → k + n ≤ 512 → L ≤ 6 * (k + n) + 5 → ∃ (I' A' : Nat → Nat → Int32) (b' : Value), zE L xs 60 K_law 18 [some (.retAddr 0), some (.ref 0), some (.ref 64), some (.int (nI (6 * k)))] [] (zL I A b) = some (some (.int 1), zL I' A' b') := by
  intro n
  induction n with
  | zero =>
    intro k I A b h hk hl
    have e := pk_sub_toInt (a := L) (b := 6) (by omega) (by decide)
    refine ⟨I, A, b, ?_⟩
    rw [B_law_18, show pm_lo (pm_od L xs) 0 = some (nI L) from rfl, zbS, if_pos (show nI L - (6 : Int32) < nI (6 * k) by rw [zl6, fa_lt, e, nI_toInt (by omega)]; omega)]
  | succ n ih =>
    intro k I A b h hk hl
    have e := pk_sub_toInt (a := L) (b := 6) (by omega) (by decide)
    by_cases c : 6 * k + 6 ≤ L
    · obtain ⟨I1, A1, b1, h1, h2⟩ := l_arms (L := L) (xs := xs) (b := b) (j := 6 * k) h (by omega) (by omega) hL c (xs (6 * k) &&& (63 : Int32))
      rw [B_law_18, show pm_lo (pm_od L xs) 0 = some (nI L) from rfl, zbS, if_neg (show ¬ nI L - (6 : Int32) < nI (6 * k) by rw [zl6, fa_lt, e, nI_toInt (by omega)]; omega), l_ro0 hL (by omega), zbS, h2, B_law_1272, zl6, nI_add, show 6 * k + 6 = 6 * (k + 1) by omega]
      exact ih (k + 1) I1 A1 b1 (by rw [show 7 + 24 * (k + 1) = 7 + 24 * k + 24 by omega]; exact h1) (by omega) (by omega)
    · refine ⟨I, A, b, ?_⟩
      rw [B_law_18, show pm_lo (pm_od L xs) 0 = some (nI L) from rfl, zbS, if_pos (show nI L - (6 : Int32) < nI (6 * k) by rw [zl6, fa_lt, e, nI_toInt (by omega)]; omega)]
theorem zal_le (k : Nat) : zal k ≤ 1320 := by
  unfold zal
  split <;> decide
theorem zfs_le {I : Nat → Nat → Int32} {b : Value} {k : Nat} {x : Nat × List Value} (h : zfs I b k = some x) : x.2.length ≤ 1320 := by
  unfold zfs at h
  split at h <;> cases h <;> exact Nat.le_of_ble_eq_true rfl
theorem zcell_sz (I A : Nat → Nat → Int32) (b : Value) (k : Nat) : pm_s1 (zcell I A b k) ≤ 1320 := by
  unfold zcell
  split
  · rename_i x h
    exact zfs_le h
  · split
    · exact Nat.le_of_ble_eq_true rfl
    · exact Nat.le_of_ble_eq_true rfl
    · exact Nat.le_of_ble_eq_true rfl
    · exact zal_le _
theorem sz_map (f : Nat → va_E) (h : ∀ k, pm_s1 (f k) ≤ 1320) : ∀ l : List Nat, pm_sz (l.map f) ≤ l.length * 1320
  | [] => Nat.zero_le _
  | k :: l => by
    have h1 := h k
    have h2 := sz_map f h l
    show pm_s1 (f k) + pm_sz (l.map f) ≤ (l.length + 1) * 1320
    omega
theorem zL_sz (I A : Nat → Nat → Int32) (b : Value) : pm_sz (zL I A b) ≤ 7302250 := by
  have := sz_map (zcell I A b) (zcell_sz I A b) (List.range 79)
  rw [List.length_range] at this
  unfold zL
  omega
theorem pm_goal_ok : pm_Goal := by
  intro L xs hL
  obtain ⟨I', A', b', h⟩ := l_loop (xs := xs) hL 512 0 zI0 zA0 .null Rel0 (by decide) (by omega)
  refine ⟨zL I' A' b', ?_, by rw [zL_len]; decide, zL_sz _ _ _⟩
  have e1 : pm_call L xs 60 0 [.ref 0] [zO7] = some (none, (zL zI0 zA0 .null).take 64) := by
    have := cf_call L xs 2 58 0 [.ref 0] [zO7] _ (init_eggs L xs)
    rw [zH1_eq] at this
    exact this
  have e2 : pm_call L xs 60 152 [.ref 64] ((zL zI0 zA0 .null).take 64 ++ [zO8]) = some (none, zL zI0 zA0 .null) := cf_call L xs 1 59 152 [.ref 64] _ _ (init_model L xs)
  have e3 : ((zL zI0 zA0 .null).take 64).length = 64 := by rw [List.length_take, zL_len]; rfl
  show zE L xs 60 K_law 0 [some (.retAddr 0), none, none, none] [] [] = _
  rw [B_law_0, e1, zbV, e3, e2, zbV]
  exact h
end
