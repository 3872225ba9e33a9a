/-! give -/
section
variable {L : Nat} {xs : Nat → Int32} {B : Nat} {g : Nat → Nat} {b : Value}
/-- how few without a THING -/
def gct (g : Nat → Nat) (t : Nat) : Nat := (dfs (kk hM) (lP g (some t)) g [] (8 * 4294967296, [])).1 / 4294967296
def gvf (g : Nat → Nat) : Nat → Option (Nat × Nat)
  | 0 => none
  | t + 1 => if gp g t < 3 then (match gvf g t with
    | none => some (t, gct g t)
    | some y => if gct g t < y.2 then some (t, gct g t) else some y) else gvf g t
theorem gvf_s (t : Nat) : gvf g (t + 1) = if gp g t < 3 then (match gvf g t with
    | none => some (t, gct g t)
    | some y => if gct g t < y.2 then some (t, gct g t) else some y) else gvf g t := rfl
def gv1 : Option (Nat × Nat) → Int32
  | none => -1000000
  | some y => nI y.1
def gv2 : Option (Nat × Nat) → Int32
  | none => -1000000
  | some y => nI y.2
def gvF : Option (Nat × Nat) → Nat
  | none => 8
  | some y => y.2
theorem dfs_7 {P : List Nat} (hW : Wok P g) : (dfs (kk hM) P g [] (8 * 4294967296, [])).1 < 8 * 4294967296 := by
  obtain ⟨s', h1, h2⟩ := dfs_some (κ := kk hM) (f := (dfs (kk hM) P g [] (8 * 4294967296, [])).1) P g hW
  have h3 := h2 (dfs_LB P g [] (8 * 4294967296, []))
  have h4 := gcnt_le h1.1
  have h5 := hM_lt s' h1.1
  unfold kk at h3
  unfold kk
  omega
theorem gct_le {t : Nat} (hW : Wok (lP g (some t)) g) : gct g t ≤ 7 := by
  have := dfs_7 hW
  unfold gct
  omega
theorem gvf_ok (hWt : ∀ t, Wok (lP g (some t)) g) : ∀ t y, gvf g t = some y → y.1 < t ∧ y.2 ≤ 7
  | 0, y, h => by cases h
  | t + 1, y, h => by
    have hg := gct_le (hWt t)
    have ih := gvf_ok hWt t
    rw [gvf_s] at h
    split at h
    · cases hf : gvf g t with
      | none =>
        rw [hf] at h
        dsimp only at h
        cases h
        exact ⟨Nat.lt_succ_self _, hg⟩
      | some z =>
        rw [hf] at h
        dsimp only at h
        have := ih z hf
        split at h
        · cases h
          exact ⟨Nat.lt_succ_self _, hg⟩
        · cases h
          exact ⟨by omega, this.2⟩
    · have := ih y h
      exact ⟨by omega, this.2⟩
/-- what the class has after some THINGS -/
def gR (g : Nat → Nat) (I0 A0 I A : Nat → Nat → Int32) (t : Nat) : Prop := wR I A g ∧ tR A 50 (lQ g) ∧ I 49 11 = nI (lQ g).length ∧ I 49 15 = gv1 (gvf g t) ∧ I 49 16 = gv2 (gvf g t) ∧ I 49 13 = nI (gvF (gvf g t)) ∧ (∀ o k, o ≠ 49 → I o k = I0 o k) ∧ ∀ q, (q < 50 ∨ 58 < q) → A q = A0 q
theorem c_tryWithout {I0 A0 I A : Nat → Nat → Int32} (hD : gD g) (hO : gO g) (hWt : ∀ t, Wok (lP g (some t)) g) {t : Nat} (ht : t < g 3) (hp : gp g t < 3) (hg : gR g I0 A0 I A t) : ∃ I' A', pm_call L xs 58 m_Ways_tryWithout [.ref 49, .int (nI t), .int (nI (gbroken g))] (zL I A b) = some (none, zL I' A' b) ∧ gR g I0 A0 I' A' (t + 1) := by
  have hW := hWt t
  have hB := hW.1
  have h7 := hB.1
  obtain ⟨g1, g2, g3, g4, g5, g6, g7, g8⟩ := hg
  have hP := lP_good hB hD (some t)
  have hP7 := hP.1
  have hQ : pGood (lQ g) := by have := lP_good hB hD none; rw [lP_none] at this; exact this
  obtain ⟨I1, A1, x1, x2, x3, x4, x5⟩ := c_packAllBut (L := L) (xs := xs) (b := b) hQ g2 g3 (nt := some t) (fun u h => by cases h; omega) 56
  have eP : ((lQ g).filter fun u => decide (some t ≠ some u)) = lP g (some t) := rfl
  rw [eP] at x2 x3
  have x1' : pm_call L xs 57 m_Ways_packAllBut [.ref 49, .int (nI t)] (zL I A b) = some (none, zL I1 A1 b) := x1
  obtain ⟨I2, hI2⟩ : ∃ I2, I2 = zuI I1 49 14 (1000000 : Int32) := ⟨_, rfl⟩
  have f2 : ∀ o k, ¬ (o = 49 ∧ (k = 12 ∨ k = 14)) → I2 o k = I o k := fun o k hk => by rw [hI2, zuI_at, if_neg (by omega), x4 o k (by omega)]
  have hR2 : wR I2 A1 g := g1.c (f2 49 9 (by omega)) (f2 49 10 (by omega)) (fun q q1 q2 => x5 q (by omega))
  obtain ⟨F, hF⟩ : ∃ F, F = gvF (gvf g t) := ⟨_, rfl⟩
  have hF8 : F ≤ 8 := by
    rw [hF]
    cases hv : gvf g t with
    | none => exact Nat.le_refl _
    | some y => have := (gvf_ok hWt t y hv).2; show y.2 ≤ 8; omega
  have hw2 : wA (I2 49 13) (I2 49 14) ((F * 4294967296 + 1000000, ([] : List Nat)).1) := by
    have e13 : I2 49 13 = nI F := by rw [f2 49 13 (by omega), g6, hF]
    have e14 : I2 49 14 = nI 1000000 := by rw [hI2, zuI_s]; rfl
    by_cases c : F = 8
    · exact Or.inl ⟨by dsimp only; omega, by rw [e13, c]⟩
    · exact Or.inr ⟨F, 1000000, by omega, by decide, rfl, e13, e14⟩
  obtain ⟨I4, A4, z1, z2, z3, z4, z5, z6, z7⟩ := c_goOn (L := L) (xs := xs) (b := b) hX_st hX_lt hX_mon hX_sym hP (lP g (some t)) g [] (F * 4294967296 + 1000000, []) I2 A1 (55 - (lP g (some t)).length) hW (by rw [List.length_nil]; omega) (fun j hj => by rw [List.length_nil, Nat.zero_add]) hR2 (by rw [hI2, zuI_n (by decide), x3]) x2 (fun j hj => absurd hj (Nat.not_lt_zero _)) hw2 (fun j hj => absurd hj (Nat.not_lt_zero _))
  rw [show 55 - (lP g (some t)).length + (lP g (some t)).length + 2 = 57 by omega, gO_bro hO] at z1
  have z1' : pm_call L xs 57 m_Ways_goOn [.ref 49, .int (0 : Int32), .int (nI (gbroken g)), .int (1000000 : Int32)] (zL I2 A1 b) = some (none, zL I4 A4 b) := z1
  have tw : Tw F (8 * 4294967296, ([] : List Nat)) (F * 4294967296 + 1000000, ([] : List Nat)) := ⟨8, 0, by decide, by dsimp only, by rw [if_pos hF8]⟩
  obtain ⟨f1, l1, w1, w2, w3⟩ := dfs_two (lP g (some t)) g [] [] _ _ hW tw
  have hd7 := dfs_7 hW
  have ef : gct g t = f1 := by unfold gct; omega
  rw [w3] at z4
  obtain ⟨q1, -⟩ := wA_fix z4 (by split <;> omega) (by decide)
  rw [← ef] at q1
  have hf7 : gct g t ≤ 7 := gct_le hW
  have fr4 : ∀ o k, ¬ (o = 49 ∧ (k = 12 ∨ k = 13 ∨ k = 14)) → I4 o k = I o k := fun o k hk => by rw [z6 o k (by omega), f2 o k (by omega)]
  have frA : ∀ q, (q < 50 ∨ 58 < q) → A4 q = A0 q := fun q hq => by rw [z7 q (by omega) (by omega) (by omega) (by omega) (by omega), x5 q (by omega), g8 q hq]
  have t50 : tR A4 50 (lQ g) := g2.c (by rw [z7 50 (by decide) (by decide) (by decide) (by decide) (by decide), x5 50 (by decide)])
  have i15 : I4 49 15 = gv1 (gvf g t) := by rw [fr4 49 15 (by omega), g4]
  have i16 : I4 49 16 = gv2 (gvf g t) := by rw [fr4 49 16 (by omega), g5]
  rw [show pm_call L xs 58 m_Ways_tryWithout [.ref 49, .int (nI t), .int (nI (gbroken g))] (zL I A b) = zE L xs 57 K_Ways_tryWithout 0 [some (.ref 49), some (.int (nI t)), some (.int (nI (gbroken g)))] [] (zL I A b) from D_Ways_tryWithout L xs 57 I A b (nI t) (nI (gbroken g)), B_Ways_tryWithout_0, x1', zbV, zp_49_14, zbS, ← hI2, z1', zbV, zg_49_15, zbS, i15]
  have take : gvf g (t + 1) = some (t, gct g t) → I4 49 13 = nI (gct g t) → gR g I0 A0 (zuI (zuI I4 49 15 (nI t)) 49 16 (I4 49 13)) A4 (t + 1) := by
    intro e1 e2
    refine ⟨z2.c (by rw [zuI_n (by decide), zuI_n (by decide)]) (by rw [zuI_n (by decide), zuI_n (by decide)]) (fun _ _ _ => rfl), t50, by rw [zuI_n (by decide), zuI_n (by decide), fr4 49 11 (by omega), g3], ?_, ?_, ?_, fun o k ho => by rw [zuI_o ho, zuI_o ho, fr4 o k (by omega), g7 o k ho], frA⟩
    · rw [zuI_n (by decide), zuI_s, e1]; rfl
    · rw [zuI_s, e1, e2]; rfl
    · rw [zuI_n (by decide), zuI_n (by decide), e2, e1]; rfl
  have e13 : ∀ x : Int32, zuI I4 49 15 x 49 13 = I4 49 13 := fun x => zuI_n (by decide)
  have step := gvf_s (g := g) t
  rw [if_pos hp] at step
  cases hv : gvf g t with
  | none =>
    rw [hv] at step hF
    dsimp only at step
    have hF' : F = 8 := hF
    rw [show gv1 none = (-1000000 : Int32) from rfl, if_pos rfl, zp_49_15, zbS, zg_49_13, zbS, zp_49_16, zbS, e13]
    exact ⟨_, _, rfl, take step (by rw [q1, if_neg (by omega)])⟩
  | some y =>
    rw [hv] at step hF i15 i16
    dsimp only at step
    have hF' : F = y.2 := hF
    obtain ⟨y1, y2⟩ := gvf_ok hWt t y hv
    rw [show gv1 (some y) = nI y.1 from rfl, if_neg (zNn (by omega)), zg_49_13, zbS, zg_49_16, zbS, i16, show gv2 (some y) = nI y.2 from rfl]
    by_cases c : gct g t < y.2
    · have e2 : I4 49 13 = nI (gct g t) := by rw [q1, if_neg (by omega)]
      rw [if_pos c] at step
      rw [if_neg (show ¬ nI y.2 ≤ I4 49 13 by rw [e2]; exact nI_ge c (by omega)), zp_49_15, zbS, zg_49_13, zbS, zp_49_16, zbS, e13]
      exact ⟨_, _, rfl, take step e2⟩
    · have e2 : I4 49 13 = nI y.2 := by rw [q1, if_pos (by omega), hF']
      rw [if_neg c] at step
      rw [if_pos (show nI y.2 ≤ I4 49 13 by rw [e2]; exact nI_le (Nat.le_refl _) (by omega))]
      refine ⟨I4, A4, rfl, z2, t50, by rw [fr4 49 11 (by omega), g3], by rw [i15, step], by rw [i16, step], by rw [e2, step]; rfl, fun o k ho => by rw [fr4 o k (by omega), g7 o k ho], frA⟩
theorem c_seekGive {I A : Nat → Nat → Int32} (hc : cR I A 15 g) (hB : gB g) (hD : gD g) (hO : gO g) (hWt : ∀ t, Wok (lP g (some t)) g) : ∃ I' A', pm_call L xs 59 m_Ways_seekGive [.ref 49, .ref 15] (zL I A b) = some (none, zL I' A' b) ∧ gR g I A I' A' (g 3) := by
  have h7 := hB.1
  obtain ⟨I1, A1, x1, x2, x3, x4, x5, x6⟩ := c_begin (L := L) (xs := xs) (b := b) hB hD hc 53
  rw [show pm_call L xs 59 m_Ways_seekGive [.ref 49, .ref 15] (zL I A b) = zE L xs 58 K_Ways_seekGive 0 [some (.ref 49), some (.ref 15), none] [] (zL I A b) from D_Ways_seekGive L xs 58 I A b 15, B_Ways_seekGive_0, x1, zbV, zp_49_15, zbS, zp_49_16, zbS, zp_49_13, zbS]
  obtain ⟨I2, hI2⟩ : ∃ I2, I2 = zuI (zuI (zuI I1 49 15 (-1000000 : Int32)) 49 16 (-1000000 : Int32)) 49 13 (8 : Int32) := ⟨_, rfl⟩
  rw [← hI2]
  have f2 : ∀ k, k ≠ 13 → k ≠ 15 → k ≠ 16 → I2 49 k = I1 49 k := fun k a c e => by rw [hI2, zuI_n a, zuI_n e, zuI_n c]
  have g0 : gR g I A I2 A1 0 := by
    refine ⟨x2.c (f2 9 (by decide) (by decide) (by decide)) (f2 10 (by decide) (by decide) (by decide)) (fun _ _ _ => rfl), x3, by rw [f2 11 (by decide) (by decide) (by decide), x4], ?_, ?_, ?_, fun o k ho => by rw [hI2, zuI_o ho, zuI_o ho, zuI_o ho, x5 o k ho], x6⟩
    · rw [hI2, zuI_n (by decide), zuI_n (by decide), zuI_s]; rfl
    · rw [hI2, zuI_n (by decide), zuI_s]; rfl
    · rw [hI2, zuI_s]; rfl
  have key : ∀ t, t ≤ g 3 → ∃ I' A', zE L xs 58 K_Ways_seekGive 25 [some (.ref 49), some (.ref 15), some (.int (0 : Int32))] [] (zL I2 A1 b) = zE L xs 58 K_Ways_seekGive 25 [some (.ref 49), some (.ref 15), some (.int (nI t))] [] (zL I' A' b) ∧ gR g I A I' A' t := by
    intro t
    induction t with
    | zero => intro _; exact ⟨I2, A1, rfl, g0⟩
    | succ t ih =>
      intro ht
      have ht3 : t < g 3 := by omega
      obtain ⟨I3, A3, e1, e2⟩ := ih (by omega)
      have hc3 : cR I3 A3 15 g := hc.c (funext fun k => e2.2.2.2.2.2.2.1 15 k (by decide)) (fun q _ _ => e2.2.2.2.2.2.2.2 q (by omega))
      rw [e1, B_Ways_seekGive_25, hc3.n, zbS, if_neg (nI_ge ht3 (by omega)), zSr4 hc3.1, zbS, hc3.place hB b ht3, zbS]
      by_cases c : gp g t < 3
      · obtain ⟨I4, A4, y1, y2⟩ := c_tryWithout (L := L) (xs := xs) (b := b) hD hO hWt ht3 c e2
        rw [if_neg (by rw [zl3]; exact nI_ge c (by decide)), hc3.crushed, zbS, y1, zbV, nI_1]
        exact ⟨I4, A4, rfl, y2⟩
      · have hs : gvf g (t + 1) = gvf g t := by rw [gvf_s, if_neg c]
        rw [if_pos (by rw [zl3]; exact nI_le (by omega) (gbl hB _)), nI_1]
        refine ⟨I3, A3, rfl, ?_⟩
        unfold gR at e2 ⊢
        rw [hs]
        exact e2
  obtain ⟨I3, A3, e1, e2⟩ := key (g 3) (Nat.le_refl _)
  have hc3 : cR I3 A3 15 g := hc.c (funext fun k => e2.2.2.2.2.2.2.1 15 k (by decide)) (fun q _ _ => e2.2.2.2.2.2.2.2 q (by omega))
  refine ⟨I3, A3, ?_, e2⟩
  rw [e1, B_Ways_seekGive_25, hc3.n, zbS, if_pos (nI_le (Nat.le_refl _) (by omega))]
theorem m_giveL {I A : Nat → Nat → Int32} (hm : mR A 68 g) (hB : gB g) (hD : gD g) (hWt : ∀ t, Wok (lP g (some t)) g) (w : Int32) : ∃ I' A', zE L xs 59 K_Model_give 37 [some (.ref 64), some (.int w), some (.int (-1000000 : Int32)), some (.int (-1000000 : Int32)), some (.int (0 : Int32)), none] [] (zL I A b) = some (some (.int (if ¬ w = 0 then gv2 (gvf g (g 3)) else gv1 (gvf g (g 3)))), zL I' A' b) ∧ (∀ o k, ¬ (o = 64 ∧ 20 ≤ k ∧ k ≤ 23) → I' o k = I o k) ∧ ∀ q, q ≠ 70 → q ≠ 73 → A' q = A q := by
  have h7 := hB.1
  have key : ∀ t, t ≤ g 3 → ∃ I' A' y5, zE L xs 59 K_Model_give 37 [some (.ref 64), some (.int w), some (.int (-1000000 : Int32)), some (.int (-1000000 : Int32)), some (.int (0 : Int32)), none] [] (zL I A b) = zE L xs 59 K_Model_give 37 [some (.ref 64), some (.int w), some (.int (gv1 (gvf g t))), some (.int (gv2 (gvf g t))), some (.int (nI t)), y5] [] (zL I' A' b) ∧ (∀ o k, ¬ (o = 64 ∧ 20 ≤ k ∧ k ≤ 23) → I' o k = I o k) ∧ ∀ q, q ≠ 70 → q ≠ 73 → A' q = A q := by
    intro t
    induction t with
    | zero => intro _; exact ⟨I, A, none, rfl, fun _ _ _ => rfl, fun _ _ _ => rfl⟩
    | succ t ih =>
      intro ht
      have ht3 : t < g 3 := by omega
      obtain ⟨I1, A1, y5, e1, e2, e3⟩ := ih (by omega)
      have hm1 : mR A1 68 g := hm.c (e3 68 (by decide) (by decide))
      have m3 : pm_call L xs 59 m_Model_of [.ref 68, .int (nI t), .int (3 : Int32)] (zL I1 A1 b) = some (some (.int (nI (gp g t))), zL I1 A1 b) := m_of' L xs 58 I1 b hm1 zl3 (show t < 7 by omega) (show 3 < 7 by decide)
      rw [e1, B_Model_give_37, zr_64_5, zbS, m_rd' I1 b hm1 zl3 (show 3 < 55 by decide), zbS, if_neg (nI_ge ht3 (by omega)), zbS, m3, zbI]
      dsimp only
      have step := gvf_s (g := g) t
      by_cases c : gp g t < 3
      · obtain ⟨I2, A2, x1, ⟨v, cc, h, v1, c1, h1, x2, x3, x4, x5⟩, x6, x7, x8, x9⟩ := m_seekLeast (L := L) (xs := xs) (I := I1) (A := A1) (b := b) hm1 hD (nt := some t) (fun u q => by cases q; omega) (hWt t) 53
        have x1' : pm_call L xs 59 m_Model_seekLeast [.ref 64, .int (nI t)] (zL I1 A1 b) = some (none, zL I2 A2 b) := x1
        have ec : gct g t = cc := by unfold gct; rw [x2]; dsimp only; omega
        have f1 : ∀ o k, ¬ (o = 64 ∧ 20 ≤ k ∧ k ≤ 23) → I2 o k = I o k := fun o k hk => by rw [x8 o k hk, e2 o k hk]
        have f2 : ∀ q, q ≠ 70 → q ≠ 73 → A2 q = A q := fun q q1 q2 => by rw [x9 q q1 q2, e3 q q1 q2]
        rw [if_pos c] at step
        rw [if_neg (by rw [zl3]; exact nI_ge c (by decide)), x1', zbV]
        cases hv : gvf g t with
        | none =>
          rw [hv] at step
          dsimp only at step
          rw [show gv1 none = (-1000000 : Int32) from rfl, if_pos rfl, zg_64_22, zbS, x4, nI_1, step, ← ec]
          exact ⟨I2, A2, _, rfl, f1, f2⟩
        | some y =>
          rw [hv] at step
          dsimp only at step
          obtain ⟨y1, y2⟩ := gvf_ok hWt t y hv
          rw [show gv1 (some y) = nI y.1 from rfl, show gv2 (some y) = nI y.2 from rfl, if_neg (zNn (by omega)), zg_64_22, zbS, x4, ← ec]
          by_cases c2 : gct g t < y.2
          · rw [if_pos c2] at step
            rw [if_neg (nI_ge c2 (by omega)), zbS, nI_1, step]
            exact ⟨I2, A2, _, rfl, f1, f2⟩
          · rw [if_neg c2] at step
            rw [if_pos (nI_le (by omega) (by omega)), nI_1, step]
            exact ⟨I2, A2, _, rfl, f1, f2⟩
      · rw [if_neg c] at step
        rw [if_pos (by rw [zl3]; exact nI_le (by omega) (gbl hB _)), nI_1, step]
        exact ⟨I1, A1, _, rfl, e2, e3⟩
  obtain ⟨I1, A1, y5, e1, e2, e3⟩ := key (g 3) (Nat.le_refl _)
  have hm1 : mR A1 68 g := hm.c (e3 68 (by decide) (by decide))
  refine ⟨I1, A1, ?_, e2, e3⟩
  rw [e1, B_Model_give_37, zr_64_5, zbS, m_rd' I1 b hm1 zl3 (show 3 < 55 by decide), zbS, if_pos (nI_le (Nat.le_refl _) (by omega))]
  by_cases c : w = 0
  · rw [if_neg (fun q => q c), if_neg (fun q => q c)]
  · rw [if_pos c, if_pos c]
theorem P_give {I A : Nat → Nat → Int32} (h : Rel B I A) (hB2 : B + 7 < 2 ^ 20) (w : Int32) : zOk L xs B m_Eggs_give m_Model_give [.int w] I A b := by
  have hw := h
  obtain ⟨g, -, -, -, -, hS, -, -⟩ := hw
  obtain ⟨hc, hm, hI⟩ := hS
  have hB := hI.1
  have hD := hI.2.1
  have hO := hI.2.2.2.1
  have m0 : (0 : Int32).toInt = 0 := rfl
  have m1 : (1 : Int32).toInt = 1 := rfl
  by_cases h0 : 0 < g 0
  · by_cases c1 : 0 ≤ w ∧ w ≤ 1
    · have hWt := fun t => Wok_of hI h0 hB2 (some t)
      obtain ⟨I1, A1, x1, -, -, -, x5, x6, -, x8, x9⟩ := c_seekGive (L := L) (xs := xs) (b := b) hc hB hD hO hWt
      have hm1 : mR A1 68 g := hm.c (x9 68 (by omega))
      obtain ⟨I2, A2, y1, y2, y3⟩ := m_giveL (L := L) (xs := xs) (I := zuI I1 64 0 0) (A := A1) (b := b) hm1 hB hD hWt w
      have hs1 : zSame I A I1 A1 := ⟨fun o k hk => x8 o k (fun q => by rw [q] at hk; simp [zKI] at hk), fun q hq => x9 q (by simp [zKA] at hq; omega), by rw [x9 60 (by omega)], by rw [x9 61 (by omega)]⟩
      have hs2 : zSame I1 A1 I2 A2 := by
        refine ⟨fun o k hk => ?_, fun q hq => y3 q (fun q2 => by rw [q2] at hq; simp [zKA] at hq) (fun q2 => by rw [q2] at hq; simp [zKA] at hq), by rw [y3 60 (by decide) (by decide)], by rw [y3 61 (by decide) (by decide)]⟩
        rw [y2 o k (fun q => by obtain ⟨q1, q2, q3⟩ := q; rw [q1] at hk; simp [zKI] at hk; omega), zuI_at, if_neg (zKI_0 hk)]
      refine zOk.scr (b1 := b) (r := if ¬ w = 0 then gv2 (gvf g (g 3)) else gv1 (gvf g (g 3))) h ?_ hs1 ?_ hs2
      · rw [D_Eggs_give, B_Eggs_give_0, zr_0_2, zbS, c_stands L xs 58 b hc hB, zbI]
        dsimp only
        rw [if_pos h0, if_pos (by decide), if_neg (show ¬ w < 0 by rw [fa_lt]; rw [fa_le] at c1; omega), if_pos c1.2, zr_0_6, zbS, zr_0_2, zbS, x1, zbV]
        by_cases q : w = 0
        · rw [if_neg (fun q2 => q2 q), if_neg (fun q2 => q2 q), zr_0_6, zbS, zg_49_15, zbS, x5]
        · rw [if_pos q, if_pos q, zr_0_6, zbS, zg_49_16, zbS, x6]
      · rw [D_Model_give, B_Model_give_0, zp_64_0, zbS, m_isThere L xs 58 _ b hm1 hB, zbI]
        dsimp only
        rw [if_pos h0, if_pos (by decide), m_in L xs 58, zbI]
        dsimp only
        rw [if_pos c1, if_pos (by decide)]
        exact y1
    · refine zOk.pure (r := -1000001) h ?_ ?_
      · rw [D_Eggs_give, B_Eggs_give_0, zr_0_2, zbS, c_stands L xs 58 b hc hB, zbI]
        dsimp only
        rw [if_pos h0, if_pos (by decide)]
        by_cases q : w < 0
        · rw [if_pos q]
        · rw [if_neg q, if_neg (fun q2 => c1 ⟨by rw [fa_le]; rw [fa_lt] at q; omega, q2⟩)]
      · rw [D_Model_give, B_Model_give_0, zp_64_0, zbS, m_isThere L xs 58 _ b hm hB, zbI]
        dsimp only
        rw [if_pos h0, if_pos (by decide), m_in L xs 58, zbI]
        dsimp only
        rw [if_neg c1, if_neg (fun q => q rfl)]
  · refine zOk.pure (r := -1000002) h ?_ ?_
    · rw [D_Eggs_give, B_Eggs_give_0, zr_0_2, zbS, c_stands L xs 58 b hc hB, zbI]
      dsimp only
      rw [if_neg h0, if_neg (fun q => q rfl)]
    · rw [D_Model_give, B_Model_give_0, zp_64_0, zbS, m_isThere L xs 58 _ b hm hB, zbI]
      dsimp only
      rw [if_neg h0, if_neg (fun q => q rfl)]
end
