/-! bits, crush, packs, beep, isWarm, allWeigh, heaviest of the reference -/
def zpc (a : Nat) : Nat := zS (fun k => a / 2 ^ k % 2) 7
theorem zgw_lt {g : Nat → Nat} (hB : gB g) (c : Nat) : gweighs g c < 2 ^ 24 := by
  have := zS_le (f := fun t => if gp g t = 3 + c then gw g t else 0) (c := 2 ^ 20) (g 3) (fun k _ => by
    have := hB.2.2.1 (6 + 7 * k + 1)
    split
    · show g (6 + 7 * k + 1) ≤ _; omega
    · omega)
  have hn := hB.1
  have h7 : g 3 * 2 ^ 20 ≤ 7 * 2 ^ 20 := Nat.mul_le_mul_right _ hn
  unfold gweighs
  omega
theorem zgpress_lt {g : Nat → Nat} (hB : gB g) (t : Nat) : gpress g t < 2 ^ 21 := by
  have := hB.2.2.1 (6 + 7 * t + 1)
  unfold gpress kpress gw
  split
  · omega
  · split
    · omega
    · split
      · omega
      · split <;> omega
theorem zgload_lt {g : Nat → Nat} (hB : gB g) (t : Nat) : gload g t < 2 ^ 24 := by
  have := zS_le (f := fun o => if (decide (3 ≤ gp g t) && gab g o t) = true then gpress g o else 0) (c := 2 ^ 21) (g 3) (fun k _ => by
    have := zgpress_lt hB k
    split <;> omega)
  have hn := hB.1
  have h7 : g 3 * 2 ^ 21 ≤ 7 * 2 ^ 21 := Nat.mul_le_mul_right _ hn
  unfold gload
  omega
theorem zgbears_le {g : Nat → Nat} (t : Nat) : gbears g t ≤ 60 := by
  unfold gbears kbears
  split
  · omega
  · split
    · omega
    · split
      · omega
      · split <;> omega
section
variable {A : Nat → Nat → Int32} {q : Nat} {g : Nat → Nat} (L : Nat) (xs : Nat → Int32) (d : Nat) (I : Nat → Nat → Int32) (b : Value)
theorem m_bits {a : Nat} (ha : a < 2 ^ 31) (σ : pm_H) : pm_call L xs (d + 1) m_Model_bits [.int (nI a)] σ = some (some (.int (nI (zpc a))), σ) := by
  rw [C_Model_bits, B_Model_bits_0]
  refine (zloop (fun k c => zE L xs d K_Model_bits 4 [some (.int (nI a)), some (.int c), some (.int k)] [] σ) (fun k c => c + nI (a / 2 ^ k % 2)) 7 (fun c => some (some (.int c), σ)) (fun k c hk => ?_) (fun c => ?_) 0).trans ?_
  · rw [B_Model_bits_4, zl7, if_neg (nI_ge hk (by omega)), zbit ha (by omega)]
  · rw [B_Model_bits_4, zl7, if_pos (nI_le (Nat.le_refl _) (by omega))]
  · rw [zl0, zF_sum (fun k => a / 2 ^ k % 2) _ _ (fun k _ => rfl)]
    rfl
/-- crushed so far -/
def gcr (g : Nat → Nat) : Nat → Nat → Nat
  | 0 => g
  | k + 1 => gu (gcr g k) (6 + 7 * k + 5) (if gbears g k < gload g k then 1 else g (6 + 7 * k + 5))
theorem gcr_n {g : Nat → Nat} : ∀ (k j : Nat), (∀ t, t < k → j ≠ 6 + 7 * t + 5) → gcr g k j = g j
  | 0, _, _ => rfl
  | k + 1, j, h => by
    show gu (gcr g k) _ _ j = _
    rw [gu_n (h k (by omega)), gcr_n k j (fun t ht => h t (by omega))]
theorem gcr_hi {g : Nat → Nat} (k t : Nat) (h : k ≤ t) : gcr g k (6 + 7 * t + 5) = g (6 + 7 * t + 5) := gcr_n k _ (fun u hu => by omega)
theorem gcr_w {g : Nat → Nat} (k t w : Nat) (hw : w < 7) (h5 : w ≠ 5) : gcr g k (6 + 7 * t + w) = g (6 + 7 * t + w) := gcr_n k _ (fun u hu => by omega)
theorem gcr_h {g : Nat → Nat} (k j : Nat) (hj : j < 6) : gcr g k j = g j := gcr_n k _ (fun u hu => by omega)
theorem gcr_press {g : Nat → Nat} (k t : Nat) : gpress (gcr g k) t = gpress g t := by unfold gpress; rw [show gk (gcr g k) t = gk g t from gcr_w k t 0 (by decide) (by decide), show gw (gcr g k) t = gw g t from gcr_w k t 1 (by decide) (by decide)]
theorem gcr_bears {g : Nat → Nat} (k t : Nat) : gbears (gcr g k) t = gbears g t := by unfold gbears; rw [show gk (gcr g k) t = gk g t from gcr_w k t 0 (by decide) (by decide), show gs (gcr g k) t = gs g t from gcr_w k t 2 (by decide) (by decide)]
theorem gcr_ab {g : Nat → Nat} (k o t : Nat) : gab (gcr g k) o t = gab g o t := by
  unfold gab
  rw [show gp (gcr g k) o = gp g o from gcr_w k o 3 (by decide) (by decide), show gp (gcr g k) t = gp g t from gcr_w k t 3 (by decide) (by decide), show go (gcr g k) o = go g o from gcr_w k o 4 (by decide) (by decide), show go (gcr g k) t = go g t from gcr_w k t 4 (by decide) (by decide)]
theorem gcr_load {g : Nat → Nat} (k t : Nat) : gload (gcr g k) t = gload g t := by
  unfold gload
  rw [gcr_h k 3 (by decide)]
  apply zS_congr
  intro o _
  rw [gcr_ab, gcr_press, show gp (gcr g k) t = gp g t from gcr_w k t 3 (by decide) (by decide)]
theorem gcr_B {g : Nat → Nat} (hB : gB g) : ∀ k, gB (gcr g k)
  | 0 => hB
  | k + 1 => by
    have ih := gcr_B hB k
    refine ⟨by rw [gcr_h (k + 1) 3 (by decide)]; exact hB.1, by rw [gcr_h (k + 1) 0 (by decide)]; exact hB.2.1, fun j => ?_, fun t ht => ?_⟩
    · show gu (gcr g k) _ _ j < _
      unfold gu
      split
      · split
        · decide
        · exact hB.2.2.1 _
      · exact ih.2.2.1 j
    · show gcr g (k + 1) (6 + 7 * t + 2) ≤ 9
      rw [gcr_w (k + 1) t 2 (by decide) (by decide)]
      exact hB.2.2.2 t ht
theorem m_crush (hR : mR A q g) (hB : gB g) : ∃ A', pm_call L xs (d + 4) m_Model_crush [.ref q] (zL I A b) = some (none, zL I A' b) ∧ mR A' q (gcr g (g 3)) ∧ ∀ q', q' ≠ q → A' q' = A q' := by
  rw [C_Model_crush, B_Model_crush_0]
  have hn := hB.1
  have key : ∀ k, k ≤ g 3 → ∃ A', zE L xs (d + 3) K_Model_crush 2 [some (.ref q), some (.int 0)] [] (zL I A b) = zE L xs (d + 3) K_Model_crush 2 [some (.ref q), some (.int (nI k))] [] (zL I A' b) ∧ mR A' q (gcr g k) ∧ ∀ q', q' ≠ q → A' q' = A q' := by
    intro k
    induction k with
    | zero => intro _; exact ⟨A, rfl, hR, fun _ _ => rfl⟩
    | succ k ih =>
      intro hk
      obtain ⟨A1, e1, h1, h2⟩ := ih (by omega)
      have hB1 := gcr_B hB k
      rw [e1, B_Model_crush_2]
      have f1 : pm_rd 0 (zL I A1 b) q (3 : Int32) = some (nI (g 3)) := by rw [zl3, m_rd I b h1 (by decide), gcr_h k 3 (by decide)]
      have f2 := m_loadOf L xs d I b h1 hB1 (show k < 7 by omega)
      have f3 := m_bears L xs (d + 1) I b h1 hB1 (show k < 7 by omega)
      have f4 : pm_call L xs (d + 3) m_Model_of [.ref q, .int (nI k), .int (5 : Int32)] (zL I A1 b) = some (some (.int (nI (g (6 + 7 * k + 5)))), zL I A1 b) := by rw [zl5, m_of L xs (d + 2) I b h1 (show k < 7 by omega) (show 5 < 7 by decide), gcr_hi k k (Nat.le_refl _)]
      have f5 : ((6 : Int32) + ((7 : Int32) * nI k)) + (5 : Int32) = nI (6 + 7 * k + 5) := by rw [zl6, zl7, zl5, pk_mul, nI_add, nI_add]
      have hl := zgload_lt hB k
      have hb := zgbears_le (g := g) k
      simp only [f1, zbS, f2, f3, f4, zbI, f5, gcr_load, gcr_bears, znL (show g 3 < 2 ^ 31 by omega) (show k < 2 ^ 31 by omega), znL (show gload g k < 2 ^ 31 by omega) (show gbears g k < 2 ^ 31 by omega), m_wr I b h1 (show 6 + 7 * k + 5 < 55 by omega), nI_1]
      rw [if_neg (show ¬ g 3 ≤ k by omega)]
      by_cases c : gload g k ≤ gbears g k
      · rw [if_pos c]
        refine ⟨_, rfl, ?_, fun q' hq' => by rw [zuA_o hq', h2 q' hq']⟩
        have h3 := h1.set (6 + 7 * k + 5) (g (6 + 7 * k + 5))
        have e3 : gcr g (k + 1) = gu (gcr g k) (6 + 7 * k + 5) (g (6 + 7 * k + 5)) := by
          show gu (gcr g k) _ _ = _
          rw [if_neg (by omega)]
        rw [e3]
        exact h3
      · rw [if_neg c]
        refine ⟨_, rfl, ?_, fun q' hq' => by rw [zuA_o hq', h2 q' hq']⟩
        have h3 := h1.set (6 + 7 * k + 5) 1
        have e3 : gcr g (k + 1) = gu (gcr g k) (6 + 7 * k + 5) 1 := by
          show gu (gcr g k) _ _ = _
          rw [if_pos (by omega)]
        rw [e3, zl1]
        exact h3
  obtain ⟨A', e1, h1, h2⟩ := key (g 3) (Nat.le_refl _)
  refine ⟨A', ?_, h1, h2⟩
  rw [e1, B_Model_crush_2]
  have f1 : pm_rd 0 (zL I A' b) q (3 : Int32) = some (nI (g 3)) := by rw [zl3, m_rd I b h1 (by decide), gcr_h _ 3 (by decide)]
  simp only [f1, zbS]
  rw [if_pos (nI_le (Nat.le_refl _) (by omega))]
theorem m_allWeigh (hR : mR A q g) (hB : gB g) : pm_call L xs (d + 3) m_Model_allWeigh [.ref q] (zL I A b) = some (some (.int (nI (zS (gweighs g) (g 0)))), zL I A b) := by
  rw [C_Model_allWeigh, B_Model_allWeigh_0]
  have hn := hB.2.1
  refine (zloop (fun k a => zE L xs (d + 2) K_Model_allWeigh 4 [some (.ref q), some (.int a), some (.int k)] [] (zL I A b)) (fun c a => a + nI (gweighs g c)) (g 0) (fun a => some (some (.int a), zL I A b)) (fun o a ho => ?_) (fun a => ?_) 0).trans ?_
  · rw [B_Model_allWeigh_4]
    have f1 : pm_rd 0 (zL I A b) q (0 : Int32) = some (nI (g 0)) := by rw [zl0]; exact m_rd I b hR (by decide)
    simp only [f1, zbS, m_weighs L xs d I b hR hB (show o < 2 ^ 30 by omega), zbI]
    rw [if_neg (nI_ge ho (by omega))]
  · rw [B_Model_allWeigh_4]
    have f1 : pm_rd 0 (zL I A b) q (0 : Int32) = some (nI (g 0)) := by rw [zl0]; exact m_rd I b hR (by decide)
    simp only [f1, zbS]
    rw [if_pos (nI_le (Nat.le_refl _) (by omega))]
  · rw [zl0, zF_sum (gweighs g) _ _ (fun k _ => rfl)]
/-- the heaviest BAG -/
def gmost (g : Nat → Nat) : Nat → Nat
  | 0 => 0
  | n + 1 => if gmost g n < gweighs g n then gweighs g n else gmost g n
theorem gmost_lt {g : Nat → Nat} (hB : gB g) : ∀ n, gmost g n < 2 ^ 24
  | 0 => by show 0 < 2 ^ 24; decide
  | n + 1 => by
    have := gmost_lt hB n
    have := zgw_lt hB n
    unfold gmost
    split <;> omega
theorem m_heaviest (hR : mR A q g) (hB : gB g) : pm_call L xs (d + 3) m_Model_heaviest [.ref q] (zL I A b) = some (some (.int (nI (gmost g (g 0)))), zL I A b) := by
  rw [C_Model_heaviest, B_Model_heaviest_0]
  have hn := hB.2.1
  have f1 : pm_rd 0 (zL I A b) q (0 : Int32) = some (nI (g 0)) := by rw [zl0]; exact m_rd I b hR (by decide)
  have key : ∀ k, k ≤ g 0 → zE L xs (d + 2) K_Model_heaviest 4 [some (.ref q), some (.int 0), some (.int 0)] [] (zL I A b) = zE L xs (d + 2) K_Model_heaviest 4 [some (.ref q), some (.int (nI (gmost g k))), some (.int (nI k))] [] (zL I A b) := by
    intro k
    induction k with
    | zero => intro _; rfl
    | succ k ih =>
      intro hk
      have h1 := gmost_lt hB k
      have h2 := zgw_lt hB k
      rw [ih (by omega), B_Model_heaviest_4]
      simp only [f1, zbS, m_weighs L xs d I b hR hB (show k < 2 ^ 30 by omega), zbI, znL (show g 0 < 2 ^ 31 by omega) (show k < 2 ^ 31 by omega), znL (show gweighs g k < 2 ^ 31 by omega) (show gmost g k < 2 ^ 31 by omega), nI_1]
      rw [if_neg (show ¬ g 0 ≤ k by omega)]
      by_cases c : gmost g k < gweighs g k
      · rw [if_neg (by omega), show gmost g (k + 1) = gweighs g k from if_pos c]
      · rw [if_pos (by omega), show gmost g (k + 1) = gmost g k from if_neg c]
  rw [key (g 0) (Nat.le_refl _), B_Model_heaviest_4]
  simp only [f1, zbS]
  rw [if_pos (nI_le (Nat.le_refl _) (by omega))]
/-- warm -/
def gwarm (g : Nat → Nat) (t : Nat) : Bool := decide (gk g t = 5) && (decide (gp g t ≠ 0) && decide (g 2 + gi g t ≤ g 4))
theorem m_isWarm (hR : mR A q g) (hB : gB g) {t : Nat} (ht : t < 7) : pm_call L xs (d + 2) m_Model_isWarm [.ref q, .int (nI t)] (zL I A b) = some (some (.int (if gwarm g t = true then 1 else 0)), zL I A b) := by
  rw [C_Model_isWarm, B_Model_isWarm_0]
  have h0 := hB.2.2.1 (6 + 7 * t + 0)
  have h3 := hB.2.2.1 (6 + 7 * t + 3)
  have h6 := hB.2.2.1 (6 + 7 * t + 6)
  have h4 := hB.2.2.1 4
  have h2 := hB.2.2.1 2
  simp only [zl0, zl1, zl2, zl3, zl4, zl5, zl6]
  simp only [m_of L xs d I b hR ht (show 0 < 7 by decide), m_of L xs d I b hR ht (show 3 < 7 by decide), m_of L xs d I b hR ht (show 6 < 7 by decide), m_rd I b hR (show 4 < 55 by decide), m_rd I b hR (show 2 < 55 by decide), zbI, zbS, znI (show g (6 + 7 * t + 0) < 2 ^ 31 by omega) (show 5 < 2 ^ 31 by decide), znI (show g (6 + 7 * t + 3) < 2 ^ 31 by omega) (show 0 < 2 ^ 31 by decide)]
  have e1 : (nI (g 4) - nI (g (6 + 7 * t + 6)) < nI (g 2)) = (¬ g 2 + gi g t ≤ g 4) := by
    apply propext
    rw [fa_lt, pk_sub_toInt (by omega) (by omega), nI_toInt (by omega)]
    show _ ↔ ¬ g 2 + g (6 + 7 * t + 6) ≤ g 4
    omega
  simp only [e1]
  unfold gwarm
  by_cases c1 : gk g t = 5
  · rw [if_neg (fun h => h c1)]
    by_cases c2 : gp g t = 0
    · rw [if_pos c2]
      simp [c2]
    · rw [if_neg c2]
      by_cases c3 : g 2 + gi g t ≤ g 4
      · rw [if_neg (fun h => h c3)]
        simp [c1, c2, c3]
      · rw [if_pos c3]
        simp [c3]
  · rw [if_pos c1]
    simp [c1]
/-- t is packed into bag c -/
def gpacks (g : Nat → Nat) (t c : Nat) : Nat → Nat := gcr (gcomes g t (3 + c)) (g 3)
theorem gcomes_h {g : Nat → Nat} {t p j : Nat} (hj : j < 5) : gcomes g t p j = g j := by
  unfold gcomes
  rw [gu_n (by omega), gu_n (by omega), gu_n (by omega)]
theorem gcomes_B {g : Nat → Nat} (hB : gB g) {t p : Nat} (hp : p < 2 ^ 20) (h5 : g 5 + 1 < 2 ^ 20) : gB (gcomes g t p) := by
  refine ⟨by rw [gcomes_h (by decide)]; exact hB.1, by rw [gcomes_h (by decide)]; exact hB.2.1, fun j => ?_, fun u hu => ?_⟩
  · unfold gcomes gu
    split
    · omega
    · split
      · omega
      · split
        · omega
        · exact hB.2.2.1 j
  · show gcomes g t p (6 + 7 * u + 2) ≤ 9
    unfold gcomes
    rw [gu_n (by omega), gu_n (by omega), gu_n (by omega)]
    exact hB.2.2.2 u hu
theorem m_packs (hR : mR A q g) (hB : gB g) {t c : Nat} (ht : t < 7) (hc : c < 100) (h5 : g 5 + 1 < 2 ^ 20) : ∃ A', pm_call L xs (d + 5) m_Model_packs [.ref q, .int (nI t), .int (nI c)] (zL I A b) = some (none, zL I A' b) ∧ mR A' q (gpacks g t c) ∧ ∀ q', q' ≠ q → A' q' = A q' := by
  rw [C_Model_packs, B_Model_packs_0]
  obtain ⟨A1, e1, h1, h2⟩ := m_comes L xs (d + 3) I b hR (p := 3 + c) ht
  obtain ⟨A2, e2, h3, h4⟩ := m_crush L xs d I b h1 (gcomes_B hB (by omega) h5)
  refine ⟨A2, ?_, ?_, fun q' hq' => by rw [h4 q' hq', h2 q' hq']⟩
  · rw [zl3, nI_add, e1, zbV, e2, zbV]
  · rw [gcomes_h (by decide)] at h3
    exact h3
/-- a beep -/
def gbeep (g : Nat → Nat) : Nat → Nat := match gfirst g 0 (g 3) with
  | none => gu g 4 (g 4 + 1)
  | some t => gu (gu (gcomes g t 1) (6 + 7 * t + 6) (g 4)) 4 (g 4 + 1)
theorem gfirst_lt {g : Nat → Nat} {p : Nat} : ∀ n t, gfirst g p n = some t → t < n ∧ gp g t = p
  | 0, _, h => by cases h
  | n + 1, t, h => by
    unfold gfirst at h
    split at h
    · split at h
      · rename_i h1
        cases h
        exact ⟨by omega, h1⟩
      · cases h
    · rename_i u hu
      obtain ⟨h1, h2⟩ := gfirst_lt n u hu
      split at h
      · rename_i h3
        cases h
        exact ⟨by omega, h3.1⟩
      · cases h
        exact ⟨by omega, h2⟩
theorem gtop_lt {g : Nat → Nat} {p : Nat} : ∀ n t, gtop g p n = some t → t < n ∧ gp g t = p
  | 0, _, h => by cases h
  | n + 1, t, h => by
    unfold gtop at h
    split at h
    · split at h
      · rename_i h1
        cases h
        exact ⟨by omega, h1⟩
      · cases h
    · rename_i u hu
      obtain ⟨h1, h2⟩ := gtop_lt n u hu
      split at h
      · rename_i h3
        cases h
        exact ⟨by omega, h3.1⟩
      · cases h
        exact ⟨by omega, h2⟩
theorem m_beep (hR : mR A q g) (hB : gB g) : ∃ A', pm_call L xs (d + 3) m_Model_beep [.ref q] (zL I A b) = some (none, zL I A' b) ∧ mR A' q (gbeep g) ∧ ∀ q', q' ≠ q → A' q' = A q' := by
  rw [C_Model_beep, B_Model_beep_0]
  have f0 : pm_call L xs (d + 2) m_Model_firstOf [.ref q, .int (0 : Int32)] (zL I A b) = some (some (.int (zopt (gfirst g 0 (g 3)))), zL I A b) := by rw [zl0]; exact m_firstOf L xs d I b hR hB (by decide)
  simp only [f0, zbI]
  unfold gbeep
  cases hf : gfirst g 0 (g 3) with
  | none =>
    rw [if_pos (show zopt none = -1000000 from rfl), zl4, m_rd I b hR (by decide), zbS, nI_1, m_wr I b hR (by decide), zbS]
    exact ⟨_, rfl, hR.set 4 (g 4 + 1), fun q' hq' => zuA_o hq'⟩
  | some t =>
    obtain ⟨ht, -⟩ := gfirst_lt _ _ hf
    have hn := hB.1
    rw [show zopt (some t) = nI t from rfl, if_neg (zNn (by omega))]
    obtain ⟨A1, e1, h1, h2⟩ := m_comes L xs (d + 1) I b hR (t := t) (p := 1) (by omega)
    have g4 : gcomes g t 1 4 = g 4 := gcomes_h (by decide)
    have h3 := h1.set (6 + 7 * t + 6) (g 4)
    have g4' : gu (gcomes g t 1) (6 + 7 * t + 6) (g 4) 4 = g 4 := by rw [gu_n (by omega), g4]
    have h4 := h3.set 4 (g 4 + 1)
    refine ⟨_, ?_, h4, fun q' hq' => by rw [zuA_o hq', zuA_o hq', h2 q' hq']⟩
    simp only [zl1, zl4, zl6, zl7, pk_mul, nI_add]
    rw [e1, zbV, m_rd I b h1 (by decide), zbS, g4, m_wr I b h1 (show 6 + 7 * t + 6 < 55 by omega), zbS, m_rd I b h3 (by decide), zbS, g4', nI_add, m_wr I b h3 (by decide), zbS]
end
