/-! the class's SHOP at o holds the row g; its leaves -/
theorem zC_mono {P Q : Nat → Bool} : ∀ n, (∀ k, k < n → P k = true → Q k = true) → zC P n ≤ zC Q n
  | 0, _ => Nat.le_refl _
  | n + 1, h => by
    have ih := zC_mono n (fun k hk => h k (by omega))
    have := h n (by omega)
    unfold zC
    cases hP : P n with
    | true => rw [this hP]; simp; omega
    | false => cases Q n <;> simp <;> omega
theorem zC_lt {P Q : Nat → Bool} : ∀ n, (∀ k, k < n → P k = true → Q k = true) → (∃ k, k < n ∧ P k = false ∧ Q k = true) → zC P n < zC Q n
  | 0, _, h => by obtain ⟨k, h1, -⟩ := h; omega
  | n + 1, h, he => by
    obtain ⟨k, h1, h2, h3⟩ := he
    have ih := zC_mono n (fun k hk => h k (by omega))
    have hh := h n (by omega)
    unfold zC
    by_cases hk : k = n
    · subst hk
      rw [h2, h3]
      simp
      omega
    · have i2 := zC_lt n (fun k hk => h k (by omega)) ⟨k, by omega, h2, h3⟩
      cases hP : P n with
      | true => rw [hh hP]; simp; omega
      | false => cases Q n <;> simp <;> omega
/-- a thing's height where it is (the first on the BELT is the highest) -/
def gh (g : Nat → Nat) (t : Nat) : Nat := if gp g t = 0 then zC (fun u => decide (gp g u = 0) && decide (go g t < go g u)) (g 3) else zC (fun u => decide (gp g u = gp g t) && decide (go g u < go g t)) (g 3)
theorem gh_le (g : Nat → Nat) (t : Nat) : gh g t ≤ g 3 := by
  unfold gh
  split <;> exact zC_le _ _
theorem gh_up {g : Nat → Nat} {o t : Nat} (ho : o < g 3) (ht : t < g 3) (hp : gp g o = gp g t) (h0 : gp g t ≠ 0) : (gh g t < gh g o) ↔ go g t < go g o := by
  unfold gh
  rw [if_neg (show ¬ gp g o = 0 by rw [hp]; exact h0), if_neg h0, hp]
  constructor
  · intro h
    refine Nat.lt_of_not_le (fun h2 => ?_)
    have := zC_mono (P := fun u => decide (gp g u = gp g t) && decide (go g u < go g o)) (Q := fun u => decide (gp g u = gp g t) && decide (go g u < go g t)) (g 3) (fun k _ hk => by
      simp only [Bool.and_eq_true, decide_eq_true_eq] at hk ⊢
      exact ⟨hk.1, by omega⟩)
    omega
  · intro h
    refine zC_lt (g 3) (fun k _ hk => ?_) ⟨t, ht, ?_, ?_⟩
    · simp only [Bool.and_eq_true, decide_eq_true_eq] at hk ⊢
      exact ⟨hk.1, by omega⟩
    · simp
    · simp [h]
theorem gh_dn {g : Nat → Nat} {o t : Nat} (ho : o < g 3) (ht : t < g 3) (hp : gp g o = 0) (h0 : gp g t = 0) : (gh g t < gh g o) ↔ go g o < go g t := by
  unfold gh
  rw [if_pos hp, if_pos h0]
  constructor
  · intro h
    refine Nat.lt_of_not_le (fun h2 => ?_)
    have := zC_mono (P := fun u => decide (gp g u = 0) && decide (go g o < go g u)) (Q := fun u => decide (gp g u = 0) && decide (go g t < go g u)) (g 3) (fun k _ hk => by
      simp only [Bool.and_eq_true, decide_eq_true_eq] at hk ⊢
      exact ⟨hk.1, by omega⟩)
    omega
  · intro h
    refine zC_lt (g 3) (fun k _ hk => ?_) ⟨t, ht, ?_, ?_⟩
    · simp only [Bool.and_eq_true, decide_eq_true_eq] at hk ⊢
      exact ⟨hk.1, by omega⟩
    · simp
    · simp [h0, h]
/-- SHOP o holds g -/
def cR (I A : Nat → Nat → Int32) (o : Nat) (g : Nat → Nat) : Prop := zSh o ∧ (I o 0 = nI (g 0) ∧ I o 1 = nI (g 1) ∧ I o 2 = nI (g 2) ∧ I o 3 = nI (g 3) ∧ I o 4 = nI (g 4) ∧ I o 5 = nI (gbroken g)) ∧ ∀ t, t < g 3 → A (o + 1) t = nI (gk g t) ∧ A (o + 2) t = nI (gw g t) ∧ A (o + 3) t = nI (gs g t) ∧ A (o + 4) t = nI (gp g t) ∧ (gp g t ≠ 2 → A (o + 5) t = nI (gh g t)) ∧ (gp g t ≠ 0 → A (o + 6) t = nI (gi g t + 1))
section
variable {I A : Nat → Nat → Int32} {o : Nat} {g : Nat → Nat}
theorem cR.n (h : cR I A o g) (b : Value) : pm_gI (zL I A b) o 4 3 = some (nI (g 3)) := by rw [zSg3 h.1, h.2.1.2.2.2.1]
theorem cR.bags (h : cR I A o g) (b : Value) : pm_gI (zL I A b) o 4 0 = some (nI (g 0)) := by rw [zSg0 h.1, h.2.1.1]
theorem cR.holds (h : cR I A o g) (b : Value) : pm_gI (zL I A b) o 4 1 = some (nI (g 1)) := by rw [zSg1 h.1, h.2.1.2.1]
theorem cR.warmth (h : cR I A o g) (b : Value) : pm_gI (zL I A b) o 4 2 = some (nI (g 2)) := by rw [zSg2 h.1, h.2.1.2.2.1]
theorem cR.beep (h : cR I A o g) (b : Value) : pm_gI (zL I A b) o 4 4 = some (nI (g 4)) := by rw [zSg4 h.1, h.2.1.2.2.2.2.1]
theorem cR.crushed (h : cR I A o g) (b : Value) : pm_gI (zL I A b) o 4 5 = some (nI (gbroken g)) := by rw [zSg5 h.1, h.2.1.2.2.2.2.2]
theorem cR.kind (h : cR I A o g) (hB : gB g) (b : Value) {t : Nat} (ht : t < g 3) : pm_rd 0 (zL I A b) (o + 1) (nI t) = some (nI (gk g t)) := by rw [z_rd (zSa1 h.1) (by have := hB.1; omega), (h.2.2 t ht).1]
theorem cR.weight (h : cR I A o g) (hB : gB g) (b : Value) {t : Nat} (ht : t < g 3) : pm_rd 0 (zL I A b) (o + 2) (nI t) = some (nI (gw g t)) := by rw [z_rd (zSa2 h.1) (by have := hB.1; omega), (h.2.2 t ht).2.1]
theorem cR.soft (h : cR I A o g) (hB : gB g) (b : Value) {t : Nat} (ht : t < g 3) : pm_rd 0 (zL I A b) (o + 3) (nI t) = some (nI (gs g t)) := by rw [z_rd (zSa3 h.1) (by have := hB.1; omega), (h.2.2 t ht).2.2.1]
theorem cR.place (h : cR I A o g) (hB : gB g) (b : Value) {t : Nat} (ht : t < g 3) : pm_rd 0 (zL I A b) (o + 4) (nI t) = some (nI (gp g t)) := by rw [z_rd (zSa4 h.1) (by have := hB.1; omega), (h.2.2 t ht).2.2.2.1]
theorem cR.high (h : cR I A o g) (hB : gB g) (b : Value) {t : Nat} (ht : t < g 3) (h2 : gp g t ≠ 2) : pm_rd 0 (zL I A b) (o + 5) (nI t) = some (nI (gh g t)) := by rw [z_rd (zSa5 h.1) (by have := hB.1; omega), (h.2.2 t ht).2.2.2.2.1 h2]
theorem cR.came (h : cR I A o g) (hB : gB g) (b : Value) {t : Nat} (ht : t < g 3) (h2 : gp g t ≠ 0) : pm_rd 0 (zL I A b) (o + 6) (nI t) = some (nI (gi g t + 1)) := by rw [z_rd (zSa6 h.1) (by have := hB.1; omega), (h.2.2 t ht).2.2.2.2.2 h2]
end
theorem gbl {g : Nat → Nat} (hB : gB g) (j : Nat) : g j < 2 ^ 31 := by have := hB.2.2.1 j; omega
section
variable {I A : Nat → Nat → Int32} {o : Nat} {g : Nat → Nat} (L : Nat) (xs : Nat → Int32) (d : Nat) (b : Value)
theorem c_bitsAt (hR : cR I A o g) (hB : gB g) {p : Nat} (hp : p < 2 ^ 31) : pm_call L xs (d + 1) m_Shop_bitsAt [.ref o, .int (nI p)] (zL I A b) = some (some (.int (nI (gset g p))), zL I A b) := by
  obtain ⟨fs, hfs⟩ := zSo hR.1 I A b
  rw [C_Shop_bitsAt L xs d _ _ _ hfs, B_Shop_bitsAt_0]
  have hn := hB.1
  refine (zloop (fun k a => zE L xs d K_Shop_bitsAt 4 [some (.ref o), some (.int (nI p)), some (.int a), some (.int k)] [] (zL I A b)) (fun t a => if decide (gp g t = p) = true then a ||| ((1 : Int32) <<< (nI t &&& 31)) else a) (g 3) (fun a => some (some (.int a), zL I A b)) (fun t a ht => ?_) (fun a => ?_) 0).trans ?_
  · rw [B_Shop_bitsAt_4]
    simp only [hR.n, zbS, zSr4 hR.1, hR.place hB b ht, znL (gbl hB 3) (show t < 2 ^ 31 by omega), znI (gbl hB _) hp]
    rw [if_neg (show ¬ g 3 ≤ t by omega)]
    by_cases c1 : gp g t = p
    · rw [if_neg (fun h => h c1), if_pos (decide_eq_true c1)]
    · rw [if_pos c1, if_neg (by simp [c1])]
  · rw [B_Shop_bitsAt_4]
    simp only [hR.n, zbS]
    rw [if_pos (nI_le (Nat.le_refl _) (gbl hB 3))]
  · rw [zl0, zF_bits (fun t => decide (gp g t = p)) _ _ (by omega) (fun k a _ => rfl)]
    rfl
theorem zpc_tab : ∀ a, a < 128 → zE L xs d K_Integer_bitCount 0 [some (.int (nI a))] [] (zL I A b) = some (some (.int (nI (zpc a))), zL I A b) := by
  intro a ha
  rw [B_Integer_bitCount_0]
  congr 3
  revert a
  decide +kernel
theorem c_bitCount {a : Nat} (ha : a < 128) : pm_call L xs (d + 1) m_Integer_bitCount [.int (nI a)] (zL I A b) = some (some (.int (nI (zpc a))), zL I A b) := by
  rw [C_Integer_bitCount, zpc_tab L xs d b a ha]
end
theorem zpc_B : ∀ (P : Nat → Bool) (n : Nat), n ≤ 7 → zpc (zB P n) = zC P n := by
  intro P n hn
  have h1 : ∀ k, zB P n / 2 ^ k % 2 = if (decide (k < n) && P k) = true then 1 else 0 := by
    intro k
    have h := ztb P n k
    rw [Nat.testBit_eq_decide_div_mod_eq] at h
    by_cases c : (decide (k < n) && P k) = true
    · rw [if_pos c]
      rw [c] at h
      exact of_decide_eq_true h
    · rw [if_neg c]
      have hf : (decide (k < n) && P k) = false := by simpa using c
      rw [hf] at h
      have := of_decide_eq_false h
      omega
  have h2 : ∀ m, m ≤ n → zS (fun k => zB P n / 2 ^ k % 2) m = zC P m := by
    intro m
    induction m with
    | zero => intro _; rfl
    | succ m ih =>
      intro hm
      unfold zS zC
      rw [ih (by omega), h1 m]
      simp [show m < n by omega]
  have h3 : ∀ j, zS (fun k => zB P n / 2 ^ k % 2) (n + j) = zC P n := by
    intro j
    induction j with
    | zero => exact h2 n (Nat.le_refl _)
    | succ j ih =>
      show zS (fun k => zB P n / 2 ^ k % 2) (n + j) + zB P n / 2 ^ (n + j) % 2 = _
      rw [ih, h1 (n + j)]
      simp
      intro h
      omega
  have := h3 (7 - n)
  rw [show n + (7 - n) = 7 by omega] at this
  exact this
theorem zB_128 (P : Nat → Bool) {n : Nat} (hn : n ≤ 7) : zB P n < 128 := Nat.lt_of_lt_of_le (zB_lt P n) (by
  have : 2 ^ n ≤ 2 ^ 7 := Nat.pow_le_pow_right (by decide) hn
  omega)
def gcount (g : Nat → Nat) (p : Nat) : Nat := zC (fun t => decide (gp g t = p)) (g 3)
section
variable {I A : Nat → Nat → Int32} {o : Nat} {g : Nat → Nat} (L : Nat) (xs : Nat → Int32) (d : Nat) (b : Value)
theorem c_countAt (hR : cR I A o g) (hB : gB g) {p : Nat} (hp : p < 2 ^ 31) : pm_call L xs (d + 2) m_Shop_countAt [.ref o, .int (nI p)] (zL I A b) = some (some (.int (nI (gcount g p))), zL I A b) := by
  obtain ⟨fs, hfs⟩ := zSo hR.1 I A b
  rw [C_Shop_countAt L xs (d + 1) _ _ _ hfs, B_Shop_countAt_0]
  simp only [c_bitsAt L xs d b hR hB hp, zbI, c_bitCount L xs d b (show gset g p < 128 from zB_128 _ hB.1)]
  unfold gset gcount
  rw [zpc_B _ _ hB.1]
theorem c_press {k w : Nat} (hk : k < 2 ^ 20) (hw : w < 2 ^ 20) (σ : pm_H) : pm_call L xs (d + 1) m_Kinds_press [.int (nI k), .int (nI w)] σ = some (some (.int (nI (kpress k w))), σ) := by
  rw [C_Kinds_press, B_Kinds_press_0]
  simp only [zl1, zl2, zl3, zl4]
  simp only [znI (show k < 2 ^ 31 by omega) (show 1 < 2 ^ 31 by decide), znI (show k < 2 ^ 31 by omega) (show 2 < 2 ^ 31 by decide), znI (show k < 2 ^ 31 by omega) (show 3 < 2 ^ 31 by decide), znI (show k < 2 ^ 31 by omega) (show 4 < 2 ^ 31 by decide), nI_add, pk_div (show w < 2 ^ 31 by omega) (show 0 < 2 by decide) (show 2 < 2 ^ 31 by decide)]
  unfold kpress
  by_cases h1 : k = 1
  · subst h1; rfl
  · by_cases h2 : k = 2
    · subst h2; rfl
    · by_cases h3 : k = 3
      · subst h3; rfl
      · by_cases h4 : k = 4
        · subst h4; rfl
        · simp only [h1, h2, h3, h4, if_false]
theorem c_bears {k s : Nat} (hk : k < 2 ^ 20) (hs : s ≤ 9) (σ : pm_H) : pm_call L xs (d + 1) m_Kinds_bears [.int (nI k), .int (nI s)] σ = some (some (.int (nI (kbears k s))), σ) := by
  rw [C_Kinds_bears, B_Kinds_bears_0]
  simp only [zl1, zl2, zl3, zl4, zl9]
  simp only [znI (show k < 2 ^ 31 by omega) (show 1 < 2 ^ 31 by decide), znI (show k < 2 ^ 31 by omega) (show 2 < 2 ^ 31 by decide), znI (show k < 2 ^ 31 by omega) (show 3 < 2 ^ 31 by decide), znI (show k < 2 ^ 31 by omega) (show 4 < 2 ^ 31 by decide), pk_sub hs, pk_div (show 9 - s < 2 ^ 31 by omega) (show 0 < 2 by decide) (show 2 < 2 ^ 31 by decide)]
  unfold kbears
  by_cases h1 : k = 1
  · subst h1; rfl
  · by_cases h2 : k = 2
    · subst h2; rfl
    · by_cases h3 : k = 3
      · subst h3; rfl
      · by_cases h4 : k = 4
        · subst h4; rfl
        · simp only [h1, h2, h3, h4, if_false]
theorem c_pressOf (hR : cR I A o g) (hB : gB g) {t : Nat} (ht : t < g 3) : pm_call L xs (d + 2) m_Shop_pressOf [.ref o, .int (nI t)] (zL I A b) = some (some (.int (nI (gpress g t))), zL I A b) := by
  obtain ⟨fs, hfs⟩ := zSo hR.1 I A b
  rw [C_Shop_pressOf L xs (d + 1) _ _ _ hfs, B_Shop_pressOf_0]
  simp only [zSr1 hR.1, zSr2 hR.1, zbS, hR.kind hB b ht, hR.weight hB b ht, c_press L xs d (hB.2.2.1 _) (hB.2.2.1 _), zbI]
  rfl
theorem c_bearsOf (hR : cR I A o g) (hB : gB g) {t : Nat} (ht : t < g 3) : pm_call L xs (d + 2) m_Shop_bearsOf [.ref o, .int (nI t)] (zL I A b) = some (some (.int (nI (gbears g t))), zL I A b) := by
  obtain ⟨fs, hfs⟩ := zSo hR.1 I A b
  have hn := hB.1
  rw [C_Shop_bearsOf L xs (d + 1) _ _ _ hfs, B_Shop_bearsOf_0]
  simp only [zSr1 hR.1, zSr3 hR.1, zbS, hR.kind hB b ht, hR.soft hB b ht, c_bears L xs d (hB.2.2.1 _) (hB.2.2.2 t (by omega)), zbI]
  rfl
/-- those above one in a BAG -/
theorem c_bitsAbove (hR : cR I A o g) (hB : gB g) {t : Nat} (ht : t < g 3) (h3 : 3 ≤ gp g t) : pm_call L xs (d + 1) m_Shop_bitsAbove [.ref o, .int (nI t)] (zL I A b) = some (some (.int (nI (zB (fun u => gab g u t) (g 3)))), zL I A b) := by
  obtain ⟨fs, hfs⟩ := zSo hR.1 I A b
  rw [C_Shop_bitsAbove L xs d _ _ _ hfs, B_Shop_bitsAbove_0]
  have hn := hB.1
  refine (zloop (fun k a => zE L xs d K_Shop_bitsAbove 4 [some (.ref o), some (.int (nI t)), some (.int a), some (.int k)] [] (zL I A b)) (fun u a => if gab g u t = true then a ||| ((1 : Int32) <<< (nI u &&& 31)) else a) (g 3) (fun a => some (some (.int a), zL I A b)) (fun u a hu => ?_) (fun a => ?_) 0).trans ?_
  · rw [B_Shop_bitsAbove_4]
    have hl1 := gh_le g u
    have hl2 := gh_le g t
    simp only [hR.n, zbS, zSr4 hR.1, zSr5 hR.1, hR.place hB b ht, hR.place hB b hu, hR.high hB b ht (by omega), znL (gbl hB 3) (show u < 2 ^ 31 by omega), znI (gbl hB (6 + 7 * u + 3)) (gbl hB (6 + 7 * t + 3))]
    rw [if_neg (show ¬ g 3 ≤ u by omega)]
    by_cases c1 : gp g u = gp g t
    · rw [if_neg (fun h => h c1), hR.high hB b hu (by omega), zbS]
      have e1 := gh_up hu ht c1 (by omega)
      simp only [znL (show gh g u < 2 ^ 31 by omega) (show gh g t < 2 ^ 31 by omega)]
      unfold gab
      by_cases c2 : go g t < go g u
      · have := e1.mpr c2
        rw [if_neg (by omega), if_pos (by simp [c1, c2])]
      · have : ¬ gh g t < gh g u := fun h => c2 (e1.mp h)
        rw [if_pos (by omega), if_neg (by simp [c2])]
    · rw [if_pos c1, if_neg (by unfold gab; simp [c1])]
  · rw [B_Shop_bitsAbove_4]
    simp only [hR.n, zbS]
    rw [if_pos (nI_le (Nat.le_refl _) (gbl hB 3))]
  · rw [zl0, zF_bits (fun u => gab g u t) _ _ (by omega) (fun k a _ => rfl)]
theorem c_loadOn (hR : cR I A o g) (hB : gB g) {t : Nat} (ht : t < g 3) : pm_call L xs (d + 2) m_Shop_loadOn [.ref o, .int (nI t)] (zL I A b) = some (some (.int (nI (gload g t))), zL I A b) := by
  obtain ⟨fs, hfs⟩ := zSo hR.1 I A b
  have hn := hB.1
  rw [C_Shop_loadOn L xs (d + 1) _ _ _ hfs, B_Shop_loadOn_0]
  have e0 : ((3 : Int32) ≤ nI (gp g t)) = (3 ≤ gp g t) := by rw [zl3]; exact znL (by decide) (gbl hB _)
  simp only [zSr4 hR.1, zbS, hR.place hB b ht, e0]
  by_cases c : 3 ≤ gp g t
  · rw [if_pos c]
    simp only [c_bitsAbove L xs d b hR hB ht c, zbI]
    have hlt : zB (fun u => gab g u t) (g 3) < 2 ^ 31 := by have := zB_128 (fun u => gab g u t) hn; omega
    refine (zloop (fun k a => zE L xs (d + 1) K_Shop_loadOn 23 [some (.ref o), some (.int (nI t)), some (.int a), some (.int (nI (zB (fun u => gab g u t) (g 3)))), some (.int k)] [] (zL I A b)) (fun u a => a + nI (if (decide (3 ≤ gp g t) && gab g u t) = true then gpress g u else 0)) (g 3) (fun a => some (some (.int a), zL I A b)) (fun u a hu => ?_) (fun a => ?_) 0).trans ?_
    · rw [B_Shop_loadOn_23]
      have e1 : ((nI (zB (fun u => gab g u t) (g 3)) >>> (nI u &&& 31)) &&& (1 : Int32) = 1) = (gab g u t = true) := by
        rw [zbit hlt (by omega), zl1, znI (by omega) (by decide)]
        apply propext
        rw [ztest, ztb]
        simp [hu]
      simp only [hR.n, zbS, znL (gbl hB 3) (show u < 2 ^ 31 by omega), e1, zSr1 hR.1, zSr2 hR.1, hR.kind hB b hu, hR.weight hB b hu, c_press L xs d (hB.2.2.1 _) (hB.2.2.1 _), zbI]
      rw [if_neg (show ¬ g 3 ≤ u by omega)]
      by_cases c2 : gab g u t = true
      · rw [if_neg (fun h => h c2), if_pos (by simp [c, c2])]
        rfl
      · rw [if_pos c2, if_neg (by simp [c2]), zl0]
    · rw [B_Shop_loadOn_23]
      simp only [hR.n, zbS]
      rw [if_pos (nI_le (Nat.le_refl _) (gbl hB 3))]
    · rw [zl0, zF_sum (fun u => if (decide (3 ≤ gp g t) && gab g u t) = true then gpress g u else 0) _ _ (fun k _ => rfl)]
      rfl
  · rw [if_neg c]
    have e2 : gload g t = 0 := by
      unfold gload
      have : ∀ n, zS (fun o => if (decide (3 ≤ gp g t) && gab g o t) = true then gpress g o else 0) n = 0 := by
        intro n
        induction n with
        | zero => rfl
        | succ n ih => unfold zS; rw [ih]; simp [c]
      exact this _
    rw [e2, zl0]
/-- what is overladen -/
def gover (g : Nat → Nat) : Nat := zB (fun t => decide (gbears g t < gload g t)) (g 3)
theorem c_overladenBits (hR : cR I A o g) (hB : gB g) : pm_call L xs (d + 3) m_Shop_overladenBits [.ref o] (zL I A b) = some (some (.int (nI (gover g))), zL I A b) := by
  obtain ⟨fs, hfs⟩ := zSo hR.1 I A b
  have hn := hB.1
  rw [C_Shop_overladenBits L xs (d + 2) _ _ hfs, B_Shop_overladenBits_0]
  refine (zloop (fun k a => zE L xs (d + 2) K_Shop_overladenBits 4 [some (.ref o), some (.int a), some (.int k)] [] (zL I A b)) (fun t a => if decide (gbears g t < gload g t) = true then a ||| ((1 : Int32) <<< (nI t &&& 31)) else a) (g 3) (fun a => some (some (.int a), zL I A b)) (fun t a ht => ?_) (fun a => ?_) 0).trans ?_
  · rw [B_Shop_overladenBits_4]
    have hl := zgload_lt hB t
    have hb := zgbears_le (g := g) t
    simp only [hR.n, zbS, c_loadOn L xs d b hR hB ht, c_bearsOf L xs d b hR hB ht, zbI, znL (gbl hB 3) (show t < 2 ^ 31 by omega), znL (show gload g t < 2 ^ 31 by omega) (show gbears g t < 2 ^ 31 by omega), zor0]
    rw [if_neg (show ¬ g 3 ≤ t by omega)]
    by_cases c : gbears g t < gload g t
    · rw [if_neg (by omega), if_pos (decide_eq_true c)]
    · rw [if_pos (by omega), if_neg (by simp [c])]
  · rw [B_Shop_overladenBits_4]
    simp only [hR.n, zbS]
    rw [if_pos (nI_le (Nat.le_refl _) (gbl hB 3))]
  · rw [zl0, zF_bits (fun t => decide (gbears g t < gload g t)) _ _ (by omega) (fun k a _ => rfl)]
    rfl
theorem c_isCrushed (hR : cR I A o g) (hB : gB g) {t : Nat} (ht : t < g 3) : pm_call L xs (d + 1) m_Shop_isCrushed [.ref o, .int (nI t)] (zL I A b) = some (some (.int (if gc g t = 1 then 1 else 0)), zL I A b) := by
  obtain ⟨fs, hfs⟩ := zSo hR.1 I A b
  have hn := hB.1
  rw [C_Shop_isCrushed L xs d _ _ _ hfs, B_Shop_isCrushed_0]
  have hlt : gbroken g < 2 ^ 31 := by have := zB_128 (fun t => decide (gc g t = 1)) hn; show zB _ _ < _; omega
  have e1 : ((nI (gbroken g) >>> (nI t &&& 31)) &&& (1 : Int32) = 1) = (gc g t = 1) := by
    rw [zbit hlt (by omega), zl1, znI (by omega) (by decide)]
    apply propext
    rw [ztest]
    unfold gbroken
    rw [ztb]
    simp [ht]
  simp only [hR.crushed, zbS, e1]
  by_cases c : gc g t = 1
  · rw [if_neg (fun h => h c), if_pos c]
  · rw [if_pos c, if_neg c]
theorem c_weighs (hR : cR I A o g) (hB : gB g) {c : Nat} (hc : c < 2 ^ 30) : pm_call L xs (d + 1) m_Shop_weighs [.ref o, .int (nI c)] (zL I A b) = some (some (.int (nI (gweighs g c))), zL I A b) := by
  obtain ⟨fs, hfs⟩ := zSo hR.1 I A b
  have hn := hB.1
  rw [C_Shop_weighs L xs d _ _ _ hfs, B_Shop_weighs_0]
  refine (zloop (fun k a => zE L xs d K_Shop_weighs 4 [some (.ref o), some (.int (nI c)), some (.int a), some (.int k)] [] (zL I A b)) (fun t a => a + nI (if gp g t = 3 + c then gw g t else 0)) (g 3) (fun a => some (some (.int a), zL I A b)) (fun t a ht => ?_) (fun a => ?_) 0).trans ?_
  · rw [B_Shop_weighs_4]
    have e1 : (nI (gp g t) = (3 : Int32) + nI c) = (gp g t = 3 + c) := by rw [zl3, nI_add]; exact znI (gbl hB _) (by omega)
    simp only [hR.n, zbS, zSr4 hR.1, zSr2 hR.1, hR.place hB b ht, hR.weight hB b ht, znL (gbl hB 3) (show t < 2 ^ 31 by omega), e1]
    rw [if_neg (show ¬ g 3 ≤ t by omega)]
    by_cases c1 : gp g t = 3 + c
    · rw [if_neg (fun h => h c1), if_pos c1]
    · rw [if_pos c1, if_neg c1, zl0]
  · rw [B_Shop_weighs_4]
    simp only [hR.n, zbS]
    rw [if_pos (nI_le (Nat.le_refl _) (gbl hB 3))]
  · rw [zl0, zF_sum (fun t => if gp g t = 3 + c then gw g t else 0) _ _ (fun k _ => rfl)]
    rfl
theorem c_isTorn (hR : cR I A o g) (hB : gB g) {c : Nat} (hc : c < 2 ^ 30) : pm_call L xs (d + 2) m_Shop_isTorn [.ref o, .int (nI c)] (zL I A b) = some (some (.int (if g 1 < gweighs g c then 1 else 0)), zL I A b) := by
  obtain ⟨fs, hfs⟩ := zSo hR.1 I A b
  rw [C_Shop_isTorn L xs (d + 1) _ _ _ hfs, B_Shop_isTorn_0]
  have hw := zgw_lt hB c
  simp only [c_weighs L xs d b hR hB hc, zbI, hR.holds, zbS, znL (show gweighs g c < 2 ^ 31 by omega) (gbl hB 1)]
  by_cases h : g 1 < gweighs g c
  · rw [if_neg (by omega), if_pos h]
  · rw [if_pos (by omega), if_neg h]
theorem c_weighsInAll (hR : cR I A o g) (hB : gB g) : pm_call L xs (d + 2) m_Shop_weighsInAll [.ref o] (zL I A b) = some (some (.int (nI (zS (gweighs g) (g 0)))), zL I A b) := by
  obtain ⟨fs, hfs⟩ := zSo hR.1 I A b
  have hn := hB.2.1
  rw [C_Shop_weighsInAll L xs (d + 1) _ _ hfs, B_Shop_weighsInAll_0]
  refine (zloop (fun k a => zE L xs (d + 1) K_Shop_weighsInAll 4 [some (.ref o), some (.int a), some (.int k)] [] (zL I A b)) (fun c a => a + nI (gweighs g c)) (g 0) (fun a => some (some (.int a), zL I A b)) (fun c a hc => ?_) (fun a => ?_) 0).trans ?_
  · rw [B_Shop_weighsInAll_4]
    simp only [hR.bags, zbS, c_weighs L xs d b hR hB (show c < 2 ^ 30 by omega), zbI]
    rw [if_neg (nI_ge hc (by omega))]
  · rw [B_Shop_weighsInAll_4]
    simp only [hR.bags, zbS]
    rw [if_pos (nI_le (Nat.le_refl _) (by omega))]
  · rw [zl0, zF_sum (gweighs g) _ _ (fun k _ => rfl)]
theorem c_heaviest (hR : cR I A o g) (hB : gB g) : pm_call L xs (d + 2) m_Shop_heaviest [.ref o] (zL I A b) = some (some (.int (nI (gmost g (g 0)))), zL I A b) := by
  obtain ⟨fs, hfs⟩ := zSo hR.1 I A b
  have hn := hB.2.1
  rw [C_Shop_heaviest L xs (d + 1) _ _ hfs, B_Shop_heaviest_0]
  have key : ∀ k, k ≤ g 0 → zE L xs (d + 1) K_Shop_heaviest 4 [some (.ref o), some (.int 0), some (.int 0)] [] (zL I A b) = zE L xs (d + 1) K_Shop_heaviest 4 [some (.ref o), some (.int (nI (gmost g k))), some (.int (nI k))] [] (zL I A b) := by
    intro k
    induction k with
    | zero => intro _; rfl
    | succ k ih =>
      intro hk
      have h1 := gmost_lt hB k
      have h2 := zgw_lt hB k
      rw [ih (by omega), B_Shop_heaviest_4]
      simp only [hR.bags, zbS, c_weighs L xs d b hR hB (show k < 2 ^ 30 by omega), zbI, znL (gbl hB 0) (show k < 2 ^ 31 by omega), znT (show gmost g k < 2 ^ 31 by omega) (show gweighs g k < 2 ^ 31 by omega), nI_1]
      rw [if_neg (show ¬ g 0 ≤ k by omega)]
      by_cases c : gmost g k < gweighs g k
      · rw [if_pos c, show gmost g (k + 1) = gweighs g k from if_pos c]
      · rw [if_neg c, show gmost g (k + 1) = gmost g k from if_neg c]
  rw [key (g 0) (Nat.le_refl _), B_Shop_heaviest_4]
  simp only [hR.bags, zbS]
  rw [if_pos (nI_le (Nat.le_refl _) (by omega))]
theorem c_isWarm (hR : cR I A o g) (hB : gB g) {t : Nat} (ht : t < g 3) : pm_call L xs (d + 1) m_Shop_isWarm [.ref o, .int (nI t)] (zL I A b) = some (some (.int (if gwarm g t = true then 1 else 0)), zL I A b) := by
  obtain ⟨fs, hfs⟩ := zSo hR.1 I A b
  rw [C_Shop_isWarm L xs d _ _ _ hfs, B_Shop_isWarm_0]
  have e5 : (nI (gk g t) = (5 : Int32)) = (gk g t = 5) := by rw [zl5]; exact znI (gbl hB _) (by decide)
  have e0 : (nI (gp g t) = (0 : Int32)) = (gp g t = 0) := by rw [zl0]; exact znI (gbl hB _) (by decide)
  simp only [zSr1 hR.1, zSr4 hR.1, zSr6 hR.1, zbS, hR.kind hB b ht, hR.place hB b ht, hR.beep, hR.warmth, e5, e0]
  unfold gwarm
  by_cases c1 : gk g t = 5
  · rw [if_neg (fun h => h c1)]
    by_cases c2 : gp g t = 0
    · rw [if_pos c2]
      simp [c2]
    · rw [if_neg c2, hR.came hB b ht c2, zbS]
      have h4 := hB.2.2.1 4
      have h6 := hB.2.2.1 (6 + 7 * t + 6)
      have h2 := hB.2.2.1 2
      have e1 : (nI (g 4) - nI (gi g t + 1) + (1 : Int32) < nI (g 2)) = (¬ g 2 + gi g t ≤ g 4) := by
        have e9 : nI (g 4) - nI (gi g t + 1) + (1 : Int32) = nI (g 4) - nI (gi g t) := by
          rw [← nI_1]
          rw [← Int32.toBitVec_inj]
          simp only [Int32.toBitVec_add, Int32.toBitVec_sub]
          generalize (nI (g 4)).toBitVec = a
          generalize (nI (gi g t)).toBitVec = c
          have : (1 : Int32).toBitVec = 1#32 := rfl
          rw [this]
          bv_omega
        rw [e9]
        apply propext
        rw [fa_lt, pk_sub_toInt (by omega) (show g (6 + 7 * t + 6) < 2 ^ 30 by omega), nI_toInt (by omega)]
        show _ ↔ ¬ g 2 + g (6 + 7 * t + 6) ≤ g 4
        omega
      simp only [e1]
      by_cases c3 : g 2 + gi g t ≤ g 4
      · rw [if_neg (fun h => h c3)]
        simp [c1, c2, c3]
      · rw [if_pos c3]
        simp [c3]
  · rw [if_pos c1]
    simp [c1]
end
