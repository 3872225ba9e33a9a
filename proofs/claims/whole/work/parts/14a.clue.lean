/-! copies of a SHOP, and what rows tell -/
def zAl (P : Nat → Bool) : Nat → Nat → Bool
  | 0, _ => true
  | m + 1, k => P k && zAl P m (k + 1)
theorem zAl_s (P : Nat → Bool) (m k : Nat) : zAl P (m + 1) k = (P k && zAl P m (k + 1)) := rfl
theorem zAl_congr {P Q : Nat → Bool} : ∀ m k, (∀ j, k ≤ j → j < k + m → P j = Q j) → zAl P m k = zAl Q m k
  | 0, _, _ => rfl
  | m + 1, k, h => by
    show (P k && zAl P m (k + 1)) = (Q k && zAl Q m (k + 1))
    rw [h k (Nat.le_refl _) (by omega), zAl_congr m (k + 1) (fun j h1 h2 => h j (by omega) (by omega))]
theorem zS_at {f f' : Nat → Nat} {t : Nat} : ∀ n, t < n → (∀ k, k < n → k ≠ t → f' k = f k) → zS f' n + f t = zS f n + f' t
  | 0, h, _ => by omega
  | n + 1, h, he => by
    show zS f' n + f' n + f t = zS f n + f n + f' t
    by_cases e : t = n
    · subst e
      rw [zS_congr t (fun k hk => he k (by omega) (by omega))]
      omega
    · have ih := zS_at n (by omega) (fun k hk hne => he k (by omega) hne)
      have := he n (by omega) (fun q => e q.symm)
      omega
theorem zS_mem {f : Nat → Nat} {t : Nat} : ∀ n, t < n → f t ≤ zS f n
  | 0, h => by omega
  | n + 1, h => by
    show f t ≤ zS f n + f n
    by_cases e : t = n
    · subst e; omega
    · have := zS_mem (f := f) n (show t < n by omega)
      omega
theorem zring (a v w : Int32) : a + (v - w) = (a - w) + v := by
  rw [← Int32.toBitVec_inj]
  simp only [Int32.toBitVec_add, Int32.toBitVec_sub]
  generalize a.toBitVec = x
  generalize v.toBitVec = y
  generalize w.toBitVec = z
  bv_omega
/-- a loop from s on -/
theorem zloopS {α β : Type} (F : Int32 → α → β) (f : Nat → α → α) (s : Nat) (X : α → β) : ∀ n a, (∀ k a, k < n → F (nI (s + k)) a = F (nI (s + k) + 1) (f (s + k) a)) → (∀ a, F (nI (s + n)) a = X a) → F (nI s) a = X (zF (fun k => f (s + k)) n a) := by
  intro n a hs hx
  have key : ∀ k, k ≤ n → F (nI s) a = F (nI (s + k)) (zF (fun k => f (s + k)) k a) := by
    intro k
    induction k with
    | zero => intro _; rfl
    | succ k ih =>
      intro hk
      rw [ih (by omega), hs k _ (by omega), nI_1]
      rfl
  rw [key n (Nat.le_refl _), hx]
section
variable {L : Nat} {xs : Nat → Int32} {B : Nat} {I A : Nat → Nat → Int32} {b : Value} {g : Nat → Nat}
theorem m_layThen (hm : mR A 68 g) (d : Nat) : pm_call L xs (d + 1) m_Model_layThen [.ref 64] (zL I A b) = some (none, zL I (zcp A 70 0 55 (A 68)) b) := by
  rw [D_Model_layThen, B_Model_layThen_0]
  refine (zfill (fun k A => zE L xs d K_Model_layThen 2 [some (.ref 64), some (.int k)] [] (zL I A b)) A 70 0 55 (A 68) (fun k hk => ?_)).trans ?_
  · rw [B_Model_layThen_2]
    simp only [zr_64_7, zr_64_5, zbS, zl55, Nat.zero_add]
    rw [if_neg (nI_ge hk (by decide)), z_rd za_68 hk, zbS, z_wr za_70 hk, zbS, zcp_o (show 68 ≠ 70 by decide)]
  · rw [B_Model_layThen_2, zl55, if_pos (nI_le (Nat.le_refl _) (by decide))]
theorem m_then (hm : mR A 68 g) : mR (zcp A 70 0 55 (A 68)) 70 g := by
  refine ⟨Or.inr (Or.inr rfl), fun j hj => ?_⟩
  have := zcp_at (A := A) (q := 70) (p := 0) (n := 55) (f := A 68) hj
  rw [Nat.zero_add] at this
  rw [this]
  exact hm.2 j hj
theorem m_weighSo (hm : mR A 70 g) (hB : gB g) {p : Nat} (hp : p + g 0 ≤ 320) (d : Nat) : pm_call L xs (d + 3) m_Model_weighSo [.ref 64, .int (nI p)] (zL I A b) = some (some (.int (if zAl (fun c => decide (nI (gweighs g c) = A 67 (p + c))) (g 0) 0 = true then 1 else 0)), zL I A b) := by
  have hn := hB.2.1
  rw [D_Model_weighSo, B_Model_weighSo_0]
  have no : ∀ m k, k + m = g 0 → zE L xs (d + 2) K_Model_weighSo 4 [some (.ref 64), some (.int (nI p)), some (.int 0), some (.int (nI k))] [] (zL I A b) = some (some (.int 0), zL I A b) := by
    intro m
    induction m with
    | zero =>
      intro k hk
      rw [B_Model_weighSo_4]
      simp only [zr_64_7, zbS, m_rd' _ b hm zl0 (show 0 < 55 by decide)]
      rw [if_pos (nI_le (by omega) (by omega)), if_pos trivial]
    | succ m ih =>
      intro k hk
      rw [B_Model_weighSo_4]
      simp only [zr_64_7, zbS, m_rd' _ b hm zl0 (show 0 < 55 by decide), nI_1]
      rw [if_neg (nI_ge (show k < g 0 by omega) (by omega)), if_pos trivial, ih _ (by omega)]
  have yes : ∀ m k, k + m = g 0 → zE L xs (d + 2) K_Model_weighSo 4 [some (.ref 64), some (.int (nI p)), some (.int 1), some (.int (nI k))] [] (zL I A b) = some (some (.int (if zAl (fun c => decide (nI (gweighs g c) = A 67 (p + c))) m k = true then 1 else 0)), zL I A b) := by
    intro m
    induction m with
    | zero =>
      intro k hk
      rw [B_Model_weighSo_4]
      simp only [zr_64_7, zbS, m_rd' _ b hm zl0 (show 0 < 55 by decide)]
      rw [if_pos (nI_le (by omega) (by omega)), if_neg (by decide), if_pos trivial]
      rfl
    | succ m ih =>
      intro k hk
      rw [B_Model_weighSo_4]
      simp only [zr_64_7, zr_64_4, zbS, m_rd' _ b hm zl0 (show 0 < 55 by decide), nI_1, nI_add, m_weighs L xs d _ b hm hB (show k < 2 ^ 30 by omega), zbI, z_rd za_67 (show p + k < 320 by omega)]
      rw [if_neg (nI_ge (show k < g 0 by omega) (by omega)), if_neg (by decide)]
      rw [zAl_s]
      by_cases c : nI (gweighs g k) = A 67 (p + k)
      · rw [if_neg (fun q => q c), ih _ (by omega)]
        simp [c]
      · rw [if_pos c, no m _ (by omega)]
        simp [c]
  exact yes (g 0) 0 (by omega)
theorem c_isWeighed (hc : cR I A 15 g) (hB : gB g) {q i : Nat} (hq : zIs q 40) (hi : i + g 0 ≤ 40) {t v : Nat} (ht : t < g 3) (hv : v < 2 ^ 20) (d : Nat) : pm_call L xs (d + 2) m_Clues_isWeighed [.ref 15, .int (nI t), .int (nI v), .ref q, .int (nI i)] (zL I A b) = some (some (.int (if zAl (fun c => decide (nI (gweighs (gu g (6 + 7 * t + 1) v) c) = A q (i + c))) (g 0) 0 = true then 1 else 0)), zL I A b) := by
  have hn := hB.2.1
  rw [C_Clues_isWeighed, B_Clues_isWeighed_0]
  have yes : ∀ m k y, k + m = g 0 → zE L xs (d + 1) K_Clues_isWeighed 3 [some (.ref 15), some (.int (nI t)), some (.int (nI v)), some (.ref q), some (.int (nI i)), some (.int (nI k)), y] [] (zL I A b) = some (some (.int (if zAl (fun c => decide (nI (gweighs (gu g (6 + 7 * t + 1) v) c) = A q (i + c))) m k = true then 1 else 0)), zL I A b) := by
    intro m
    induction m with
    | zero =>
      intro k y hk
      rw [B_Clues_isWeighed_3]
      simp only [hc.bags, zbS]
      rw [if_pos (nI_le (by omega) (by omega))]
      rfl
    | succ m ih =>
      intro k y hk
      have hn3 : gu g (6 + 7 * t + 1) v 3 = g 3 := gu_n (by omega)
      have hpp : ∀ u, gp (gu g (6 + 7 * t + 1) v) u = gp g u := fun u => gu_n (by omega)
      have hwt : gw (gu g (6 + 7 * t + 1) v) t = v := gu_s
      have hwu : ∀ u, u ≠ t → gw (gu g (6 + 7 * t + 1) v) u = gw g u := fun u hu => gu_n (by omega)
      have e0 : (nI (gp g t) = (3 : Int32) + nI k) = (gp g t = 3 + k) := by rw [zl3, nI_add]; exact znI (gbl hB _) (by omega)
      rw [B_Clues_isWeighed_3]
      simp only [hc.bags, zbS, c_weighs L xs d b hc hB (show k < 2 ^ 30 by omega), zbI, zSr4 hc.1, zSr2 hc.1, hc.place hB b ht, hc.weight hB b ht, nI_add, nI_1, z_rd hq (show i + k < 40 by omega), e0]
      rw [if_neg (nI_ge (show k < g 0 by omega) (by omega)), if_neg (zNn (by have := hB.1; omega))]
      rw [zAl_s]
      by_cases c : gp g t = 3 + k
      · rw [if_neg (fun q => q c)]
        have h1 := zS_at (f := fun u => if gp g u = 3 + k then gw g u else 0) (f' := fun u => if gp (gu g (6 + 7 * t + 1) v) u = 3 + k then gw (gu g (6 + 7 * t + 1) v) u else 0) (g 3) ht (fun u hu hne => by simp only [hpp, hwu u hne])
        simp only [hpp, hwt, c, if_true] at h1
        have h2 : zS (fun u => if gp g u = 3 + k then gw (gu g (6 + 7 * t + 1) v) u else 0) (g 3) = gweighs (gu g (6 + 7 * t + 1) v) k := by
          unfold gweighs
          rw [hn3]
          apply zS_congr
          intro u _
          rw [hpp]
        have h3 : gw g t ≤ gweighs g k := by
          have := zS_mem (f := fun u => if gp g u = 3 + k then gw g u else 0) (g 3) ht
          simp only [c, if_true] at this
          exact this
        have h4 : gweighs (gu g (6 + 7 * t + 1) v) k = gweighs g k - gw g t + v := by
          rw [h2] at h1
          have : gweighs (gu g (6 + 7 * t + 1) v) k + gw g t = gweighs g k + v := h1
          omega
        have e5 : nI (gweighs g k) + (nI v - nI (gw g t)) = nI (gweighs (gu g (6 + 7 * t + 1) v) k) := by
          rw [zring, pk_sub h3, nI_add, h4]
        simp only [e5]
        by_cases c2 : A q (i + k) = nI (gweighs (gu g (6 + 7 * t + 1) v) k)
        · rw [if_pos c2, ih _ _ (by omega)]
          simp [c2]
        · rw [if_neg c2]
          simp
          exact fun z => absurd z.symm c2
      · rw [if_pos c]
        have e5 : gweighs (gu g (6 + 7 * t + 1) v) k = gweighs g k := by
          unfold gweighs
          rw [hn3]
          apply zS_congr
          intro u _
          rw [hpp]
          by_cases hu : u = t
          · subst hu; rw [if_neg c, if_neg c]
          · rw [hwu u hu]
        rw [e5]
        by_cases c2 : A q (i + k) = nI (gweighs g k)
        · rw [if_pos c2, ih _ _ (by omega)]
          simp [c2]
        · rw [if_neg c2]
          simp
          exact fun z => absurd z.symm c2
  exact yes (g 0) 0 none (by omega)
theorem c_isWeighed0 (hc : cR I A 15 g) (hB : gB g) {q i : Nat} (hq : zIs q 40) (hi : i + g 0 ≤ 40) (d : Nat) : pm_call L xs (d + 2) m_Clues_isWeighed [.ref 15, .int (-1000000), .int 0, .ref q, .int (nI i)] (zL I A b) = some (some (.int (if zAl (fun c => decide (nI (gweighs g c) = A q (i + c))) (g 0) 0 = true then 1 else 0)), zL I A b) := by
  have hn := hB.2.1
  rw [C_Clues_isWeighed, B_Clues_isWeighed_0]
  have yes : ∀ m k y, k + m = g 0 → zE L xs (d + 1) K_Clues_isWeighed 3 [some (.ref 15), some (.int (-1000000)), some (.int 0), some (.ref q), some (.int (nI i)), some (.int (nI k)), y] [] (zL I A b) = some (some (.int (if zAl (fun c => decide (nI (gweighs g c) = A q (i + c))) m k = true then 1 else 0)), zL I A b) := by
    intro m
    induction m with
    | zero =>
      intro k y hk
      rw [B_Clues_isWeighed_3]
      simp only [hc.bags, zbS]
      rw [if_pos (nI_le (by omega) (by omega))]
      rfl
    | succ m ih =>
      intro k y hk
      rw [B_Clues_isWeighed_3]
      simp only [hc.bags, zbS, c_weighs L xs d b hc hB (show k < 2 ^ 30 by omega), zbI, nI_add, nI_1, z_rd hq (show i + k < 40 by omega)]
      rw [if_neg (nI_ge (show k < g 0 by omega) (by omega)), if_pos trivial]
      rw [zAl_s]
      by_cases c2 : A q (i + k) = nI (gweighs g k)
      · rw [if_pos c2, ih _ _ (by omega)]
        simp [c2]
      · rw [if_neg c2]
        simp
        exact fun z => absurd z.symm c2
  exact yes (g 0) 0 none (by omega)
/-- the reference's rowFound -/
theorem m_rowFound {r n : Nat} (hr : r < 8) (hw : zRw1 A r) (hn : n < 2 ^ 20) (i : Int32) (d : Nat) : pm_call L xs (d + 2) m_Model_rowFound [.ref 64, .int (nI r), .int i, .int (nI n)] (zL I A b) = if A 12 r = -1 then some (some (.int (-1000010 - 1)), zL (zuI I 64 1 1) A b) else if 0 ≤ i.toInt ∧ 0 ≤ (nI n).toInt ∧ i.toInt + (nI n).toInt ≤ (A 12 r).toInt then some (some (.int 0), zL (zuI I 64 1 0) A b) else some (some (.int (-1000010 - 2)), zL (zuI I 64 1 2) A b) := by
  rw [D_Model_rowFound, B_Model_rowFound_0]
  simp only [zr_64_2, zr_64_3, zbS, z_rd za_65 hr, z_rd za_66 hr]
  rcases hw.1 with ⟨m1, m2⟩ | ⟨N, l, hN, hl, m1, m2, m3, m4⟩
  · rw [m1, m2, if_neg (by decide), if_pos rfl, m_finding L xs, zbI]
  · rw [m1, m3, m4, if_pos (nI_pos' (by omega)), if_neg (show ¬ nI N = -1 by rw [zn2 (show N < 2 ^ 31 by omega)]; exact fun q => q)]
    have q0 : (0 : Int32).toInt = 0 := by decide
    have qn := nI_toInt (show n < 2 ^ 31 by omega)
    rw [nI_toInt (show N < 2 ^ 31 by omega), qn]
    by_cases c1 : i < 0
    · have : ¬ 0 ≤ i.toInt := by rw [fa_lt, q0] at c1; omega
      rw [if_pos c1, if_neg (fun q => this q.1), m_finding L xs, zbI]
    · have c1' : 0 ≤ i.toInt := by rw [fa_lt, q0] at c1; omega
      rw [if_neg c1, B_Model_rowFound_32]
      by_cases c2 : i.toInt + (n : Int) ≤ (N : Int)
      · rw [if_pos (by rw [lg_cmp_le, fa_le64, lg_i2l_add, Int32.toInt_toInt64, qn, nI_toInt (by omega)]; exact c2), if_pos ⟨c1', by omega, c2⟩, zp_64_1, zbS]
      · rw [if_neg (by rw [lg_cmp_le, fa_le64, lg_i2l_add, Int32.toInt_toInt64, qn, nI_toInt (by omega)]; exact c2), if_neg (fun q => c2 q.2.2), m_finding L xs, zbI]
end
