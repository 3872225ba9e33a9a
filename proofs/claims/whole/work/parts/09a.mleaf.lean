/-! the reference's leaves over a row g of numbers -/
abbrev gk (g : Nat → Nat) (t : Nat) : Nat := g (6 + 7 * t + 0)
abbrev gw (g : Nat → Nat) (t : Nat) : Nat := g (6 + 7 * t + 1)
abbrev gs (g : Nat → Nat) (t : Nat) : Nat := g (6 + 7 * t + 2)
abbrev gp (g : Nat → Nat) (t : Nat) : Nat := g (6 + 7 * t + 3)
abbrev go (g : Nat → Nat) (t : Nat) : Nat := g (6 + 7 * t + 4)
abbrev gc (g : Nat → Nat) (t : Nat) : Nat := g (6 + 7 * t + 5)
abbrev gi (g : Nat → Nat) (t : Nat) : Nat := g (6 + 7 * t + 6)
/-- what one of a kind presses with, bears -/
def kpress (k w : Nat) : Nat := if k = 1 then w else if k = 2 then w + 2 else if k = 3 then w / 2 else if k = 4 then 1 else 2
def kbears (k s : Nat) : Nat := if k = 1 then 60 else if k = 2 then 20 else if k = 3 then 9 else if k = 4 then 9 - s else (9 - s) / 2
def gpress (g : Nat → Nat) (t : Nat) : Nat := kpress (gk g t) (gw g t)
def gbears (g : Nat → Nat) (t : Nat) : Nat := kbears (gk g t) (gs g t)
/-- o lies above t -/
def gab (g : Nat → Nat) (o t : Nat) : Bool := decide (gp g o = gp g t) && decide (go g t < go g o)
def gload (g : Nat → Nat) (t : Nat) : Nat := zS (fun o => if (decide (3 ≤ gp g t) && gab g o t) = true then gpress g o else 0) (g 3)
def gset (g : Nat → Nat) (p : Nat) : Nat := zB (fun t => decide (gp g t = p)) (g 3)
def gweighs (g : Nat → Nat) (b : Nat) : Nat := zS (fun t => if gp g t = 3 + b then gw g t else 0) (g 3)
def gbroken (g : Nat → Nat) : Nat := zB (fun t => decide (gc g t = 1)) (g 3)
def gfirst (g : Nat → Nat) (p : Nat) : Nat → Option Nat
  | 0 => none
  | n + 1 => match gfirst g p n with
    | none => if gp g n = p then some n else none
    | some t => if gp g n = p ∧ go g n < go g t then some n else some t
def gtop (g : Nat → Nat) (p : Nat) : Nat → Option Nat
  | 0 => none
  | n + 1 => match gtop g p n with
    | none => if gp g n = p then some n else none
    | some t => if gp g n = p ∧ go g t < go g n then some n else some t
def zopt : Option Nat → Int32
  | none => -1000000
  | some t => nI t
def zRow (q : Nat) : Prop := q = 68 ∨ q = 69 ∨ q = 70
theorem zRow.is {q : Nat} (h : zRow q) : zIs q 55 := by
  rcases h with rfl | rfl | rfl
  · exact za_68
  · exact za_69
  · exact za_70
/-- row q holds g -/
def mR (A : Nat → Nat → Int32) (q : Nat) (g : Nat → Nat) : Prop := zRow q ∧ ∀ j, j < 55 → A q j = nI (g j)
/-- small numbers, at most seven things -/
def gB (g : Nat → Nat) : Prop := g 3 ≤ 7 ∧ g 0 ≤ 3 ∧ (∀ j, g j < 2 ^ 20) ∧ ∀ t, t < 7 → gs g t ≤ 9
theorem znI {a b : Nat} (ha : a < 2 ^ 31) (hb : b < 2 ^ 31) : (nI a = nI b) = (a = b) := propext (nI_eq ha hb)
theorem znL {a b : Nat} (ha : a < 2 ^ 31) (hb : b < 2 ^ 31) : (nI a ≤ nI b) = (a ≤ b) := propext (nI_leI ha hb)
theorem znT {a b : Nat} (ha : a < 2 ^ 31) (hb : b < 2 ^ 31) : (nI a < nI b) = (a < b) := propext (nI_ltI ha hb)
section
variable {A : Nat → Nat → Int32} {q : Nat} {g : Nat → Nat} (L : Nat) (xs : Nat → Int32) (d : Nat) (I : Nat → Nat → Int32) (b : Value)
theorem m_of (hR : mR A q g) {t w : Nat} (ht : t < 7) (hw : w < 7) : pm_call L xs (d + 1) m_Model_of [.ref q, .int (nI t), .int (nI w)] (zL I A b) = some (some (.int (nI (g (6 + 7 * t + w)))), zL I A b) := by
  rw [C_Model_of, B_Model_of_0]
  simp only [zl6, zl7, pk_mul, nI_add]
  rw [z_rd hR.1.is (by omega), zbS, hR.2 _ (by omega)]
theorem m_in (v lo hi : Int32) (σ : pm_H) : pm_call L xs (d + 1) m_Model_in [.long (Int32.toInt64 v), .long (Int32.toInt64 lo), .long (Int32.toInt64 hi)] σ = some (some (.int (if lo ≤ v ∧ v ≤ hi then 1 else 0)), σ) := by
  rw [C_Model_in, B_Model_in_0, B_Model_in_3]
  have h1 : (lg_cmp (Int32.toInt64 v) (Int32.toInt64 lo) < 0) ↔ ¬ lo ≤ v := by
    rw [← fa_wide_le lo v, ← lg_cmp_ge]
    rw [fa_lt, fa_le]
    omega
  by_cases h : lo ≤ v
  · rw [if_neg (fun z => (h1.mp z) h), B_Model_in_10]
    have h2 : (0 < lg_cmp (Int32.toInt64 v) (Int32.toInt64 hi)) ↔ ¬ v ≤ hi := by
      unfold lg_cmp
      have e1 := fa_wide_lt hi v
      have e2 := fa_wide_eq v hi
      have e3 := fa_lt hi v
      have e4 := fa_le v hi
      simp only [gt_iff_lt]
      by_cases c1 : hi.toInt64 < v.toInt64
      · rw [if_pos c1]
        have := e3.mp (e1.mp c1)
        constructor
        · intro _ z; have := e4.mp z; omega
        · intro _; decide
      · rw [if_neg c1]
        have hle : v ≤ hi := e4.mpr (by
          have : ¬ hi.toInt < v.toInt := fun z => c1 (e1.mpr (e3.mpr z))
          omega)
        by_cases c2 : v.toInt64 = hi.toInt64
        · rw [if_pos c2]
          constructor
          · intro z; exact absurd z (by decide)
          · intro z; exact absurd hle z
        · rw [if_neg c2]
          constructor
          · intro z; exact absurd z (by decide)
          · intro z; exact absurd hle z
    by_cases h3 : v ≤ hi
    · rw [if_neg (fun z => (h2.mp z) h3), if_pos ⟨h, h3⟩]
    · rw [if_pos (h2.mpr h3), if_neg (fun z => h3 z.2)]
  · rw [if_pos (h1.mpr h), if_neg (fun z => h z.1)]
theorem m_presses (hR : mR A q g) (hB : gB g) {t : Nat} (ht : t < 7) : pm_call L xs (d + 2) m_Model_presses [.ref q, .int (nI t)] (zL I A b) = some (some (.int (nI (gpress g t))), zL I A b) := by
  rw [C_Model_presses, B_Model_presses_0]
  simp only [zl0, zl1, zl2, zl3, zl4]
  simp only [m_of L xs d I b hR ht (show 0 < 7 by decide), m_of L xs d I b hR ht (show 1 < 7 by decide), zbI]
  have hk := hB.2.2.1 (6 + 7 * t + 0)
  have hw := hB.2.2.1 (6 + 7 * t + 1)
  simp only [znI (show g (6 + 7 * t + 0) < 2 ^ 31 by omega) (show 1 < 2 ^ 31 by decide), znI (show g (6 + 7 * t + 0) < 2 ^ 31 by omega) (show 2 < 2 ^ 31 by decide), znI (show g (6 + 7 * t + 0) < 2 ^ 31 by omega) (show 3 < 2 ^ 31 by decide), znI (show g (6 + 7 * t + 0) < 2 ^ 31 by omega) (show 4 < 2 ^ 31 by decide), nI_add, pk_div (show g (6 + 7 * t + 1) < 2 ^ 31 by omega) (show 0 < 2 by decide) (show 2 < 2 ^ 31 by decide)]
  unfold gpress kpress gk gw
  generalize g (6 + 7 * t + 0) = k
  generalize g (6 + 7 * t + 1) = w
  by_cases h1 : k = 1
  · subst h1; rfl
  · by_cases h2 : k = 2
    · subst h2; rfl
    · by_cases h3 : k = 3
      · subst h3; rfl
      · by_cases h4 : k = 4
        · subst h4; rfl
        · simp only [h1, h2, h3, h4, if_false]
theorem m_bears (hR : mR A q g) (hB : gB g) {t : Nat} (ht : t < 7) : pm_call L xs (d + 2) m_Model_bears [.ref q, .int (nI t)] (zL I A b) = some (some (.int (nI (gbears g t))), zL I A b) := by
  rw [C_Model_bears, B_Model_bears_0]
  simp only [zl0, zl1, zl2, zl3, zl4, zl9]
  simp only [m_of L xs d I b hR ht (show 0 < 7 by decide), m_of L xs d I b hR ht (show 2 < 7 by decide), zbI]
  have hk := hB.2.2.1 (6 + 7 * t + 0)
  have hs : g (6 + 7 * t + 2) ≤ 9 := hB.2.2.2 t ht
  simp only [znI (show g (6 + 7 * t + 0) < 2 ^ 31 by omega) (show 1 < 2 ^ 31 by decide), znI (show g (6 + 7 * t + 0) < 2 ^ 31 by omega) (show 2 < 2 ^ 31 by decide), znI (show g (6 + 7 * t + 0) < 2 ^ 31 by omega) (show 3 < 2 ^ 31 by decide), znI (show g (6 + 7 * t + 0) < 2 ^ 31 by omega) (show 4 < 2 ^ 31 by decide), pk_sub hs, pk_div (show 9 - g (6 + 7 * t + 2) < 2 ^ 31 by omega) (show 0 < 2 by decide) (show 2 < 2 ^ 31 by decide)]
  unfold gbears kbears gk gs
  generalize g (6 + 7 * t + 0) = k
  generalize g (6 + 7 * t + 2) = w
  by_cases h1 : k = 1
  · subst h1; rfl
  · by_cases h2 : k = 2
    · subst h2; rfl
    · by_cases h3 : k = 3
      · subst h3; rfl
      · by_cases h4 : k = 4
        · subst h4; rfl
        · simp only [h1, h2, h3, h4, if_false]
theorem m_isAbove (hR : mR A q g) (hB : gB g) {o t : Nat} (ho : o < 7) (ht : t < 7) : pm_call L xs (d + 2) m_Model_isAbove [.ref q, .int (nI o), .int (nI t)] (zL I A b) = some (some (.int (if gab g o t = true then 1 else 0)), zL I A b) := by
  rw [C_Model_isAbove, B_Model_isAbove_0]
  simp only [zl3, zl4]
  simp only [m_of L xs d I b hR ho (show 3 < 7 by decide), m_of L xs d I b hR ho (show 4 < 7 by decide), m_of L xs d I b hR ht (show 3 < 7 by decide), m_of L xs d I b hR ht (show 4 < 7 by decide), zbI]
  have h1 := hB.2.2.1 (6 + 7 * o + 3)
  have h2 := hB.2.2.1 (6 + 7 * o + 4)
  have h3 := hB.2.2.1 (6 + 7 * t + 3)
  have h4 := hB.2.2.1 (6 + 7 * t + 4)
  simp only [znI (show g (6 + 7 * o + 3) < 2 ^ 31 by omega) (show g (6 + 7 * t + 3) < 2 ^ 31 by omega), znL (show g (6 + 7 * o + 4) < 2 ^ 31 by omega) (show g (6 + 7 * t + 4) < 2 ^ 31 by omega)]
  unfold gab gp go
  by_cases c1 : g (6 + 7 * o + 3) = g (6 + 7 * t + 3)
  · by_cases c2 : g (6 + 7 * o + 4) ≤ g (6 + 7 * t + 4)
    · simp [c1, c2, show ¬ g (6 + 7 * t + 4) < g (6 + 7 * o + 4) by omega]
    · simp [c1, c2, show g (6 + 7 * t + 4) < g (6 + 7 * o + 4) by omega]
  · simp [c1]
theorem m_loadOf (hR : mR A q g) (hB : gB g) {t : Nat} (ht : t < 7) : pm_call L xs (d + 3) m_Model_loadOf [.ref q, .int (nI t)] (zL I A b) = some (some (.int (nI (gload g t))), zL I A b) := by
  rw [C_Model_loadOf, B_Model_loadOf_0]
  have hn := hB.1
  have hp := hB.2.2.1 (6 + 7 * t + 3)
  refine (zloop (fun k a => zE L xs (d + 2) K_Model_loadOf 4 [some (.ref q), some (.int (nI t)), some (.int a), some (.int k)] [] (zL I A b)) (fun o a => a + nI (if (decide (3 ≤ gp g t) && gab g o t) = true then gpress g o else 0)) (g 3) (fun a => some (some (.int a), zL I A b)) (fun o a ho => ?_) (fun a => ?_) 0).trans ?_
  · rw [B_Model_loadOf_4]
    simp only [zl0, zl3]
    have hr3 : pm_rd 0 (zL I A b) q (nI 3) = some (nI (g 3)) := by rw [z_rd hR.1.is (by decide), hR.2 3 (by decide)]
    simp only [hr3, zbS, m_of L xs (d + 1) I b hR ht (show 3 < 7 by decide), zbI, znL (show g 3 < 2 ^ 31 by omega) (show o < 2 ^ 31 by omega), znT (show g (6 + 7 * t + 3) < 2 ^ 31 by omega) (show 3 < 2 ^ 31 by decide)]
    rw [if_neg (show ¬ g 3 ≤ o by omega)]
    by_cases c1 : g (6 + 7 * t + 3) < 3
    · rw [if_pos c1]
      have e1 : (decide (3 ≤ gp g t) && gab g o t) = false := by simp [show ¬ 3 ≤ g (6 + 7 * t + 3) by omega]
      rw [e1]
      rfl
    · rw [if_neg c1]
      simp only [m_isAbove L xs d I b hR hB (show o < 7 by omega) ht, zbI]
      have e2 : decide (3 ≤ gp g t) = true := decide_eq_true (show 3 ≤ g (6 + 7 * t + 3) by omega)
      rw [e2, Bool.true_and]
      by_cases c2 : gab g o t = true
      · rw [if_pos c2, if_pos c2, if_neg (by decide)]
        simp only [m_presses L xs d I b hR hB (show o < 7 by omega), zbI]
      · rw [if_neg c2, if_neg c2, if_pos zl0]
  · rw [B_Model_loadOf_4]
    simp only [zl3]
    have hr3 : pm_rd 0 (zL I A b) q (nI 3) = some (nI (g 3)) := by rw [z_rd hR.1.is (by decide), hR.2 3 (by decide)]
    simp only [hr3, zbS]
    rw [if_pos (nI_le (Nat.le_refl _) (by omega))]
  · rw [zl0, zF_sum (fun o => if (decide (3 ≤ gp g t) && gab g o t) = true then gpress g o else 0) _ _ (fun k _ => rfl)]
    rfl
end
