/-! numbers (the fa_ family is the kit's, pasted) -/
theorem fa_lt (a b : Int32) : a < b ↔ a.toInt < b.toInt := Int32.lt_iff_toInt_lt
theorem fa_le (a b : Int32) : a ≤ b ↔ a.toInt ≤ b.toInt := Int32.le_iff_toInt_le
theorem fa_eq (a b : Int32) : a = b ↔ a.toInt = b.toInt := Int32.toInt_inj.symm
theorem fa_lt64 (a b : Int64) : a < b ↔ a.toInt < b.toInt := Int64.lt_iff_toInt_lt
theorem fa_le64 (a b : Int64) : a ≤ b ↔ a.toInt ≤ b.toInt := Int64.le_iff_toInt_le
theorem fa_eq64 (a b : Int64) : a = b ↔ a.toInt = b.toInt := Int64.toInt_inj.symm
/-- a comparison of two ints taken as longs -/
theorem fa_wide_lt (a b : Int32) : a.toInt64 < b.toInt64 ↔ a < b := by rw [fa_lt64, fa_lt, Int32.toInt_toInt64, Int32.toInt_toInt64]
theorem fa_wide_le (a b : Int32) : a.toInt64 ≤ b.toInt64 ↔ a ≤ b := by rw [fa_le64, fa_le, Int32.toInt_toInt64, Int32.toInt_toInt64]
theorem fa_wide_eq (a b : Int32) : a.toInt64 = b.toInt64 ↔ a = b := by rw [fa_eq64, fa_eq, Int32.toInt_toInt64, Int32.toInt_toInt64]
/-- one strict comparison gives all the others -/
theorem fa_of_lt {a b : Int32} (h : a < b) : a ≤ b ∧ ¬ b ≤ a ∧ ¬ b < a ∧ a ≠ b ∧ b ≠ a := by
  rw [fa_lt] at h
  refine ⟨?_, ?_, ?_, ?_, ?_⟩
  · rw [fa_le]; omega
  · rw [fa_le]; omega
  · rw [fa_lt]; omega
  · intro e; rw [fa_eq] at e; omega
  · intro e; rw [fa_eq] at e; omega
theorem fa_of_nlt {a b : Int32} (h : ¬ a < b) : b ≤ a := by
  rw [fa_lt] at h
  rw [fa_le]
  omega
theorem fa_of_nle {a b : Int32} (h : ¬ a ≤ b) : b < a := by
  rw [fa_le] at h
  rw [fa_lt]
  omega
theorem fa_le_ne {a b : Int32} (h : a ≤ b) (h2 : a ≠ b) : a < b := by
  rw [fa_le] at h
  rw [fa_lt]
  have h3 : a.toInt ≠ b.toInt := fun e => h2 ((fa_eq a b).mpr e)
  omega
theorem fa_three (a b : Int32) : a < b ∨ a = b ∨ b < a := by
  rw [fa_lt, fa_lt, fa_eq]
  omega
theorem fa_trans {a b c : Int32} (h : a < b) (h2 : b ≤ c) : a < c := by
  rw [fa_lt] at *
  rw [fa_le] at h2
  omega
/-! ===== small literals as numbers ===== -/
theorem fa_lit (n : Nat) : (OfNat.ofNat n : Int32) = nI n := rfl
theorem fa_litL (n : Nat) : (OfNat.ofNat n : Int64) = lN n := rfl
/-! ===== bits of a number: 'or', masks, one bit ===== -/
theorem fa_and (a b : Nat) : nI a &&& nI b = nI (a &&& b) := by
  apply Int32.toBitVec_inj.1
  show BitVec.ofNat 32 a &&& BitVec.ofNat 32 b = BitVec.ofNat 32 (a &&& b)
  apply BitVec.eq_of_getLsbD_eq
  intro i hi
  simp [hi]
theorem fa_or (a b : Nat) : nI a ||| nI b = nI (a ||| b) := by
  apply Int32.toBitVec_inj.1
  show BitVec.ofNat 32 a ||| BitVec.ofNat 32 b = BitVec.ofNat 32 (a ||| b)
  apply BitVec.eq_of_getLsbD_eq
  intro i hi
  simp [hi]
/-- a remainder by a power of two, as a mask -/
theorem fa_mask (n k : Nat) : nI n &&& nI (2 ^ k - 1) = nI (n % 2 ^ k) := by rw [fa_and, Nat.and_two_pow_sub_one_eq_mod]
/-- 'or' of a high part and a low one that don't meet is their sum -/
theorem fa_or_sum {a k : Nat} (b : Nat) (h : a < 2 ^ k) : nI (2 ^ k * b) ||| nI a = nI (2 ^ k * b + a) := by rw [fa_or, Nat.two_pow_add_eq_or_of_lt h]

theorem zbI {x : Int32} {σ : pm_H} {f : Int32 × pm_H → Option pm_R} : (pm_cI (some (some (.int x), σ))).bind f = f (x, σ) := rfl
theorem zbJ {x : Int64} {σ : pm_H} {f : Int64 × pm_H → Option pm_R} : (pm_cJ (some (some (.long x), σ))).bind f = f (x, σ) := rfl
theorem zbV {σ : pm_H} {f : pm_H → Option pm_R} : (pm_cV (some (none, σ))).bind f = f σ := rfl
theorem zbS {α : Type} {x : α} {f : α → Option pm_R} : (some x).bind f = f x := rfl
theorem zl0 : (0 : Int32) = nI 0 := by decide +kernel
theorem zl1 : (1 : Int32) = nI 1 := by decide +kernel
theorem zl2 : (2 : Int32) = nI 2 := by decide +kernel
theorem zl3 : (3 : Int32) = nI 3 := by decide +kernel
theorem zl4 : (4 : Int32) = nI 4 := by decide +kernel
theorem zl5 : (5 : Int32) = nI 5 := by decide +kernel
theorem zl6 : (6 : Int32) = nI 6 := by decide +kernel
theorem zl7 : (7 : Int32) = nI 7 := by decide +kernel
theorem zl9 : (9 : Int32) = nI 9 := by decide +kernel
theorem zif (P : Prop) [Decidable P] : ((if P then (1 : Int32) else 0) = 0) ↔ ¬ P := by
  by_cases h : P <;> simp [h]
theorem zif1 (P : Prop) [Decidable P] : ((if P then (1 : Int32) else 0) = 1) ↔ P := by
  by_cases h : P <;> simp [h]
-- a sum
def zS (f : Nat → Nat) : Nat → Nat
  | 0 => 0
  | n + 1 => zS f n + f n
theorem zS_congr {f g : Nat → Nat} : ∀ n, (∀ k, k < n → f k = g k) → zS f n = zS g n
  | 0, _ => rfl
  | n + 1, h => by unfold zS; rw [zS_congr n (fun k hk => h k (by omega)), h n (by omega)]
theorem zS_le {f : Nat → Nat} {c : Nat} : ∀ n, (∀ k, k < n → f k ≤ c) → zS f n ≤ n * c
  | 0, _ => by simp [zS]
  | n + 1, h => by
    have h1 := zS_le n (fun k hk => h k (by omega))
    have h2 := h n (by omega)
    unfold zS
    rw [Nat.succ_mul]
    omega
theorem zF_sum (f : Nat → Nat) (g : Nat → Int32) : ∀ n, (∀ k, k < n → g k = nI (f k)) → zF (fun k a => a + g k) n (nI 0) = nI (zS f n)
  | 0, _ => rfl
  | n + 1, h => by
    show zF (fun k a => a + g k) n (nI 0) + g n = nI (zS f n + f n)
    rw [zF_sum f g n (fun k hk => h k (by omega)), h n (by omega), nI_add]
theorem zF_congr {α : Type} {f g : Nat → α → α} : ∀ n a, (∀ k a, k < n → f k a = g k a) → zF f n a = zF g n a
  | 0, _, _ => rfl
  | n + 1, a, h => by
    show f n (zF f n a) = g n (zF g n a)
    rw [zF_congr n a (fun k a hk => h k a (by omega)), h n _ (by omega)]
-- a set of numbers as bits
def zB (P : Nat → Bool) : Nat → Nat
  | 0 => 0
  | n + 1 => zB P n + (if P n then 2 ^ n else 0)
theorem zB_lt (P : Nat → Bool) : ∀ n, zB P n < 2 ^ n
  | 0 => by simp [zB]
  | n + 1 => by
    have := zB_lt P n
    unfold zB
    rw [Nat.pow_succ]
    split <;> omega
theorem zB_congr {P Q : Nat → Bool} : ∀ n, (∀ k, k < n → P k = Q k) → zB P n = zB Q n
  | 0, _ => rfl
  | n + 1, h => by unfold zB; rw [zB_congr n (fun k hk => h k (by omega)), h n (by omega)]
theorem zsh {k : Nat} (hk : k < 31) : (1 : Int32) <<< (nI k &&& 31) = nI (2 ^ k) := by
  have : ∀ k, k < 31 → (1 : Int32) <<< (nI k &&& 31) = nI (2 ^ k) := by decide +kernel
  exact this k hk
theorem zor {a k : Nat} (ha : a < 2 ^ k) (hk : k < 31) : nI a ||| ((1 : Int32) <<< (nI k &&& 31)) = nI (a + 2 ^ k) := by
  rw [zsh hk, fa_or, Nat.or_comm]
  have h := Nat.two_pow_add_eq_or_of_lt ha 1
  rw [Nat.mul_one] at h
  rw [← h, Nat.add_comm]
theorem zor0 (a : Int32) : a ||| 0 = a := by
  rw [← Int32.toBitVec_inj]
  simp
theorem zF_bits (P : Nat → Bool) (g : Nat → Int32 → Int32) : ∀ n, n ≤ 31 → (∀ k a, k < n → g k a = if P k then a ||| ((1 : Int32) <<< (nI k &&& 31)) else a) → zF g n (nI 0) = nI (zB P n)
  | 0, _, _ => rfl
  | n + 1, hn, h => by
    show g n (zF g n (nI 0)) = nI (zB P n + _)
    rw [zF_bits P g n (by omega) (fun k a hk => h k a (by omega)), h n _ (by omega)]
    cases hP : P n with
    | true => simp only [if_true]; rw [zor (zB_lt P n) (by omega)]
    | false => simp
theorem ztb (P : Nat → Bool) : ∀ n k, (zB P n).testBit k = (decide (k < n) && P k)
  | 0, k => by simp [zB]
  | n + 1, k => by
    have hl := zB_lt P n
    unfold zB
    cases hP : P n with
    | true =>
      simp only [if_true]
      rw [Nat.add_comm]
      have h := Nat.two_pow_add_eq_or_of_lt hl 1
      rw [Nat.mul_one] at h
      rw [h, Nat.testBit_or, ztb P n k, Nat.testBit_two_pow]
      by_cases h1 : k = n
      · subst h1; simp [hP]
      · by_cases h2 : k < n
        · simp [h2, show k < n + 1 by omega, show ¬ n = k by omega]
        · simp [h2, show ¬ k < n + 1 by omega, show ¬ n = k by omega]
    | false =>
      simp only [Bool.false_eq_true, if_false, Nat.add_zero]
      rw [ztb P n k]
      by_cases h1 : k = n
      · subst h1; simp [hP]
      · by_cases h2 : k < n
        · simp [h2, show k < n + 1 by omega]
        · simp [h2, show ¬ k < n + 1 by omega]
/-- one bit of a number -/
theorem zbit {a k : Nat} (ha : a < 2 ^ 31) (hk : k < 31) : (nI a >>> (nI k &&& 31)) &&& 1 = nI (a / 2 ^ k % 2) := by
  have hs : ∀ k, k < 31 → ((nI k &&& 31).toBitVec.smod 32).toNat = k := by decide +kernel
  rw [pk_shrN ha _ k (hs k hk), zl1, show nI 1 = nI (2 ^ 1 - 1) from rfl, fa_mask]
theorem ztest {a k : Nat} : (a / 2 ^ k % 2 = 1) ↔ a.testBit k = true := by
  rw [Nat.testBit_eq_decide_div_mod_eq]
  simp
/-- how many of a set -/
def zC (P : Nat → Bool) : Nat → Nat
  | 0 => 0
  | n + 1 => zC P n + (if P n then 1 else 0)
theorem zC_le (P : Nat → Bool) : ∀ n, zC P n ≤ n
  | 0 => by simp [zC]
  | n + 1 => by
    have := zC_le P n
    unfold zC
    split <;> omega
theorem zC_congr {P Q : Nat → Bool} : ∀ n, (∀ k, k < n → P k = Q k) → zC P n = zC Q n
  | 0, _ => rfl
  | n + 1, h => by unfold zC; rw [zC_congr n (fun k hk => h k (by omega)), h n (by omega)]
