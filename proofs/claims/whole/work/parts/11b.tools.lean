/-! tools for the methods -/
def zOk (L : Nat) (xs : Nat → Int32) (B mc mm : Nat) (as : List Value) (I A : Nat → Nat → Int32) (b : Value) : Prop := ∃ (r : Int32) (I1 A1 I2 A2 : Nat → Nat → Int32) (b1 : Value), pm_call L xs 60 mc (.ref 0 :: as) (zL I A b) = some (some (.int r), zL I1 A1 b1) ∧ pm_call L xs 60 mm (.ref 64 :: as) (zL I1 A1 b1) = some (some (.int r), zL I2 A2 b1) ∧ Rel B I2 A2
section
variable {L : Nat} {xs : Nat → Int32} {B mc mm : Nat} {as : List Value} {I A I' A' : Nat → Nat → Int32} {b : Value}
theorem zKI_0 {o k : Nat} (h : zKI o k = true) : ¬ (o = 64 ∧ k = 0) := by
  rintro ⟨rfl, rfl⟩
  exact absurd h (by decide)
theorem zuI_at {o k o' k' : Nat} {x : Int32} : zuI I o k x o' k' = if o' = o ∧ k' = k then x else I o' k' := by
  unfold zuI
  by_cases h : o' = o
  · subst h
    by_cases h2 : k' = k
    · simp [h2]
    · simp [h2]
  · simp [h]
theorem zOk.pure {r : Int32} (h : Rel B I A) (hc : pm_call L xs 60 mc (.ref 0 :: as) (zL I A b) = some (some (.int r), zL I A b)) (hm : pm_call L xs 60 mm (.ref 64 :: as) (zL I A b) = some (some (.int r), zL (zuI I 64 0 0) A b)) : zOk L xs B mc mm as I A b :=
  ⟨r, I, A, zuI I 64 0 0, A, b, hc, hm, h.same (zSame.fI 64 0 0 rfl)⟩
theorem zOk.scr {r : Int32} {I1 A1 I2 A2 : Nat → Nat → Int32} {b1 : Value} (h : Rel B I A) (hc : pm_call L xs 60 mc (.ref 0 :: as) (zL I A b) = some (some (.int r), zL I1 A1 b1)) (h1 : zSame I A I1 A1) (hm : pm_call L xs 60 mm (.ref 64 :: as) (zL I1 A1 b1) = some (some (.int r), zL I2 A2 b1)) (h2 : zSame I1 A1 I2 A2) : zOk L xs B mc mm as I A b :=
  ⟨r, I1, A1, I2, A2, b1, hc, hm, h.same (h1.trans h2)⟩
theorem Rel.rows (h : Rel B I A) (hI : ∀ o k, zKI o k = true → ¬ (o = 0 ∧ k = 10) → ¬ (o = 64 ∧ k = 1) → I' o k = I o k) (hA : ∀ q, q ≠ 67 → q ≠ 66 → q ≠ 65 → ¬ (3 ≤ q ∧ q ≤ 12) → A' q = A q) (hr : zRw I' A') : Rel B I' A' := by
  obtain ⟨g, h1, h2, h3, h4, h5, h6, h7⟩ := h
  have e1 : ∀ o k, zKI o k = true → (o ≠ 0 ∨ k ≠ 10) → (o ≠ 64 ∨ k ≠ 1) → I' o k = I o k := fun o k a b c => hI o k a (by omega) (by omega)
  have e2 : ∀ q, (q < 3 ∨ 12 < q) → (q < 65 ∨ 67 < q) → A' q = A q := fun q a b => hA q (by omega) (by omega) (by omega) (by omega)
  have eI : ∀ o, (o = 15 ∨ o = 30 ∨ o = 37) → I' o = I o := fun o ho => funext (fun k => e1 o k (by rcases ho with rfl | rfl | rfl <;> simp [zKI]) (by omega) (by omega))
  exact ⟨g, hr, h2.c (e1 _ _ rfl (by omega) (by omega)) (e1 _ _ rfl (by omega) (by omega)) (e1 _ _ rfl (by omega) (by omega)) (e1 _ _ rfl (by omega) (by omega)) (e2 _ (by omega) (by omega)) (e2 _ (by omega) (by omega)), h3.c (e1 _ _ rfl (by omega) (by omega)) (e1 _ _ rfl (by omega) (by omega)) (e2 _ (by omega) (by omega)) (e2 _ (by omega) (by omega)), h4.c (by rw [e2 _ (by omega) (by omega)]) (by rw [e2 _ (by omega) (by omega)]), h5.c (eI 15 (by omega)) (fun q a b => e2 q (by omega) (by omega)) (e2 _ (by omega) (by omega)), h6.c (eI 30 (by omega)) (eI 37 (by omega)) (fun q a b => e2 q (by omega) (by omega)) (e2 _ (by omega) (by omega)) (e2 _ (by omega) (by omega)), h7.c (e1 _ _ rfl (by omega) (by omega)) (e1 _ _ rfl (by omega) (by omega)) (e1 _ _ rfl (by omega) (by omega)) (fun q a b => e2 q (by omega) (by omega)) (e2 _ (by omega) (by omega))⟩
theorem Rel.tape (h : Rel B I A) (hI : ∀ o k, zKI o k = true → ¬ (o = 0 ∧ k = 9) → ¬ (o = 64 ∧ k = 18) → ¬ (o = 13 ∧ k = 1) → ¬ (o = 64 ∧ k = 11) → I' o k = I o k) (hA : ∀ q, q ≠ 14 → q ≠ 72 → A' q = A q) (hr : zTp I' A') : Rel B I' A' := by
  obtain ⟨g, h1, h2, h3, h4, h5, h6, h7⟩ := h
  have e1 : ∀ o k, zKI o k = true → (o ≠ 0 ∨ k ≠ 9) → (o ≠ 64 ∨ k ≠ 18) → (o ≠ 13 ∨ k ≠ 1) → (o ≠ 64 ∨ k ≠ 11) → I' o k = I o k := fun o k a b c d e => hI o k a (by omega) (by omega) (by omega) (by omega)
  have eI : ∀ o, (o = 15 ∨ o = 30 ∨ o = 37) → I' o = I o := fun o ho => funext (fun k => e1 o k (by rcases ho with rfl | rfl | rfl <;> simp [zKI]) (by omega) (by omega) (by omega) (by omega))
  exact ⟨g, h1.c (e1 _ _ rfl (by omega) (by omega) (by omega) (by omega)) (e1 _ _ rfl (by omega) (by omega) (by omega) (by omega)) (fun q a b => hA q (by omega) (by omega)) (hA _ (by omega) (by omega)) (hA _ (by omega) (by omega)) (hA _ (by omega) (by omega)), hr, h3.c (e1 _ _ rfl (by omega) (by omega) (by omega) (by omega)) (e1 _ _ rfl (by omega) (by omega) (by omega) (by omega)) (hA _ (by omega) (by omega)) (hA _ (by omega) (by omega)), h4.c (by rw [hA _ (by omega) (by omega)]) (by rw [hA _ (by omega) (by omega)]), h5.c (eI 15 (by omega)) (fun q a b => hA q (by omega) (by omega)) (hA _ (by omega) (by omega)), h6.c (eI 30 (by omega)) (eI 37 (by omega)) (fun q a b => hA q (by omega) (by omega)) (hA _ (by omega) (by omega)) (hA _ (by omega) (by omega)), h7.c (e1 _ _ rfl (by omega) (by omega) (by omega) (by omega)) (e1 _ _ rfl (by omega) (by omega) (by omega) (by omega)) (e1 _ _ rfl (by omega) (by omega) (by omega) (by omega)) (fun q a b => hA q (by omega) (by omega)) (hA _ (by omega) (by omega))⟩
end
/-- row q with f 0, f 1 .. at its places p, p + 1 .. -/
def zcp (A : Nat → Nat → Int32) (q p n : Nat) (f : Nat → Int32) : Nat → Nat → Int32 := fun q' => if q' = q then (fun j => if p ≤ j ∧ j < p + n then f (j - p) else A q j) else A q'
section
variable {A : Nat → Nat → Int32} {q p n : Nat} {f : Nat → Int32}
theorem zcp_o {q' : Nat} (h : q' ≠ q) : zcp A q p n f q' = A q' := by simp [zcp, h]
theorem zcp_at {i : Nat} (h : i < n) : zcp A q p n f q (p + i) = f i := by
  unfold zcp
  simp only [if_true]
  rw [if_pos ⟨by omega, by omega⟩, Nat.add_sub_cancel_left]
theorem zcp_out {j : Nat} (h : j < p ∨ p + n ≤ j) : zcp A q p n f q j = A q j := by
  unfold zcp
  simp only [if_true]
  rw [if_neg (by omega)]
theorem zcp_0 : zcp A q p 0 f = A := by
  funext q' j
  by_cases h : q' = q
  · subst h; exact zcp_out (by omega)
  · rw [zcp_o h]
theorem zcp_s : zuA (zcp A q p n f) q (p + n) (f n) = zcp A q p (n + 1) f := by
  funext q' j
  by_cases h : q' = q
  · subst h
    rw [zuA_s]
    unfold upd
    by_cases hj : j = p + n
    · subst hj
      rw [if_pos rfl, zcp_at (by omega)]
    · rw [if_neg hj]
      by_cases h1 : p ≤ j ∧ j < p + n
      · have e : j = p + (j - p) := by omega
        rw [e, zcp_at (by omega), zcp_at (by omega)]
      · rw [zcp_out (by omega), zcp_out (by omega)]
  · rw [zuA_o h, zcp_o h, zcp_o h]
end
/-- a loop that writes a row's places one behind another -/
theorem zfill {β : Type} (F : Int32 → (Nat → Nat → Int32) → β) (A : Nat → Nat → Int32) (q p n : Nat) (f : Nat → Int32) (hs : ∀ k, k < n → F (nI k) (zcp A q p k f) = F (nI k + 1) (zuA (zcp A q p k f) q (p + k) (f k))) : F 0 A = F (nI n) (zcp A q p n f) := by
  induction n with
  | zero => rw [zcp_0]; rfl
  | succ n ih =>
    rw [ih (fun k hk => hs k (by omega)), hs n (by omega), zcp_s, nI_1]
theorem zmm {v : Int32} {k : Nat} (hk : k < 2 ^ 31) (h0 : 0 ≤ v) (h1 : v ≤ nI k) : ∃ n : Nat, n ≤ k ∧ v = nI n := nI_of2 (nI_toInt hk) (by rw [fa_le] at h0; rw [fa_lt]; omega) h1
theorem zl8 : (8 : Int32) = nI 8 := by decide +kernel
theorem zl20 : (20 : Int32) = nI 20 := by decide +kernel
theorem zl24 : (24 : Int32) = nI 24 := by decide +kernel
theorem zl39 : (39 : Int32) = nI 39 := by decide +kernel
theorem zl40 : (40 : Int32) = nI 40 := by decide +kernel
theorem zl55 : (55 : Int32) = nI 55 := by decide +kernel
theorem zl10 : (10 : Int32) = nI 10 := by decide +kernel
theorem zl16 : (16 : Int32) = nI 16 := by decide +kernel
theorem zl60 : (60 : Int32) = nI 60 := by decide +kernel
theorem zl120 : (120 : Int32) = nI 120 := by decide +kernel
theorem zl255 : (255 : Int32) = nI 255 := by decide +kernel
theorem zl999 : (999 : Int32) = nI 999 := by decide +kernel
theorem zn0 {n : Nat} (h : n < 2 ^ 31) : (0 ≤ nI n) = True := by rw [eq_true (nI_pos' h)]
theorem zn1 {n : Nat} (h : n < 2 ^ 31) : (nI n < 0) = False := by rw [eq_false (nI_pos h)]
theorem zn2 {n : Nat} (h : n < 2 ^ 31) : (nI n = -1) = False := by
  apply eq_false
  intro e
  have := (fa_eq _ _).mp e
  rw [nI_toInt h] at this
  have h1 : (-1 : Int32).toInt = -1 := by decide
  omega
theorem zne {P : Prop} [Decidable P] : ((if P then (1 : Int32) else 0) = 0) = ¬ P := propext (zif P)
/-- a comparison of two ints with their sum as longs -/
theorem zwide {a c e : Int32} : (0 < lg_cmp (Int32.toInt64 a + Int32.toInt64 c) (Int32.toInt64 e)) = (e.toInt < a.toInt + c.toInt) := by
  apply propext
  rw [lg_cmp_gt, fa_lt64, lg_i2l_add, Int32.toInt_toInt64]
