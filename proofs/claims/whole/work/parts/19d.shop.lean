section
variable {n : Nat} {tp : Nat → Nat}
abbrev zTg := List (Nat × Nat × Nat)
/-- a SHOP that is read, as a row -/
def gN (B H W : Nat) (T : zTg) : Nat → Nat := fun j => if j = 0 then B else if j = 1 then H else if j = 2 then W else if j = 3 then T.length else if j = 4 then 0 else if j = 5 then T.length else if (j - 6) / 7 < T.length then (if (j - 6) % 7 = 0 then (T.getD ((j - 6) / 7) (0, 0, 0)).1 else if (j - 6) % 7 = 1 then (T.getD ((j - 6) / 7) (0, 0, 0)).2.1 else if (j - 6) % 7 = 2 then (T.getD ((j - 6) / 7) (0, 0, 0)).2.2 else if (j - 6) % 7 = 4 then (j - 6) / 7 else 0) else 0
def tgOK (T : zTg) : Prop := T.length ≤ 7 ∧ ∀ t, t < T.length → (1 ≤ (T.getD t (0, 0, 0)).1 ∧ (T.getD t (0, 0, 0)).1 ≤ 5) ∧ (1 ≤ (T.getD t (0, 0, 0)).2.1 ∧ (T.getD t (0, 0, 0)).2.1 ≤ 20) ∧ (T.getD t (0, 0, 0)).2.2 ≤ 9
variable {B H W : Nat} {T : zTg} {t : Nat}
theorem gN_w (w : Nat) (hw : w < 7) : gN B H W T (6 + 7 * t + w) = if t < T.length then (if w = 0 then (T.getD t (0, 0, 0)).1 else if w = 1 then (T.getD t (0, 0, 0)).2.1 else if w = 2 then (T.getD t (0, 0, 0)).2.2 else if w = 4 then t else 0) else 0 := by
  unfold gN
  rw [if_neg (by omega), if_neg (by omega), if_neg (by omega), if_neg (by omega), if_neg (by omega), if_neg (by omega), show (6 + 7 * t + w - 6) / 7 = t by omega, show (6 + 7 * t + w - 6) % 7 = w by omega]
theorem gN_3 : gN B H W T 3 = T.length := rfl
theorem gN_p : gp (gN B H W T) t = 0 := by
  show gN B H W T (6 + 7 * t + 3) = 0
  rw [gN_w 3 (by decide)]
  split <;> rfl
theorem gN_o (h : t < T.length) : go (gN B H W T) t = t := by
  show gN B H W T (6 + 7 * t + 4) = t
  rw [gN_w 4 (by decide), if_pos h]
  rfl
theorem gN_c : gc (gN B H W T) t = 0 := by
  show gN B H W T (6 + 7 * t + 5) = 0
  rw [gN_w 5 (by decide)]
  split <;> rfl
theorem gN_k (h : t < T.length) : gk (gN B H W T) t = (T.getD t (0, 0, 0)).1 := by
  show gN B H W T (6 + 7 * t + 0) = _
  rw [gN_w 0 (by decide), if_pos h]
  rfl
theorem gN_ww (h : t < T.length) : gw (gN B H W T) t = (T.getD t (0, 0, 0)).2.1 := by
  show gN B H W T (6 + 7 * t + 1) = _
  rw [gN_w 1 (by decide), if_pos h]
  rfl
theorem gN_s (h : t < T.length) : gs (gN B H W T) t = (T.getD t (0, 0, 0)).2.2 := by
  show gN B H W T (6 + 7 * t + 2) = _
  rw [gN_w 2 (by decide), if_pos h]
  rfl
theorem zC_gt (t : Nat) : ∀ m, zC (fun u => decide (t < u)) m = m - (t + 1)
  | 0 => by show 0 = 0 - (t + 1); omega
  | m + 1 => by
    rw [zC_s, zC_gt t m]
    by_cases c : t < m
    · simp [c]; omega
    · simp [c]; omega
theorem gN_h (h : t < T.length) : gh (gN B H W T) t = T.length - 1 - t := by
  unfold gh
  rw [if_pos gN_p, gN_3, zC_congr (Q := fun u => decide (t < u)) _ (fun u hu => by rw [gN_p, gN_o h, gN_o hu]; simp), zC_gt]
  omega
theorem gN_br : gbroken (gN B H W T) = 0 := by
  unfold gbroken
  rw [zB_congr (Q := fun _ => false) _ (fun u _ => by rw [gN_c]; simp)]
  have : ∀ m, zB (fun _ => false) m = 0 := by
    intro m
    induction m with
    | zero => rfl
    | succ m ih => rw [zB_s, ih]; rfl
  exact this _
theorem gN_I (hB : 1 ≤ B ∧ B ≤ 3) (hH : H ≤ 60) (hW : W ≤ 40) (hT : tgOK T) {X : Nat} (hX : 7 ≤ X) : gI X (gN B H W T) := by
  obtain ⟨h7, ht⟩ := hT
  have val : ∀ j, gN B H W T j < 2 ^ 20 := by
    intro j
    by_cases c : j < 6
    · rcases (show j = 0 ∨ j = 1 ∨ j = 2 ∨ j = 3 ∨ j = 4 ∨ j = 5 by omega) with rfl | rfl | rfl | rfl | rfl | rfl
      · show B < _; omega
      · show H < _; omega
      · show W < _; omega
      · show T.length < _; omega
      · show 0 < _; omega
      · show T.length < _; omega
    · rw [show j = 6 + 7 * ((j - 6) / 7) + (j - 6) % 7 by omega, gN_w _ (Nat.mod_lt _ (by decide))]
      split
      · rename_i hc
        obtain ⟨q1, q2, q3⟩ := ht _ hc
        repeat' split
        all_goals omega
      · omega
  refine ⟨⟨h7, hB.2, val, fun t _ => ?_⟩, fun t u h1 h2 e => ?_, fun t h1 => ?_, fun t h1 hl => ?_, ?_, fun t h1 => ?_, fun q => ?_, ?_⟩
  · show gN B H W T (6 + 7 * t + 2) ≤ 9
    rw [gN_w 2 (by decide)]
    split
    · rename_i hc
      exact (ht t hc).2.2
    · omega
  · rw [gN_o h1, gN_o h2] at e
    exact e
  · rw [gN_o h1]
    exact h1
  · have : gload (gN B H W T) t = 0 := by
      unfold gload
      have := zS_le (f := fun o => if (decide (3 ≤ gp (gN B H W T) t) && gab (gN B H W T) o t) = true then gpress (gN B H W T) o else 0) (c := 0) (gN B H W T 3) (fun k hk => by rw [gN_p]; simp)
      omega
    omega
  · show T.length ≤ X
    omega
  · rw [gN_k h1, gN_ww h1, gN_p, gN_c]
    obtain ⟨q1, q2, q3⟩ := ht t h1
    exact ⟨q1, q2, by show 0 < 3 + B; omega, by omega⟩
  · have : B = 0 := q
    omega
  · show 0 ≤ 999
    omega
theorem gN_add (x : Nat × Nat × Nat) (h7 : T.length < 7) : ∀ j, j < 55 → gu (gu (gu (gu (gu (gu (gN B H W T) (6 + 7 * T.length) x.1) (6 + 7 * T.length + 1) x.2.1) (6 + 7 * T.length + 2) x.2.2) (6 + 7 * T.length + 4) T.length) 3 (T.length + 1)) 5 (T.length + 1) j = gN B H W (T ++ [x]) j := by
  intro j hj
  have hl : (T ++ [x]).length = T.length + 1 := by simp
  by_cases c : j < 6
  · rcases (show j = 0 ∨ j = 1 ∨ j = 2 ∨ j = 3 ∨ j = 4 ∨ j = 5 by omega) with rfl | rfl | rfl | rfl | rfl | rfl
    · rw [gu_n (by decide), gu_n (by decide), gu_n (by omega), gu_n (by omega), gu_n (by omega), gu_n (by omega)]; rfl
    · rw [gu_n (by decide), gu_n (by decide), gu_n (by omega), gu_n (by omega), gu_n (by omega), gu_n (by omega)]; rfl
    · rw [gu_n (by decide), gu_n (by decide), gu_n (by omega), gu_n (by omega), gu_n (by omega), gu_n (by omega)]; rfl
    · rw [gu_n (by decide), gu_s]; exact hl.symm
    · rw [gu_n (by decide), gu_n (by decide), gu_n (by omega), gu_n (by omega), gu_n (by omega), gu_n (by omega)]; rfl
    · rw [gu_s]; exact hl.symm
  · obtain ⟨t, w, hw, rfl⟩ : ∃ t w, w < 7 ∧ j = 6 + 7 * t + w := ⟨(j - 6) / 7, (j - 6) % 7, Nat.mod_lt _ (by decide), by omega⟩
    rw [gN_w w hw, gu_n (by omega), gu_n (by omega), hl]
    by_cases e : t = T.length
    · subst e
      rw [if_pos (by omega)]
      have hg : (T ++ [x]).getD T.length (0, 0, 0) = x := by simp
      rw [hg]
      rcases (show w = 0 ∨ w = 1 ∨ w = 2 ∨ w = 3 ∨ w = 4 ∨ w = 5 ∨ w = 6 by omega) with rfl | rfl | rfl | rfl | rfl | rfl | rfl
      · rw [gu_n (by omega), gu_n (by omega), gu_n (by omega), Nat.add_zero, gu_s]; rfl
      · rw [gu_n (by omega), gu_n (by omega), gu_s]; rfl
      · rw [gu_n (by omega), gu_s]; rfl
      · rw [gu_n (by omega), gu_n (by omega), gu_n (by omega), gu_n (by omega), gN_w 3 (by decide), if_neg (Nat.lt_irrefl _)]; rfl
      · rw [gu_s]; rfl
      · rw [gu_n (by omega), gu_n (by omega), gu_n (by omega), gu_n (by omega), gN_w 5 (by decide), if_neg (Nat.lt_irrefl _)]; rfl
      · rw [gu_n (by omega), gu_n (by omega), gu_n (by omega), gu_n (by omega), gN_w 6 (by decide), if_neg (Nat.lt_irrefl _)]; rfl
    · rw [gu_n (by omega), gu_n (by omega), gu_n (by omega), gu_n (by omega), gN_w w hw]
      by_cases c2 : t < T.length
      · have hg : (T ++ [x]).getD t (0, 0, 0) = T.getD t (0, 0, 0) := by simp only [List.getD_eq_getElem?_getD, List.getElem?_append_left c2]
        rw [if_pos c2, if_pos (show t < T.length + 1 by omega), hg]
      · rw [if_neg c2, if_neg (show ¬ t < T.length + 1 by omega)]
/-- reading, all of it -/
def pLaw (n : Nat) (tp : Nat → Nat) : (Nat × Nat) × Nat × Nat × Nat :=
  let s1 := pSg n tp 101 (0, 0)
  let r2 := pNm n tp 1 3 s1
  let s3 := pSg n tp 44 r2.1
  let r4 := pNm n tp 5 60 s3
  let s5 := pSg n tp 44 r4.1
  let r6 := pNm n tp 1 40 s5
  (pSg n tp 59 r6.1, r2.2, r4.2, r6.2)
def pTh (n : Nat) (tp : Nat → Nat) (th : Nat) (s : Nat × Nat) : (Nat × Nat) × Nat × Nat × Nat :=
  let r1 := pSo n tp th s
  let r2 := pNm n tp 1 20 r1.1
  let s3 := pSg n tp 44 r2.1
  let r4 := pNm n tp 0 9 s3
  (pSg n tp 59 r4.1, r1.2, r2.2, r4.2)
abbrev zPX := (Nat × Nat) × zTg
def pStep (n : Nat) (tp : Nat → Nat) (X : zPX) : zPX := if (pTh n tp X.2.length X.1).1.2 ≠ 0 then ((pTh n tp X.2.length X.1).1, X.2) else ((pTh n tp X.2.length X.1).1, X.2 ++ [(pTh n tp X.2.length X.1).2])
def pMore (n : Nat) (tp : Nat → Nat) : Nat → zPX → zPX
  | 0, X => X
  | m + 1, X => if X.1.2 ≠ 0 ∨ n ≤ X.1.1 then X else pMore n tp m (pStep n tp X)
theorem pSg_f {c : Nat} {s : Nat × Nat} (h : s.2 ≠ 0) : pSg n tp c s = s := by unfold pSg; rw [if_pos h]
theorem pNm_f {lo hi : Nat} {s : Nat × Nat} (h : s.2 ≠ 0) : pNm n tp lo hi s = (s, lo) := by unfold pNm; rw [if_pos h]
theorem pTh_f {th : Nat} {s : Nat × Nat} (h : (pSo n tp th s).1.2 ≠ 0) : (pTh n tp th s).1 = (pSo n tp th s).1 := by
  unfold pTh
  dsimp only
  rw [pNm_f h]
  dsimp only
  rw [pSg_f h, pNm_f h]
  dsimp only
  rw [pSg_f h]
theorem pTh_good {th : Nat} {s : Nat × Nat} (h : sGood n s) : sGood n (pTh n tp th s).1 := pSg_good (pNm_good (pSg_good (pNm_good (pSo_good h))))
theorem pLaw_good : sGood n (pLaw n tp).1 := pSg_good (pNm_good (pSg_good (pNm_good (pSg_good (pNm_good (pSg_good ⟨Nat.zero_le _, by show (0 : Nat) ≤ 3; omega⟩))))))
theorem pTh_ok {th : Nat} {s : Nat × Nat} (h : (pTh n tp th s).1.2 = 0) : s.2 = 0 ∧ s.1 < n ∧ kl (tp s.1) ≠ 0 ∧ th < 7 ∧ (pTh n tp th s).2.1 = kl (tp s.1) := by
  by_cases c : (pSo n tp th s).1.2 = 0
  · have e : (pTh n tp th s).2.1 = (pSo n tp th s).2 := rfl
    rw [e]
    unfold pSo at c ⊢
    by_cases c1 : s.2 ≠ 0
    · rw [if_pos c1] at c; exact absurd c c1
    · rw [if_neg c1] at c ⊢
      by_cases c2 : s.1 < n ∧ kl (tp s.1) ≠ 0
      · rw [if_pos c2] at c ⊢
        by_cases c3 : 7 ≤ th
        · rw [if_pos c3] at c; exact absurd c (by show ¬ (3 : Nat) = 0; decide)
        · rw [if_neg c3]
          exact ⟨by omega, c2.1, c2.2, by omega, rfl⟩
      · rw [if_neg c2] at c; exact absurd c (by show ¬ (1 : Nat) = 0; decide)
  · rw [pTh_f c] at h
    exact absurd h c
theorem pStep_good {X : zPX} (h : sGood n X.1) : sGood n (pStep n tp X).1 := by
  unfold pStep
  split
  · exact pTh_good h
  · exact pTh_good h
theorem pStep_tg {X : zPX} (h : tgOK X.2) : tgOK (pStep n tp X).2 := by
  unfold pStep
  split
  · exact h
  · rename_i hc
    obtain ⟨q1, q2, q3, q4, q5⟩ := pTh_ok (n := n) (tp := tp) (th := X.2.length) (s := X.1) (by omega)
    refine ⟨by show (X.2 ++ [_]).length ≤ 7; simp; omega, fun t ht => ?_⟩
    have ht' : t < X.2.length + 1 := by have : (X.2 ++ [(pTh n tp X.2.length X.1).2]).length = X.2.length + 1 := by simp
                                        rw [← this]; exact ht
    dsimp only
    by_cases e : t = X.2.length
    · subst e
      have hg : (X.2 ++ [(pTh n tp X.2.length X.1).2]).getD X.2.length (0, 0, 0) = (pTh n tp X.2.length X.1).2 := by simp
      rw [hg, q5]
      have := kl_le (tp X.1.1)
      exact ⟨by omega, pNm_le (by decide), (pNm_le (lo := 0) (hi := 9) (by decide)).2⟩
    · have hg : (X.2 ++ [(pTh n tp X.2.length X.1).2]).getD t (0, 0, 0) = X.2.getD t (0, 0, 0) := by simp only [List.getD_eq_getElem?_getD, List.getElem?_append_left (show t < X.2.length by omega)]
      rw [hg]
      exact h.2 t (by omega)
theorem pMore_f : ∀ m (X : zPX), X.1.2 ≠ 0 → pMore n tp m X = X
  | 0, _, _ => rfl
  | m + 1, X, h => by unfold pMore; rw [if_pos (Or.inl h)]
theorem pMore_good : ∀ m (X : zPX), sGood n X.1 → tgOK X.2 → sGood n (pMore n tp m X).1 ∧ tgOK (pMore n tp m X).2
  | 0, _, h1, h2 => ⟨h1, h2⟩
  | m + 1, X, h1, h2 => by
    unfold pMore
    split
    · exact ⟨h1, h2⟩
    · exact pMore_good m _ (pStep_good h1) (pStep_tg h2)
end
