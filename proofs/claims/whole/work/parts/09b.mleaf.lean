/-! more leaves of the reference -/
theorem zNn {t : Nat} (ht : t < 2 ^ 31) : ¬ nI t = (-1000000 : Int32) := by
  intro h
  have := congrArg Int32.toInt h
  rw [nI_toInt ht] at this
  have e : (-1000000 : Int32).toInt = -1000000 := by decide
  omega
/-- one number of a row is written -/
def gu (g : Nat → Nat) (j v : Nat) : Nat → Nat := fun k => if k = j then v else g k
theorem gu_s {g : Nat → Nat} {j v : Nat} : gu g j v j = v := by simp [gu]
theorem gu_n {g : Nat → Nat} {j v k : Nat} (h : k ≠ j) : gu g j v k = g k := by simp [gu, h]
theorem mR.set {A : Nat → Nat → Int32} {q : Nat} {g : Nat → Nat} (h : mR A q g) (j v : Nat) : mR (zuA A q j (nI v)) q (gu g j v) := by
  refine ⟨h.1, fun k hk => ?_⟩
  rw [zuA_s]
  unfold upd gu
  by_cases e : k = j
  · simp [e]
  · simp [e, h.2 k hk]
theorem mR.other {A : Nat → Nat → Int32} {q q' : Nat} {g : Nat → Nat} (h : mR A q g) (hq : q' ≠ q) (j : Nat) (x : Int32) : mR (zuA A q' j x) q g := ⟨h.1, fun k hk => by rw [zuA_o (Ne.symm hq)]; exact h.2 k hk⟩
section
variable {A : Nat → Nat → Int32} {q : Nat} {g : Nat → Nat} (L : Nat) (xs : Nat → Int32) (d : Nat) (I : Nat → Nat → Int32) (b : Value)
theorem m_rd (hR : mR A q g) {j : Nat} (hj : j < 55) : pm_rd 0 (zL I A b) q (nI j) = some (nI (g j)) := by rw [z_rd hR.1.is hj, hR.2 j hj]
theorem m_wr (hR : mR A q g) {j : Nat} (hj : j < 55) (x : Int32) : pm_wr 0 (zL I A b) q (nI j) x = some (zL I (zuA A q j x) b) := z_wr hR.1.is hj
theorem m_things (hR : mR A q g) (hB : gB g) {p : Nat} (hp : p < 2 ^ 31) : pm_call L xs (d + 2) m_Model_things [.ref q, .int (nI p)] (zL I A b) = some (some (.int (nI (gset g p))), zL I A b) := by
  rw [C_Model_things, B_Model_things_0]
  have hn := hB.1
  refine (zloop (fun k a => zE L xs (d + 1) K_Model_things 4 [some (.ref q), some (.int (nI p)), some (.int a), some (.int k)] [] (zL I A b)) (fun t a => if decide (gp g t = p) = true then a ||| ((1 : Int32) <<< (nI t &&& 31)) else a) (g 3) (fun a => some (some (.int a), zL I A b)) (fun o a ho => ?_) (fun a => ?_) 0).trans ?_
  · rw [B_Model_things_4]
    simp only [zl3]
    have h3 := hB.2.2.1 (6 + 7 * o + 3)
    simp only [m_rd I b hR (show 3 < 55 by decide), zbS, m_of L xs d I b hR (show o < 7 by omega) (show 3 < 7 by decide), zbI, znL (show g 3 < 2 ^ 31 by omega) (show o < 2 ^ 31 by omega), znI (show g (6 + 7 * o + 3) < 2 ^ 31 by omega) hp]
    rw [if_neg (show ¬ g 3 ≤ o by omega)]
    by_cases c1 : g (6 + 7 * o + 3) = p
    · simp [c1]
    · simp [c1]
  · rw [B_Model_things_4]
    simp only [zl3]
    simp only [m_rd I b hR (show 3 < 55 by decide), zbS]
    rw [if_pos (nI_le (Nat.le_refl _) (by omega))]
  · rw [zl0, zF_bits (fun t => decide (gp g t = p)) _ _ (by omega) (fun k a _ => rfl)]
    rfl
theorem m_broken (hR : mR A q g) (hB : gB g) : pm_call L xs (d + 2) m_Model_broken [.ref q] (zL I A b) = some (some (.int (nI (gbroken g))), zL I A b) := by
  rw [C_Model_broken, B_Model_broken_0]
  have hn := hB.1
  refine (zloop (fun k a => zE L xs (d + 1) K_Model_broken 4 [some (.ref q), some (.int a), some (.int k)] [] (zL I A b)) (fun t a => if decide (gc g t = 1) = true then a ||| ((1 : Int32) <<< (nI t &&& 31)) else a) (g 3) (fun a => some (some (.int a), zL I A b)) (fun o a ho => ?_) (fun a => ?_) 0).trans ?_
  · rw [B_Model_broken_4]
    have h3 := hB.2.2.1 (6 + 7 * o + 5)
    have e1 : pm_rd 0 (zL I A b) q (3 : Int32) = some (nI (g 3)) := by rw [zl3]; exact m_rd I b hR (by decide)
    have e2 : pm_call L xs (d + 1) m_Model_of [.ref q, .int (nI o), .int (5 : Int32)] (zL I A b) = some (some (.int (nI (gc g o))), zL I A b) := by rw [zl5]; exact m_of L xs d I b hR (show o < 7 by omega) (show 5 < 7 by decide)
    simp only [e1, zbS, e2, zbI, znL (show g 3 < 2 ^ 31 by omega) (show o < 2 ^ 31 by omega)]
    rw [if_neg (show ¬ g 3 ≤ o by omega)]
    have e3 : (nI (gc g o) = (1 : Int32)) = (gc g o = 1) := by rw [zl1]; exact znI (show g (6 + 7 * o + 5) < 2 ^ 31 by omega) (by decide)
    simp only [e3]
    by_cases c1 : gc g o = 1
    · simp [c1]
    · simp [c1]
  · rw [B_Model_broken_4]
    simp only [zl3]
    simp only [m_rd I b hR (show 3 < 55 by decide), zbS]
    rw [if_pos (nI_le (Nat.le_refl _) (by omega))]
  · rw [zl0, zF_bits (fun t => decide (gc g t = 1)) _ _ (by omega) (fun k a _ => rfl)]
    rfl
theorem m_weighs (hR : mR A q g) (hB : gB g) {c : Nat} (hc : c < 2 ^ 30) : pm_call L xs (d + 2) m_Model_weighs [.ref q, .int (nI c)] (zL I A b) = some (some (.int (nI (gweighs g c))), zL I A b) := by
  rw [C_Model_weighs, B_Model_weighs_0]
  have hn := hB.1
  refine (zloop (fun k a => zE L xs (d + 1) K_Model_weighs 4 [some (.ref q), some (.int (nI c)), some (.int a), some (.int k)] [] (zL I A b)) (fun t a => a + nI (if gp g t = 3 + c then gw g t else 0)) (g 3) (fun a => some (some (.int a), zL I A b)) (fun o a ho => ?_) (fun a => ?_) 0).trans ?_
  · rw [B_Model_weighs_4]
    have h3 := hB.2.2.1 (6 + 7 * o + 3)
    simp only [zl3, zl1, nI_add]
    simp only [m_rd I b hR (show 3 < 55 by decide), zbS, m_of L xs d I b hR (show o < 7 by omega) (show 3 < 7 by decide), m_of L xs d I b hR (show o < 7 by omega) (show 1 < 7 by decide), zbI, znL (show g 3 < 2 ^ 31 by omega) (show o < 2 ^ 31 by omega), znI (show g (6 + 7 * o + 3) < 2 ^ 31 by omega) (show 3 + c < 2 ^ 31 by omega)]
    rw [if_neg (show ¬ g 3 ≤ o by omega)]
    by_cases c1 : g (6 + 7 * o + 3) = 3 + c
    · rw [if_neg (fun h => h c1), if_pos c1]
    · rw [if_pos c1, if_neg c1, zl0]
  · rw [B_Model_weighs_4]
    simp only [zl3]
    simp only [m_rd I b hR (show 3 < 55 by decide), zbS]
    rw [if_pos (nI_le (Nat.le_refl _) (by omega))]
  · rw [zl0, zF_sum (fun t => if gp g t = 3 + c then gw g t else 0) _ _ (fun k _ => rfl)]
    rfl
theorem m_firstOf (hR : mR A q g) (hB : gB g) {p : Nat} (hp : p < 2 ^ 31) : pm_call L xs (d + 2) m_Model_firstOf [.ref q, .int (nI p)] (zL I A b) = some (some (.int (zopt (gfirst g p (g 3)))), zL I A b) := by
  rw [C_Model_firstOf, B_Model_firstOf_0]
  have hn := hB.1
  have key : ∀ n, n ≤ g 3 → ∀ y, ∃ y', zE L xs (d + 1) K_Model_firstOf 5 [some (.ref q), some (.int (nI p)), some (.int (-1000000 : Int32)), some (.int (0 : Int32)), y] [] (zL I A b) = zE L xs (d + 1) K_Model_firstOf 5 [some (.ref q), some (.int (nI p)), some (.int (zopt (gfirst g p n))), some (.int (nI n)), y'] [] (zL I A b) ∧ ∀ t, gfirst g p n = some t → t < n := by
    intro n
    induction n with
    | zero => intro _ y; exact ⟨y, rfl, fun t h => by cases h⟩
    | succ n ih =>
      intro hle y
      obtain ⟨y1, e1, hlt⟩ := ih (by omega) y
      rw [e1, B_Model_firstOf_5]
      have h3 := hB.2.2.1 (6 + 7 * n + 3)
      have h4 := hB.2.2.1 (6 + 7 * n + 4)
      have f1 : pm_rd 0 (zL I A b) q (3 : Int32) = some (nI (g 3)) := by rw [zl3]; exact m_rd I b hR (by decide)
      have f2 : pm_call L xs (d + 1) m_Model_of [.ref q, .int (nI n), .int (3 : Int32)] (zL I A b) = some (some (.int (nI (gp g n))), zL I A b) := by rw [zl3]; exact m_of L xs d I b hR (show n < 7 by omega) (show 3 < 7 by decide)
      have f3 : pm_call L xs (d + 1) m_Model_of [.ref q, .int (nI n), .int (4 : Int32)] (zL I A b) = some (some (.int (nI (go g n))), zL I A b) := by rw [zl4]; exact m_of L xs d I b hR (show n < 7 by omega) (show 4 < 7 by decide)
      simp only [f1, zbS, f2, f3, zbI, znL (show g 3 < 2 ^ 31 by omega) (show n < 2 ^ 31 by omega), znI (show gp g n < 2 ^ 31 by show g (6 + 7 * n + 3) < _; omega) hp, nI_1]
      rw [if_neg (show ¬ g 3 ≤ n by omega)]
      by_cases c1 : gp g n = p
      · rw [if_neg (by simp [c1])]
        cases hf : gfirst g p n with
        | none =>
          have : gfirst g p (n + 1) = some n := by unfold gfirst; rw [hf]; simp [c1]
          rw [this]
          exact ⟨_, by rw [if_pos (show zopt none = -1000000 from rfl)]; rfl, fun t h => by cases h; omega⟩
        | some t =>
          have ht := hlt t hf
          have h5 := hB.2.2.1 (6 + 7 * t + 4)
          have f4 : pm_call L xs (d + 1) m_Model_of [.ref q, .int (nI t), .int (4 : Int32)] (zL I A b) = some (some (.int (nI (go g t))), zL I A b) := by rw [zl4]; exact m_of L xs d I b hR (show t < 7 by omega) (show 4 < 7 by decide)
          have e5 : zopt (some t) = nI t := rfl
          rw [e5, if_neg (zNn (by omega))]
          simp only [f4, zbI, znL (show go g t < 2 ^ 31 by show g (6 + 7 * t + 4) < _; omega) (show go g n < 2 ^ 31 by show g (6 + 7 * n + 4) < _; omega)]
          by_cases c2 : go g n < go g t
          · have : gfirst g p (n + 1) = some n := by unfold gfirst; rw [hf]; simp [c1, c2]
            rw [this, if_neg (by omega)]
            exact ⟨_, rfl, fun t h => by cases h; omega⟩
          · have : gfirst g p (n + 1) = some t := by unfold gfirst; rw [hf]; simp [c2]
            rw [this, if_pos (by omega)]
            exact ⟨_, rfl, fun t h => by cases h; omega⟩
      · rw [if_pos c1]
        have : gfirst g p (n + 1) = gfirst g p n := by
          show (match gfirst g p n with
            | none => if gp g n = p then some n else none
            | some t => if gp g n = p ∧ go g n < go g t then some n else some t) = _
          cases hf : gfirst g p n with
          | none => simp [c1]
          | some t => simp [c1]
        rw [this]
        exact ⟨_, rfl, fun t h => by have := hlt t h; omega⟩
  obtain ⟨y', e1, -⟩ := key (g 3) (Nat.le_refl _) none
  rw [e1, B_Model_firstOf_5]
  have f1 : pm_rd 0 (zL I A b) q (3 : Int32) = some (nI (g 3)) := by rw [zl3]; exact m_rd I b hR (by decide)
  simp only [f1, zbS]
  rw [if_pos (nI_le (Nat.le_refl _) (by omega))]
theorem m_topOf (hR : mR A q g) (hB : gB g) {p : Nat} (hp : p < 2 ^ 31) : pm_call L xs (d + 2) m_Model_topOf [.ref q, .int (nI p)] (zL I A b) = some (some (.int (zopt (gtop g p (g 3)))), zL I A b) := by
  rw [C_Model_topOf, B_Model_topOf_0]
  have hn := hB.1
  have key : ∀ n, n ≤ g 3 → ∀ y, ∃ y', zE L xs (d + 1) K_Model_topOf 5 [some (.ref q), some (.int (nI p)), some (.int (-1000000 : Int32)), some (.int (0 : Int32)), y] [] (zL I A b) = zE L xs (d + 1) K_Model_topOf 5 [some (.ref q), some (.int (nI p)), some (.int (zopt (gtop g p n))), some (.int (nI n)), y'] [] (zL I A b) ∧ ∀ t, gtop g p n = some t → t < n := by
    intro n
    induction n with
    | zero => intro _ y; exact ⟨y, rfl, fun t h => by cases h⟩
    | succ n ih =>
      intro hle y
      obtain ⟨y1, e1, hlt⟩ := ih (by omega) y
      rw [e1, B_Model_topOf_5]
      have h3 := hB.2.2.1 (6 + 7 * n + 3)
      have h4 := hB.2.2.1 (6 + 7 * n + 4)
      have f1 : pm_rd 0 (zL I A b) q (3 : Int32) = some (nI (g 3)) := by rw [zl3]; exact m_rd I b hR (by decide)
      have f2 : pm_call L xs (d + 1) m_Model_of [.ref q, .int (nI n), .int (3 : Int32)] (zL I A b) = some (some (.int (nI (gp g n))), zL I A b) := by rw [zl3]; exact m_of L xs d I b hR (show n < 7 by omega) (show 3 < 7 by decide)
      have f3 : pm_call L xs (d + 1) m_Model_of [.ref q, .int (nI n), .int (4 : Int32)] (zL I A b) = some (some (.int (nI (go g n))), zL I A b) := by rw [zl4]; exact m_of L xs d I b hR (show n < 7 by omega) (show 4 < 7 by decide)
      simp only [f1, zbS, f2, f3, zbI, znL (show g 3 < 2 ^ 31 by omega) (show n < 2 ^ 31 by omega), znI (show gp g n < 2 ^ 31 by show g (6 + 7 * n + 3) < _; omega) hp, nI_1]
      rw [if_neg (show ¬ g 3 ≤ n by omega)]
      by_cases c1 : gp g n = p
      · rw [if_neg (by simp [c1])]
        cases hf : gtop g p n with
        | none =>
          have : gtop g p (n + 1) = some n := by unfold gtop; rw [hf]; simp [c1]
          rw [this]
          exact ⟨_, by rw [if_pos (show zopt none = -1000000 from rfl)]; rfl, fun t h => by cases h; omega⟩
        | some t =>
          have ht := hlt t hf
          have h5 := hB.2.2.1 (6 + 7 * t + 4)
          have f4 : pm_call L xs (d + 1) m_Model_of [.ref q, .int (nI t), .int (4 : Int32)] (zL I A b) = some (some (.int (nI (go g t))), zL I A b) := by rw [zl4]; exact m_of L xs d I b hR (show t < 7 by omega) (show 4 < 7 by decide)
          have e5 : zopt (some t) = nI t := rfl
          rw [e5, if_neg (zNn (by omega))]
          simp only [f4, zbI, znL (show go g n < 2 ^ 31 by show g (6 + 7 * n + 4) < _; omega) (show go g t < 2 ^ 31 by show g (6 + 7 * t + 4) < _; omega)]
          by_cases c2 : go g t < go g n
          · have : gtop g p (n + 1) = some n := by unfold gtop; rw [hf]; simp [c1, c2]
            rw [this, if_neg (by omega)]
            exact ⟨_, rfl, fun t h => by cases h; omega⟩
          · have : gtop g p (n + 1) = some t := by unfold gtop; rw [hf]; simp [c2]
            rw [this, if_pos (by omega)]
            exact ⟨_, rfl, fun t h => by cases h; omega⟩
      · rw [if_pos c1]
        have : gtop g p (n + 1) = gtop g p n := by
          show (match gtop g p n with
            | none => if gp g n = p then some n else none
            | some t => if gp g n = p ∧ go g t < go g n then some n else some t) = _
          cases hf : gtop g p n with
          | none => simp [c1]
          | some t => simp [c1]
        rw [this]
        exact ⟨_, rfl, fun t h => by have := hlt t h; omega⟩
  obtain ⟨y', e1, -⟩ := key (g 3) (Nat.le_refl _) none
  rw [e1, B_Model_topOf_5]
  have f1 : pm_rd 0 (zL I A b) q (3 : Int32) = some (nI (g 3)) := by rw [zl3]; exact m_rd I b hR (by decide)
  simp only [f1, zbS]
  rw [if_pos (nI_le (Nat.le_refl _) (by omega))]
theorem m_isTorn (hR : mR A q g) (hB : gB g) {c : Nat} (hc : c < 2 ^ 30) : pm_call L xs (d + 3) m_Model_isTorn [.ref q, .int (nI c)] (zL I A b) = some (some (.int (if g 1 < gweighs g c then 1 else 0)), zL I A b) := by
  rw [C_Model_isTorn, B_Model_isTorn_0]
  have f1 : pm_rd 0 (zL I A b) q (1 : Int32) = some (nI (g 1)) := by rw [zl1]; exact m_rd I b hR (by decide)
  have h1 := hB.2.2.1 1
  have hw : gweighs g c < 2 ^ 31 := by
    have := zS_le (f := fun t => if gp g t = 3 + c then gw g t else 0) (c := 2 ^ 20) (g 3) (fun k _ => by
      have := hB.2.2.1 (6 + 7 * k + 1)
      split
      · show g (6 + 7 * k + 1) ≤ _; omega
      · omega)
    have hn := hB.1
    have h7 : g 3 * 2 ^ 20 ≤ 7 * 2 ^ 20 := Nat.mul_le_mul_right _ hn
    unfold gweighs
    omega
  simp only [m_weighs L xs d I b hR hB hc, zbI, f1, zbS, znL hw (show g 1 < 2 ^ 31 by omega)]
  by_cases h : g 1 < gweighs g c
  · rw [if_neg (by omega), if_pos h]
  · rw [if_pos (by omega), if_neg h]
/-- t comes to p -/
def gcomes (g : Nat → Nat) (t p : Nat) : Nat → Nat := gu (gu (gu g (6 + 7 * t + 3) p) (6 + 7 * t + 4) (g 5)) 5 (g 5 + 1)
theorem m_comes (hR : mR A q g) {t p : Nat} (ht : t < 7) : ∃ A', pm_call L xs (d + 1) m_Model_comes [.ref q, .int (nI t), .int (nI p)] (zL I A b) = some (none, zL I A' b) ∧ mR A' q (gcomes g t p) ∧ ∀ q', q' ≠ q → A' q' = A q' := by
  rw [C_Model_comes, B_Model_comes_0]
  have h1 := hR.set (6 + 7 * t + 3) p
  have e1 : gu g (6 + 7 * t + 3) p 5 = g 5 := gu_n (by omega)
  have h2 := h1.set (6 + 7 * t + 4) (g 5)
  have e2 : gu (gu g (6 + 7 * t + 3) p) (6 + 7 * t + 4) (g 5) 5 = g 5 := by rw [gu_n (by omega), e1]
  have h3 := h2.set 5 (g 5 + 1)
  refine ⟨_, ?_, h3, fun q' hq' => ?_⟩
  · simp only [zl6, zl7, zl3, zl4, zl5, zl1, pk_mul, nI_add]
    rw [m_wr I b hR (show 6 + 7 * t + 3 < 55 by omega), zbS, m_rd I b h1 (by decide), zbS, e1, m_wr I b h1 (show 6 + 7 * t + 4 < 55 by omega), zbS, m_rd I b h2 (by decide), zbS, e2, nI_add, m_wr I b h2 (by decide), zbS]
  · rw [zuA_o hq', zuA_o hq', zuA_o hq']
end
