section
variable {L : Nat} {xs : Nat → Int32} {g : Nat → Nat} {I A : Nat → Nat → Int32} {b : Value}
/-- no cell holds b any more: the class has no such field -/
theorem zLb (b b' : Value) : zL I A b = zL I A b' := rfl
theorem zbit0 {m a : Nat} (h : ¬ m.testBit a = true) : m / 2 ^ a % 2 = 0 := by
  rcases Nat.mod_two_eq_zero_or_one (m / 2 ^ a) with q | q
  · exact q
  · exact absurd (ztest.mp q) h
theorem zmsk {m a : Nat} (hm : m < 128) (ha : a < 7) (h : m.testBit a = true) : nI m &&& (((1 : Int32) <<< (nI a &&& 31)) ^^^ (-1 : Int32)) = nI (m - 2 ^ a) := by
  rw [zsh (by omega), zandn, (bit_at hm ha h).2.1]
theorem PRm_lt (hB : gB g) (m : Nat) : PRm g m < 2 ^ 24 := by
  unfold PRm
  have := zS_le (f := fun t => if m.testBit t = true then gpress g t else 0) (c := 2 ^ 21) 7 (fun k _ => by
    have := zgpress_lt hB k
    show (if m.testBit k = true then gpress g k else 0) ≤ 2 ^ 21
    split <;> omega)
  omega
/-- what the class has found of a set -/
def fOk (g : Nat → Nat) (A : Nat → Nat → Int32) (m : Nat) : Prop := A 60 m = nI (FG g (zpc m) m).1 ∧ A 61 m = nI (PRm g m)
def val (g : Nat → Nat) (m a : Nat) : Nat := (FG g (zpc (m - 2 ^ a)) (m - 2 ^ a)).1 + brk g a (PRm g (m - 2 ^ a))
theorem c_fewestFrom (hc : cR I A 15 g) (hB : gB g) {m a : Nat} (hm : m < 128) (ha : a < g 3) (h : m.testBit a = true) (hf : fOk g A (m - 2 ^ a)) (d : Nat) : pm_call L xs (d + 3) m_BeltOrder_fewestFrom [.ref 59, .ref 15, .int (nI m), .int (nI a)] (zL I A (.ref 15)) = some (some (.int (nI (val g m a))), zL I A (.ref 15)) := by
  have h7 := hB.1
  have hms := zmsk hm (show a < 7 by omega) h
  have hp := PRm_lt hB (m - 2 ^ a)
  have hb := zgbears_le (g := g) a
  have r0 : pm_rd 0 (zL I A (.ref 15)) 60 (nI (m - 2 ^ a)) = some (nI (FG g (zpc (m - 2 ^ a)) (m - 2 ^ a)).1) := by rw [z_rd za_60 (m128 hm), hf.1]
  have r1 : pm_rd 0 (zL I A (.ref 15)) 61 (nI (m - 2 ^ a)) = some (nI (PRm g (m - 2 ^ a))) := by rw [z_rd za_61 (m128 hm), hf.2]
  rw [D_BeltOrder_fewestFrom, B_BeltOrder_fewestFrom_0, hms, c_isCrushed L xs (d + 1) (.ref 15) hc hB ha, zbI]
  dsimp only
  unfold val brk
  by_cases c1 : gc g a = 1
  · rw [if_pos c1, if_pos (by decide), zr_59_0, zbS, r0, zbS, nI_1, if_pos (Or.inl c1)]
  · rw [if_neg c1, if_neg (fun q => q rfl), zr_59_1, zbS, r1, zbS, c_bearsOf L xs d (.ref 15) hc hB ha, zbI]
    dsimp only
    by_cases c2 : gbears g a < PRm g (m - 2 ^ a)
    · rw [if_neg (nI_ge c2 (by omega)), zr_59_0, zbS, r0, zbS, nI_1, if_pos (Or.inr c2)]
    · rw [if_pos (nI_le (by omega) (by omega)), zr_59_0, zbS, r0, zbS, if_neg (show ¬ (gc g a = 1 ∨ gbears g a < PRm g (m - 2 ^ a)) by omega), show nI (FG g (zpc (m - 2 ^ a)) (m - 2 ^ a)).1 + (0 : Int32) = nI ((FG g (zpc (m - 2 ^ a)) (m - 2 ^ a)).1 + 0) from by rw [zl0, nI_add]]
theorem val_cnd {k m a : Nat} (hm : m < 128) (ha : a < 7) (hk : zpc m = k + 1) (h : m.testBit a = true) : val g m a = (cnd g k m a).1 := by
  obtain ⟨q1, -, -, -⟩ := bit_at hm ha h
  unfold val cnd
  rw [show zpc (m - 2 ^ a) = k by omega]
  dsimp only
  omega
theorem val_le {m a : Nat} (hm : m < 128) (ha : a < 7) (h : m.testBit a = true) : val g m a ≤ 7 := by
  obtain ⟨q1, -, -, -⟩ := bit_at hm ha h
  have hz : zpc m ≤ 7 := by
    have := zS_le (f := fun k => m / 2 ^ k % 2) (c := 1) 7 (fun k _ => by have := Nat.mod_two_eq_zero_or_one (m / 2 ^ k); show m / 2 ^ k % 2 ≤ 1; omega)
    have e : zpc m ≤ 7 * 1 := this
    omega
  have := (FG_le (g := g) (zpc (m - 2 ^ a)) (m - 2 ^ a) (m128 hm) rfl).1
  have := brk_le (g := g) a (PRm g (m - 2 ^ a))
  unfold val
  omega
def vmn (g : Nat → Nat) (m u : Nat) : Nat := if m.testBit u = true then val g m u else 8
theorem vmn_fin {m n : Nat} (hm : m < 128) (hn : n ≤ 7) (h0 : m ≠ 0) (hb : ∀ t, m.testBit t = true → t < n) : zmn (vmn g m) 8 n = (FG g (zpc m) m).1 := by
  obtain ⟨k, hk⟩ : ∃ k, zpc m = k + 1 := ⟨zpc m - 1, by have := (pos_at hm).1; have : zpc m ≠ 0 := fun q => h0 (this.mp q); omega⟩
  obtain ⟨a, a1, a2, a3, a4⟩ := FG_first (g := g) hm hk
  rw [hk, a3]
  have e : (cnd g k m a).1 = val g m a := (val_cnd hm a1 hk a2).symm
  have hle := val_le (g := g) hm a1 a2
  rw [e]
  have h1 : val g m a ≤ zmn (vmn g m) 8 n := by
    rw [zmn_ge (by omega)]
    intro u hu
    unfold vmn
    split
    · rename_i q
      have := (a4 u (by omega) q).1
      rw [e, ← val_cnd hm (by omega) hk q] at this
      exact this
    · omega
  have h2 : zmn (vmn g m) 8 n ≤ val g m a := by
    have := (zmn_ge (f := vmn g m) (s := 8) (x := zmn (vmn g m) 8 n) (zmn_le _ _ _) n).mp (Nat.le_refl _) a (hb a a2)
    unfold vmn at this
    rw [if_pos a2] at this
    exact this
  omega
theorem zS_7 {f : Nat → Nat} {n : Nat} : ∀ k, n ≤ k → (∀ t, n ≤ t → t < k → f t = 0) → zS f k = zS f n
  | 0, h, _ => by rw [show n = 0 by omega]
  | k + 1, h, hz => by
    by_cases e : n = k + 1
    · rw [e]
    · rw [zS_s, zS_7 k (by omega) (fun t h1 h2 => hz t h1 (by omega)), hz k (by omega) (by omega)]
      rfl
theorem c_weigh (hc : cR I A 15 g) (hB : gB g) {m : Nat} (hm : m < 128) (h0 : m ≠ 0) (hb : ∀ t, m.testBit t = true → t < g 3) (hf : ∀ a, m.testBit a = true → fOk g A (m - 2 ^ a)) (d : Nat) : ∃ A', pm_call L xs (d + 4) m_BeltOrder_weigh [.ref 59, .ref 15, .int (nI m)] (zL I A (.ref 15)) = some (none, zL I A' (.ref 15)) ∧ fOk g A' m ∧ (∀ q, q ≠ 60 → q ≠ 61 → A' q = A q) ∧ ∀ j, j ≠ m → A' 60 j = A 60 j ∧ A' 61 j = A 61 j := by
  have h7 := hB.1
  rw [D_BeltOrder_weigh, B_BeltOrder_weigh_0, zr_59_1, zbS, z_wr za_61 hm, zbS, zr_59_0, zbS, z_wr za_60 hm, zbS]
  obtain ⟨A0, hA0⟩ : ∃ A0, A0 = zuA (zuA A 61 m 0) 60 m 8 := ⟨_, rfl⟩
  rw [← hA0]
  have key : ∀ t, t ≤ g 3 → ∃ A', zE L xs (d + 3) K_BeltOrder_weigh 17 [some (.ref 59), some (.ref 15), some (.int (nI m)), some (.int (0 : Int32))] [] (zL I A0 (.ref 15)) = zE L xs (d + 3) K_BeltOrder_weigh 17 [some (.ref 59), some (.ref 15), some (.int (nI m)), some (.int (nI t))] [] (zL I A' (.ref 15)) ∧ A' 60 m = nI (zmn (vmn g m) 8 t) ∧ A' 61 m = nI (zS (fun u => if m.testBit u = true then gpress g u else 0) t) ∧ (∀ q, q ≠ 60 → q ≠ 61 → A' q = A q) ∧ ∀ j, j ≠ m → A' 60 j = A 60 j ∧ A' 61 j = A 61 j := by
    intro t
    induction t with
    | zero =>
      intro _
      refine ⟨A0, rfl, ?_, ?_, fun q q1 q2 => by rw [hA0, zuA_o q1, zuA_o q2], fun j hj => ⟨?_, ?_⟩⟩
      · rw [hA0, zuA_s, pk_us]; rfl
      · rw [hA0, zuA_o (by decide), zuA_s, pk_us]; rfl
      · rw [hA0, zuA_s, pk_un hj, zuA_o (by decide)]
      · rw [hA0, zuA_o (by decide), zuA_s, pk_un hj]
    | succ t ih =>
      intro ht
      have ht3 : t < g 3 := by omega
      obtain ⟨A1, e1, e2, e3, e4, e5⟩ := ih (by omega)
      have hc1 : cR I A1 15 g := hc.c rfl (fun q _ _ => e4 q (by omega) (by omega))
      rw [e1, B_BeltOrder_weigh_17, hc1.n, zbS, if_neg (nI_ge ht3 (by omega)), zbit (show m < 2 ^ 31 by omega) (show t < 31 by omega), zmn_s, zS_s]
      by_cases c1 : m.testBit t = true
      · obtain ⟨-, -, q3, -⟩ := bit_at hm (show t < 7 by omega) c1
        have hne : m - 2 ^ t ≠ m := by have := Nat.pow_pos (n := t) (show 0 < 2 by decide); omega
        obtain ⟨A2, hA2⟩ : ∃ A2, A2 = zuA A1 61 m (nI (zS (fun u => if m.testBit u = true then gpress g u else 0) t + gpress g t)) := ⟨_, rfl⟩
        have hc2 : cR I A2 15 g := hc1.c rfl (fun q _ _ => by rw [hA2, zuA_o (by omega)])
        have hf2 : fOk g A2 (m - 2 ^ t) := by
          unfold fOk
          rw [hA2, zuA_o (by decide), zuA_s, pk_un hne, (e5 _ hne).1, (e5 _ hne).2]
          exact hf t c1
        have hv := val_le (g := g) hm (show t < 7 by omega) c1
        have hzl := zmn_le (vmn g m) 8 t
        have r61 : A2 60 m = nI (zmn (vmn g m) 8 t) := by rw [hA2, zuA_o (by decide), e2]
        rw [ztest.mpr c1, if_neg (fun q => q rfl), zr_59_1, zbS, z_rd za_61 hm, zbS, e3, c_pressOf L xs (d + 1) (.ref 15) hc1 hB ht3, zbI]
        dsimp only
        rw [nI_add, z_wr za_61 hm, zbS, ← hA2, zr_59_0, zbS, zbS, z_rd za_60 hm, zbS, r61, c_fewestFrom hc2 hB hm ht3 c1 hf2 d, zbI]
        dsimp only
        rw [z_wr za_60 hm, zbS, nI_1]
        refine ⟨_, rfl, ?_, ?_, fun q q1 q2 => by rw [zuA_o q1, hA2, zuA_o q2, e4 q q1 q2], fun j hj => ⟨?_, ?_⟩⟩
        · rw [zuA_s, pk_us, show vmn g m t = val g m t from if_pos c1]
          by_cases c2 : val g m t < zmn (vmn g m) 8 t
          · rw [if_pos c2, if_pos (nI_lt c2 (by omega))]
          · rw [if_neg c2, if_neg (nI_nlt (by omega) (by omega))]
        · rw [zuA_o (by decide), hA2, zuA_s, pk_us, if_pos c1]
        · rw [zuA_s, pk_un hj, hA2, zuA_o (by decide)]; exact (e5 j hj).1
        · rw [zuA_o (by decide), hA2, zuA_s, pk_un hj]; exact (e5 j hj).2
      · have hzl := zmn_le (vmn g m) 8 t
        rw [zbit0 c1, if_pos (by decide), nI_1]
        refine ⟨A1, rfl, ?_, ?_, e4, e5⟩
        · rw [show vmn g m t = 8 from if_neg c1, if_neg (by omega)]; exact e2
        · rw [if_neg c1, Nat.add_zero]; exact e3
  obtain ⟨A1, e1, e2, e3, e4, e5⟩ := key (g 3) (Nat.le_refl _)
  have hc1 : cR I A1 15 g := hc.c rfl (fun q _ _ => e4 q (by omega) (by omega))
  refine ⟨A1, ?_, ⟨?_, ?_⟩, e4, e5⟩
  · rw [e1, B_BeltOrder_weigh_17, hc1.n, zbS, if_pos (nI_le (Nat.le_refl _) (by omega))]
  · rw [e2, vmn_fin hm h7 h0 hb]
  · rw [e3]
    unfold PRm
    rw [zS_7 7 h7 (fun t h1 h2 => if_neg (fun q => by have := hb t q; omega))]
/-- a set of THINGS on the BELT -/
def sub (m M : Nat) : Prop := ∀ t, m.testBit t = true → M.testBit t = true
theorem sub_and {m M : Nat} : (m ^^^ (m &&& M) = 0) ↔ sub m M := by
  constructor
  · intro h t ht
    have : (m ^^^ (m &&& M)).testBit t = false := by rw [h]; exact Nat.zero_testBit t
    rw [Nat.testBit_xor, Nat.testBit_and, ht] at this
    simpa using this
  · intro h
    apply Nat.eq_of_testBit_eq
    intro t
    rw [Nat.testBit_xor, Nat.testBit_and, Nat.zero_testBit]
    cases q : m.testBit t with
    | false => rfl
    | true => rw [h t q]; rfl
theorem sub_lt {m : Nat} (h : m < 128) {t : Nat} (ht : m.testBit t = true) : t < 7 := by
  refine Classical.byContradiction (fun q => ?_)
  have : m.testBit t = false := Nat.testBit_lt_two_pow (Nat.lt_of_lt_of_le h (Nat.pow_le_pow_right (n := 2) (by decide) (show 7 ≤ t by omega)))
  rw [ht] at this
  cases this
theorem sub_rm {m M a : Nat} (hm : m < 128) (h : sub m M) (ha : m.testBit a = true) : sub (m - 2 ^ a) M := by
  intro t ht
  obtain ⟨-, -, -, q⟩ := bit_at hm (sub_lt hm ha) ha
  have ht7 := sub_lt (m128 hm) ht
  rw [q t ht7] at ht
  simp at ht
  exact h t ht.1
theorem gset_bit {p t : Nat} : (gset g p).testBit t = (decide (t < g 3) && decide (gp g t = p)) := ztb _ _ _
theorem c_seek (hc : cR I A 15 g) (hB : gB g) (hz : zBl A) (d : Nat) : ∃ I' A', pm_call L xs (d + 5) m_BeltOrder_seek [.ref 59, .ref 15] (zL I A b) = some (none, zL I' A' (.ref 15)) ∧ (∀ m, m ≤ gset g 0 → sub m (gset g 0) → fOk g A' m) ∧ (∀ q, q ≠ 60 → q ≠ 61 → A' q = A q) ∧ zBl A' ∧ I' 59 2 = nI (gset g 0) ∧ ∀ o k, ¬ (o = 59 ∧ k = 2) → I' o k = I o k := by
  have hg := gset_lt hB 0
  have f0 : ∀ A : Nat → Nat → Int32, zBl A → fOk g A 0 := by
    intro A hz
    have hzz : ∀ n, zS (fun t => if (0 : Nat).testBit t = true then gpress g t else 0) n = 0 := by
      intro n
      have := zS_le (f := fun t => if (0 : Nat).testBit t = true then gpress g t else 0) (c := 0) n (fun k _ => by simp)
      omega
    refine ⟨hz.1, ?_⟩
    rw [hz.2]
    unfold PRm
    rw [hzz 7]
    rfl
  rw [zLb b (.ref 15), D_BeltOrder_seek, B_BeltOrder_seek_0, c_bitsAt' L xs (d + 3) (.ref 15) hc hB zl0 (by decide), zbI]
  dsimp only
  rw [zp_59_2, zbS]
  obtain ⟨I1, hI1⟩ : ∃ I1, I1 = zuI I 59 2 (nI (gset g 0)) := ⟨_, rfl⟩
  rw [← hI1]
  have i3 : I1 59 2 = nI (gset g 0) := by rw [hI1, zuI_s]
  have fI : ∀ o k, ¬ (o = 59 ∧ k = 2) → I1 o k = I o k := fun o k hk => by rw [hI1, zuI_at, if_neg hk]
  have hc1 : cR I1 A 15 g := hc.c (funext fun k => fI 15 k (by omega)) (fun _ _ _ => rfl)
  have key : ∀ m, m ≤ gset g 0 → ∃ A', zE L xs (d + 4) K_BeltOrder_seek 11 [some (.ref 59), some (.ref 15), some (.int (1 : Int32))] [] (zL I1 A (.ref 15)) = zE L xs (d + 4) K_BeltOrder_seek 11 [some (.ref 59), some (.ref 15), some (.int (nI (m + 1)))] [] (zL I1 A' (.ref 15)) ∧ (∀ m', m' ≤ m → sub m' (gset g 0) → fOk g A' m') ∧ (∀ q, q ≠ 60 → q ≠ 61 → A' q = A q) ∧ zBl A' := by
    intro m
    induction m with
    | zero => intro _; exact ⟨A, rfl, fun m' h1 _ => by rw [show m' = 0 by omega]; exact f0 A hz, fun _ _ _ => rfl, hz⟩
    | succ m ih =>
      intro hm
      obtain ⟨A1, e1, e2, e3, e4⟩ := ih (by omega)
      rw [e1, B_BeltOrder_seek_11, zg_59_2, zbS, i3, if_neg (nI_nlt hm (by omega)), zbS, zandn]
      have hx : (m + 1) ^^^ ((m + 1) &&& gset g 0) < 2 ^ 31 := by
        have : (m + 1) ^^^ ((m + 1) &&& gset g 0) < 2 ^ 7 := Nat.xor_lt_two_pow (by omega) (Nat.lt_of_le_of_lt Nat.and_le_left (by omega))
        omega
      by_cases c1 : sub (m + 1) (gset g 0)
      · have hc2 : cR I1 A1 15 g := hc1.c rfl (fun q _ _ => e3 q (by omega) (by omega))
        obtain ⟨A2, y1, y2, y3, y4⟩ := c_weigh (L := L) (xs := xs) hc2 hB (m := m + 1) (by omega) (by omega) (fun t ht => by have := c1 t ht; rw [gset_bit] at this; simp at this; exact this.1) (fun a ha => e2 _ (by have := (bit_at (show m + 1 < 128 by omega) (sub_lt (show m + 1 < 128 by omega) ha) ha).2.2.1; have := Nat.pow_pos (n := a) (show 0 < 2 by decide); omega) (sub_rm (by omega) c1 ha)) d
        rw [sub_and.mpr c1, if_neg (fun q => q rfl), y1, zbV, nI_1]
        refine ⟨A2, rfl, fun m' h1 h2 => ?_, fun q q1 q2 => by rw [y3 q q1 q2, e3 q q1 q2], ⟨by rw [(y4 0 (by omega)).1]; exact e4.1, by rw [(y4 0 (by omega)).2]; exact e4.2⟩⟩
        by_cases e : m' = m + 1
        · rw [e]; exact y2
        · have := e2 m' (by omega) h2
          unfold fOk at this ⊢
          rw [(y4 m' e).1, (y4 m' e).2]
          exact this
      · rw [if_pos (show ¬ nI ((m + 1) ^^^ ((m + 1) &&& gset g 0)) = (0 : Int32) from fun q => c1 (sub_and.mp ((nI_eq (b := 0) hx (by decide)).mp q))), nI_1]
        exact ⟨A1, rfl, fun m' h1 h2 => by
          by_cases e : m' = m + 1
          · subst e; exact absurd h2 c1
          · exact e2 m' (by omega) h2, e3, e4⟩
  obtain ⟨A1, e1, e2, e3, e4⟩ := key (gset g 0) (Nat.le_refl _)
  exact ⟨I1, A1, by rw [e1, B_BeltOrder_seek_11, zg_59_2, zbS, i3, if_pos (nI_lt (by omega) (by omega))], e2, e3, e4, i3, fI⟩
theorem zopt_or {x : Option Nat} (h : ∀ t, x = some t → t < 7) : (zopt x = (-1000000 : Int32)) ↔ x = none := by
  cases x with
  | none => exact ⟨fun _ => rfl, fun _ => rfl⟩
  | some t => exact ⟨fun q => absurd q (zNn (by have := h t rfl; omega)), fun q => by cases q⟩
theorem c_firstOf (hc : cR I A 15 g) (hB : gB g) {m : Nat} (hm : m < 128) (hb : ∀ t, m.testBit t = true → t < g 3) (hf : fOk g A m) (hf2 : ∀ a, m.testBit a = true → fOk g A (m - 2 ^ a)) (d : Nat) : pm_call L xs (d + 4) m_BeltOrder_firstOf [.ref 59, .ref 15, .int (nI m)] (zL I A (.ref 15)) = some (some (.int (zopt ((FG g (zpc m) m).2.head?))), zL I A (.ref 15)) := by
  have h7 := hB.1
  rw [D_BeltOrder_firstOf, B_BeltOrder_firstOf_0]
  have stop : ∀ t, t < g 3 → m.testBit t = true → val g m t = (FG g (zpc m) m).1 → zE L xs (d + 3) K_BeltOrder_firstOf 2 [some (.ref 59), some (.ref 15), some (.int (nI m)), some (.int (nI t))] [] (zL I A (.ref 15)) = some (some (.int (nI t)), zL I A (.ref 15)) := by
    intro t ht h1 h2
    rw [B_BeltOrder_firstOf_2, hc.n, zbS, if_neg (nI_ge ht (by omega)), zbit (show m < 2 ^ 31 by omega) (show t < 31 by omega), ztest.mpr h1, if_neg (fun q => q rfl), c_fewestFrom hc hB hm ht h1 (hf2 t h1) d, zbI]
    dsimp only
    rw [zr_59_0, zbS, z_rd za_60 hm, zbS, hf.1, h2, if_neg (fun q => q rfl)]
  have go : ∀ t, t < g 3 → (m.testBit t = true → val g m t ≠ (FG g (zpc m) m).1) → zE L xs (d + 3) K_BeltOrder_firstOf 2 [some (.ref 59), some (.ref 15), some (.int (nI m)), some (.int (nI t))] [] (zL I A (.ref 15)) = zE L xs (d + 3) K_BeltOrder_firstOf 2 [some (.ref 59), some (.ref 15), some (.int (nI m)), some (.int (nI (t + 1)))] [] (zL I A (.ref 15)) := by
    intro t ht h1
    rw [B_BeltOrder_firstOf_2, hc.n, zbS, if_neg (nI_ge ht (by omega)), zbit (show m < 2 ^ 31 by omega) (show t < 31 by omega)]
    by_cases c1 : m.testBit t = true
    · rw [ztest.mpr c1, if_neg (fun q => q rfl), c_fewestFrom hc hB hm ht c1 (hf2 t c1) d, zbI]
      dsimp only
      have hv := val_le (g := g) hm (show t < 7 by omega) c1
      have hF := (FG_le (g := g) (zpc m) m hm rfl).1
      have hz : zpc m ≤ 7 := by
        have := zS_le (f := fun k => m / 2 ^ k % 2) (c := 1) 7 (fun k _ => by have := Nat.mod_two_eq_zero_or_one (m / 2 ^ k); show m / 2 ^ k % 2 ≤ 1; omega)
        have e : zpc m ≤ 7 * 1 := this
        omega
      rw [zr_59_0, zbS, z_rd za_60 hm, zbS, hf.1, if_pos (fun q => h1 c1 ((nI_eq (by omega) (by omega)).mp q)), nI_1]
    · rw [zbit0 c1, if_pos (by decide), nI_1]
  have goes : ∀ t, t ≤ g 3 → (∀ u, u < t → m.testBit u = true → val g m u ≠ (FG g (zpc m) m).1) → zE L xs (d + 3) K_BeltOrder_firstOf 2 [some (.ref 59), some (.ref 15), some (.int (nI m)), some (.int (0 : Int32))] [] (zL I A (.ref 15)) = zE L xs (d + 3) K_BeltOrder_firstOf 2 [some (.ref 59), some (.ref 15), some (.int (nI m)), some (.int (nI t))] [] (zL I A (.ref 15)) := by
    intro t
    induction t with
    | zero => intro _ _; rfl
    | succ t ih =>
      intro ht hu
      rw [ih (by omega) (fun u h1 => hu u (by omega)), go t (by omega) (fun q => hu t (by omega) q)]
  by_cases h0 : m = 0
  · subst h0
    rw [goes (g 3) (Nat.le_refl _) (fun u _ q => by rw [Nat.zero_testBit] at q; cases q), B_BeltOrder_firstOf_2, hc.n, zbS, if_pos (nI_le (Nat.le_refl _) (by omega))]
    rfl
  · obtain ⟨k, hk⟩ : ∃ k, zpc m = k + 1 := ⟨zpc m - 1, by have := (pos_at hm).1; have : zpc m ≠ 0 := fun q => h0 (this.mp q); omega⟩
    obtain ⟨a, a1, a2, a3, a4⟩ := FG_first (g := g) hm hk
    have ea : (FG g (zpc m) m).1 = val g m a := by rw [hk, a3, val_cnd hm a1 hk a2]
    have eh : (FG g (zpc m) m).2.head? = some a := by rw [hk, a3]; rfl
    rw [goes a (Nat.le_of_lt (hb a a2)) (fun u hu q e => by
      have := (a4 u (by omega) q).2 hu
      rw [← val_cnd hm a1 hk a2, ← val_cnd hm (by omega) hk q, e, ea] at this
      omega), stop a (hb a a2) a2 ea.symm, eh]
    rfl
end
