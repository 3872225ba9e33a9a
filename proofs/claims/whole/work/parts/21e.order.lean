section
variable {L : Nat} {xs : Nat → Int32} {B : Nat} {g : Nat → Nat} {I A : Nat → Nat → Int32} {b : Value}
/-- a row of THINGS in the reference's rows -/
def tR (A : Nat → Nat → Int32) (q : Nat) (p : List Nat) : Prop := ∀ j, j < p.length → A q j = nI (p.getD j 0)
def pGood (p : List Nat) : Prop := p.length ≤ 7 ∧ ∀ t, t ∈ p → t < 7
theorem getD_mem {p : List Nat} {j : Nat} (h : j < p.length) : p.getD j 0 ∈ p := by
  rw [List.getD_eq_getElem?_getD, List.getElem?_eq_getElem h]
  exact List.getElem_mem h
theorem pGood.at {p : List Nat} (h : pGood p) {j : Nat} (hj : j < p.length) : p.getD j 0 < 7 := h.2 _ (getD_mem hj)
theorem getD_set {p : List Nat} {i j x : Nat} (hi : i < p.length) : (p.set i x).getD j 0 = if j = i then x else p.getD j 0 := by
  rw [List.getD_eq_getElem?_getD, List.getD_eq_getElem?_getD, List.getElem?_set]
  by_cases e : i = j
  · subst e; simp [hi]
  · rw [if_neg e, if_neg (fun q => e q.symm)]
theorem tR.sw {p : List Nat} (h : tR A 74 p) {i j : Nat} (hi : i < p.length) (hj : j < p.length) : tR (zuA (zuA A 74 i (nI (p.getD j 0))) 74 j (nI (p.getD i 0))) 74 (swI p i j) := by
  intro k hk
  rw [swI_len] at hk
  unfold swI
  rw [getD_set (by rw [List.length_set]; exact hj), getD_set hi, zuA_s, zuA_s]
  by_cases e : k = j
  · subst e; rw [pk_us, if_pos rfl]
  · rw [pk_un e, if_neg e]
    by_cases e2 : k = i
    · subst e2; rw [pk_us, if_pos rfl]
    · rw [pk_un e2, if_neg e2]; exact h k hk
theorem swI_good {p : List Nat} (h : pGood p) {i j : Nat} (hi : i < p.length) (hj : j < p.length) : pGood (swI p i j) := by
  refine ⟨by rw [swI_len]; exact h.1, fun t ht => ?_⟩
  unfold swI at ht
  rcases List.mem_or_eq_of_mem_set ht with q | q
  · rcases List.mem_or_eq_of_mem_set q with q | q
    · exact h.2 t q
    · rw [q]; exact h.at hj
  · rw [q]; exact h.at hi
theorem zm1 (x : Int32) : x + (-1) = x - 1 := by
  apply Int32.toBitVec_inj.1
  show x.toBitVec + (-1 : Int32).toBitVec = x.toBitVec - (1 : Int32).toBitVec
  rw [show (-1 : Int32).toBitVec = -(1 : Int32).toBitVec from by decide]
  exact (BitVec.sub_eq_add_neg _ _).symm
theorem m_rev (i1 i2 i3 : Int32) (d : Nat) : ∀ (f : Nat) (p : List Nat) (A : Nat → Nat → Int32) (lo hi : Nat) (i4 : Int32), tR A 74 p → pGood p → hi < p.length → hi ≤ lo + 2 * f → lo < 2 ^ 20 → ∃ A', zE L xs d K_Model_nextRow 100 [some (.ref 64), some (.int i1), some (.int i2), some (.int i3), some (.int i4), some (.int (nI lo)), some (.int (nI hi))] [] (zL I A b) = some (some (.int 1), zL I A' b) ∧ tR A' 74 (rvI f p lo hi) ∧ pGood (rvI f p lo hi) ∧ (rvI f p lo hi).length = p.length ∧ ∀ q, q ≠ 74 → A' q = A q
  | 0, p, A, lo, hi, i4, h, hp, h1, h2, h3 => by
    rw [B_Model_nextRow_100, if_pos (nI_le (by omega) (by omega))]
    exact ⟨A, rfl, h, hp, rfl, fun _ _ => rfl⟩
  | f + 1, p, A, lo, hi, i4, h, hp, h1, h2, h3 => by
    have h7 := hp.1
    have e : rvI (f + 1) p lo hi = if lo < hi then rvI f (swI p lo hi) (lo + 1) (hi - 1) else p := rfl
    rw [B_Model_nextRow_100, e]
    by_cases c : lo < hi
    · have r1 : pm_rd 0 (zL I A b) 74 (nI lo) = some (nI (p.getD lo 0)) := by rw [z_rd za_74 (by omega), h lo (by omega)]
      have r2 : pm_rd 0 (zL I A b) 74 (nI hi) = some (nI (p.getD hi 0)) := by rw [z_rd za_74 (by omega), h hi h1]
      rw [if_neg (nI_ge c (by omega)), if_pos c, zr_64_24, zbS, r1, zbS, zbS, zbS, r2, zbS, z_wr za_74 (by omega), zbS, zr_64_24, zbS, z_wr za_74 (by omega), zbS, nI_1, zm1, show nI hi - 1 = nI (hi - 1) from by rw [show hi = (hi - 1) + 1 by omega]; exact nI_pred _]
      obtain ⟨A', x1, x2, x3, x4, x5⟩ := m_rev i1 i2 i3 d f (swI p lo hi) _ (lo + 1) (hi - 1) (nI (p.getD lo 0)) (h.sw (by omega) h1) (swI_good hp (by omega) h1) (by rw [swI_len]; omega) (by omega) (by omega)
      exact ⟨A', x1, x2, x3, by rw [x4, swI_len], fun q hq => by rw [x5 q hq, zuA_o hq, zuA_o hq]⟩
    · rw [if_pos (nI_le (by omega) (by omega)), if_neg c]
      exact ⟨A, rfl, h, hp, rfl, fun _ _ => rfl⟩
theorem m_by {p : List Nat} (h : tR A 74 p) (hp : pGood p) {a : Nat} (ha : a < p.length) (i1 : Int32) (y4 y5 y6 : Option Value) (d : Nat) : ∀ j, a ≤ j → j < p.length → byI p (p.getD a 0) (j + 1) < p.length ∧ zE L xs d K_Model_nextRow 41 [some (.ref 64), some (.int i1), some (.int (nI a)), some (.int (nI j)), y4, y5, y6] [] (zL I A b) = zE L xs d K_Model_nextRow 100 [some (.ref 64), some (.int i1), some (.int (nI a)), some (.int (nI (byI p (p.getD a 0) (j + 1)))), some (.int (nI (p.getD a 0))), some (.int (nI (a + 1))), some (.int (i1 - 1))] [] (zL I (zuA (zuA A 74 a (nI (p.getD (byI p (p.getD a 0) (j + 1)) 0))) 74 (byI p (p.getD a 0) (j + 1)) (nI (p.getD a 0))) b) := by
  have h7 := hp.1
  intro j
  induction j with
  | zero =>
    intro h1 h2
    have e0 : a = 0 := by omega
    subst e0
    have e : byI p (p.getD 0 0) 1 = 0 := by
      show (if p.getD 0 0 < p.getD 0 0 then byI p (p.getD 0 0) 0 else 0) = 0
      rw [if_neg (Nat.lt_irrefl _)]
    have r1 : pm_rd 0 (zL I A b) 74 (nI 0) = some (nI (p.getD 0 0)) := by rw [z_rd za_74 (by omega), h 0 h2]
    have := hp.at h2
    rw [e]
    refine ⟨h2, ?_⟩
    rw [B_Model_nextRow_41, zr_64_24, zbS, r1, zbS, zbS, r1, zbS, if_pos (nI_le (Nat.le_refl _) (by omega)), zbS, r1, zbS, zbS, zbS, r1, zbS, z_wr za_74 (by omega), zbS, zr_64_24, zbS, z_wr za_74 (by omega), zbS, nI_1]
  | succ j ih =>
    intro h1 h2
    have e : byI p (p.getD a 0) (j + 1 + 1) = if p.getD (j + 1) 0 < p.getD a 0 then byI p (p.getD a 0) (j + 1) else j + 1 := rfl
    have r1 : pm_rd 0 (zL I A b) 74 (nI (j + 1)) = some (nI (p.getD (j + 1) 0)) := by rw [z_rd za_74 (by omega), h (j + 1) h2]
    have r2 : pm_rd 0 (zL I A b) 74 (nI a) = some (nI (p.getD a 0)) := by rw [z_rd za_74 (by omega), h a ha]
    have t1 := hp.at h2
    have t2 := hp.at ha
    rw [e]
    by_cases c : p.getD (j + 1) 0 < p.getD a 0
    · have hne : a ≠ j + 1 := fun q => by subst q; omega
      obtain ⟨q1, q2⟩ := ih (by omega) (by omega)
      rw [if_pos c]
      refine ⟨q1, ?_⟩
      rw [← q2, B_Model_nextRow_41, zr_64_24, zbS, r1, zbS, zbS, r2, zbS, if_neg (nI_ge c (by omega)), zm1, nI_pred]
    · rw [if_neg c]
      refine ⟨h2, ?_⟩
      rw [B_Model_nextRow_41, zr_64_24, zbS, r1, zbS, zbS, r2, zbS, if_pos (nI_le (by omega) (by omega)), zbS, r2, zbS, zbS, zbS, r1, zbS, z_wr za_74 (by omega), zbS, zr_64_24, zbS, z_wr za_74 (by omega), zbS, nI_1]
theorem m_nextRow {p : List Nat} (h : tR A 74 p) (hp : pGood p) (d : Nat) : ∃ A', pm_call L xs (d + 1) m_Model_nextRow [.ref 64, .int (nI p.length)] (zL I A b) = some (some (.int (if (nxI p).isSome = true then 1 else 0)), zL I A' b) ∧ (∀ p', nxI p = some p' → tR A' 74 p' ∧ pGood p' ∧ p'.length = p.length) ∧ ∀ q, q ≠ 74 → A' q = A q := by
  have h7 := hp.1
  rw [D_Model_nextRow, B_Model_nextRow_0]
  have at_ : ∀ k, k < p.length → ∀ y3 y4 y5 y6, (∀ a, atI p k = some a → ∃ y3', zE L xs d K_Model_nextRow 4 [some (.ref 64), some (.int (nI p.length)), some (.int (nI k - 1)), y3, y4, y5, y6] [] (zL I A b) = zE L xs d K_Model_nextRow 41 [some (.ref 64), some (.int (nI p.length)), some (.int (nI a)), some (.int y3'), y4, y5, y6] [] (zL I A b) ∧ y3' = nI p.length - 1) ∧ (atI p k = none → zE L xs d K_Model_nextRow 4 [some (.ref 64), some (.int (nI p.length)), some (.int (nI k - 1)), y3, y4, y5, y6] [] (zL I A b) = some (some (.int 0), zL I A b)) := by
    intro k
    induction k with
    | zero =>
      intro hk y3 y4 y5 y6
      refine ⟨fun a ha => (by cases ha), fun _ => ?_⟩
      rw [B_Model_nextRow_4, if_pos (by decide), if_neg (by decide)]
    | succ k ih =>
      intro hk y3 y4 y5 y6
      have e : atI p (k + 1) = if p.getD (k + 1) 0 < p.getD k 0 then atI p k else some k := rfl
      have r1 : pm_rd 0 (zL I A b) 74 (nI k) = some (nI (p.getD k 0)) := by rw [z_rd za_74 (by omega), h k (by omega)]
      have r2 : pm_rd 0 (zL I A b) 74 (nI (k + 1)) = some (nI (p.getD (k + 1) 0)) := by rw [z_rd za_74 (by omega), h (k + 1) hk]
      have t1 := hp.at (show k < p.length by omega)
      have t2 := hp.at hk
      rw [e, nI_pred, B_Model_nextRow_4, if_neg (nI_pos (by omega)), zr_64_24, zbS, r1, zbS, zbS, nI_1, r2, zbS]
      by_cases c : p.getD (k + 1) 0 < p.getD k 0
      · rw [if_pos c, if_neg (nI_ge c (by omega)), zm1]
        exact ih (by omega) y3 y4 y5 y6
      · rw [if_neg c, if_pos (nI_le (by omega) (by omega)), if_pos (nI_pos' (by omega))]
        exact ⟨fun a ha => by cases ha; exact ⟨_, rfl, rfl⟩, fun q => by cases q⟩
  cases hn : p.length with
  | zero =>
    have hnx : nxI p = none := by
      have : p = [] := List.length_eq_zero_iff.mp hn
      subst this
      rfl
    rw [hnx]
    refine ⟨A, ?_, fun p' q => (by cases q), fun _ _ => rfl⟩
    rw [B_Model_nextRow_4, if_pos (by decide), if_neg (by decide)]
    rfl
  | succ k =>
    have hk : k < p.length := by omega
    obtain ⟨s1, s2⟩ := at_ k hk none none none none
    rw [hn] at s1 s2
    rw [show nI (k + 1) - 2 = nI k - 1 from by
      apply Int32.toBitVec_inj.1
      show BitVec.ofNat 32 (k + 1) - (2 : Int32).toBitVec = BitVec.ofNat 32 k - (1 : Int32).toBitVec
      rw [show (2 : Int32).toBitVec = BitVec.ofNat 32 2 from rfl, show (1 : Int32).toBitVec = BitVec.ofNat 32 1 from rfl, BitVec.ofNat_add]
      rw [show BitVec.ofNat 32 2 = BitVec.ofNat 32 1 + BitVec.ofNat 32 1 from rfl]
      rw [BitVec.sub_eq_add_neg, BitVec.sub_eq_add_neg, BitVec.neg_add]
      ac_nf]
    unfold nxI
    rw [show p.length - 1 = k by omega]
    cases ha : atI p k with
    | none =>
      refine ⟨A, ?_, fun p' q => (by cases q), fun _ _ => rfl⟩
      rw [s2 ha]
      rfl
    | some a =>
      obtain ⟨y3', e1, e2⟩ := s1 a ha
      have halt := atI_lt _ _ _ ha
      rw [e1, e2, nI_pred]
      obtain ⟨b1, b2⟩ := m_by (L := L) (xs := xs) (I := I) (b := b) h hp (show a < p.length by omega) (nI (k + 1)) none none none d k (by omega) hk
      rw [b2, nI_pred]
      obtain ⟨A', x1, x2, x3, x4, x5⟩ := m_rev (L := L) (xs := xs) (I := I) (b := b) (nI (k + 1)) (nI a) (nI (byI p (p.getD a 0) (k + 1))) d 4 (swI p a (byI p (p.getD a 0) (k + 1))) _ (a + 1) k (nI (p.getD a 0)) (h.sw (by omega) b1) (swI_good hp (by omega) b1) (by rw [swI_len]; exact hk) (by omega) (by omega)
      rw [x1]
      refine ⟨A', rfl, fun p' q => ?_, fun q hq => by rw [x5 q hq, zuA_o hq, zuA_o hq]⟩
      dsimp only at q
      injection q with q
      rw [← q, show p.length = k + 1 from hn]
      exact ⟨x2, x3, by rw [x4, swI_len, hn]⟩
end
