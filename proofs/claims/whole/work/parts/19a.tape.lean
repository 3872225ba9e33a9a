/-! shop: the tape -/
section
variable {n : Nat} {tp : Nat → Nat}
def dg (n : Nat) (tp : Nat → Nat) (Q : Nat) : Bool := decide (Q < n) && (decide (48 ≤ tp Q) && decide (tp Q ≤ 57))
def nf (n : Nat) (tp : Nat → Nat) (P : Nat) : Nat := if dg n tp P = true then (if dg n tp (P + 1) = true then (if dg n tp (P + 2) = true then 3 else 2) else 1) else 0
def nv (n : Nat) (tp : Nat → Nat) (P : Nat) : Nat := if dg n tp (P + 1) = true then (tp P - 48) * 10 + tp (P + 1) - 48 else tp P - 48
def kl (x : Nat) : Nat := if x = 98 then 2 else if x = 99 then 5 else if x = 114 then 3 else if x = 115 then 4 else if x = 116 then 1 else 0
/-- where reading stands, and its FAULT -/
def pSg (n : Nat) (tp : Nat → Nat) (c : Nat) (s : Nat × Nat) : Nat × Nat := if s.2 ≠ 0 then s else if s.1 < n ∧ tp s.1 = c then (s.1 + 1, 0) else (s.1, 1)
def pNm (n : Nat) (tp : Nat → Nat) (lo hi : Nat) (s : Nat × Nat) : (Nat × Nat) × Nat := if s.2 ≠ 0 then (s, lo) else if nf n tp s.1 = 0 ∨ nf n tp s.1 = 3 then ((s.1, 1), lo) else if nv n tp s.1 < lo ∨ hi < nv n tp s.1 then ((s.1, 2), lo) else ((s.1 + nf n tp s.1, 0), nv n tp s.1)
def pSo (n : Nat) (tp : Nat → Nat) (th : Nat) (s : Nat × Nat) : (Nat × Nat) × Nat := if s.2 ≠ 0 then (s, 0) else if s.1 < n ∧ kl (tp s.1) ≠ 0 then (if 7 ≤ th then ((s.1, 3), kl (tp s.1)) else ((s.1 + 1, 0), kl (tp s.1))) else ((s.1, 1), 0)
def tGood (n : Nat) (tp : Nat → Nat) : Prop := n ≤ 120 ∧ ∀ i, i < n → tp i < 256
def sGood (n : Nat) (s : Nat × Nat) : Prop := s.1 ≤ n ∧ s.2 ≤ 3
theorem nf_le {P : Nat} (h : nf n tp P ≠ 0) : P + nf n tp P ≤ n := by
  unfold nf at h ⊢
  by_cases c1 : dg n tp P = true
  · have q1 : P < n := by unfold dg at c1; simp at c1; exact c1.1
    by_cases c2 : dg n tp (P + 1) = true
    · have q2 : P + 1 < n := by unfold dg at c2; simp at c2; exact c2.1
      by_cases c3 : dg n tp (P + 2) = true
      · have q3 : P + 2 < n := by unfold dg at c3; simp at c3; exact c3.1
        rw [if_pos c1, if_pos c2, if_pos c3]; omega
      · rw [if_pos c1, if_pos c2, if_neg c3]; omega
    · rw [if_pos c1, if_neg c2]; omega
  · rw [if_neg c1] at h; exact absurd rfl h
theorem pSg_good {c : Nat} {s : Nat × Nat} (h : sGood n s) : sGood n (pSg n tp c s) := by
  unfold pSg
  split
  · exact h
  · split
    · exact ⟨by dsimp only; omega, by show _ ≤ 3; dsimp only; omega⟩
    · exact ⟨h.1, by show _ ≤ 3; dsimp only; omega⟩
theorem pNm_good {lo hi : Nat} {s : Nat × Nat} (h : sGood n s) : sGood n (pNm n tp lo hi s).1 := by
  unfold pNm
  split
  · exact h
  · split
    · exact ⟨h.1, by show _ ≤ 3; dsimp only; omega⟩
    · rename_i h1 h2
      split
      · exact ⟨h.1, by show _ ≤ 3; dsimp only; omega⟩
      · exact ⟨nf_le (fun e => h2 (Or.inl e)), by show _ ≤ 3; dsimp only; omega⟩
theorem pSo_good {th : Nat} {s : Nat × Nat} (h : sGood n s) : sGood n (pSo n tp th s).1 := by
  unfold pSo
  split
  · exact h
  · split
    · split
      · exact ⟨h.1, by show _ ≤ 3; dsimp only; omega⟩
      · exact ⟨by dsimp only; omega, by show _ ≤ 3; dsimp only; omega⟩
    · exact ⟨h.1, by show _ ≤ 3; dsimp only; omega⟩
theorem pNm_le {lo hi : Nat} {s : Nat × Nat} (h : lo ≤ hi) : lo ≤ (pNm n tp lo hi s).2 ∧ (pNm n tp lo hi s).2 ≤ hi := by
  unfold pNm
  split
  · exact ⟨Nat.le_refl _, h⟩
  · split
    · exact ⟨Nat.le_refl _, h⟩
    · split
      · exact ⟨Nat.le_refl _, h⟩
      · dsimp only; omega
theorem kl_le (x : Nat) : kl x ≤ 5 := by
  unfold kl
  repeat' split
  all_goals omega
end
section
variable {L : Nat} {xs : Nat → Int32} {n : Nat} {tp : Nat → Nat} {I A : Nat → Nat → Int32} {b : Value} {s : Nat × Nat}
def f13 (I I' : Nat → Nat → Int32) : Prop := ∀ o k, ¬ (o = 13 ∧ (k = 2 ∨ k = 3)) → I' o k = I o k
theorem f13.refl : f13 I I := fun _ _ _ => rfl
theorem f13.trans {I1 I2 : Nat → Nat → Int32} (h : f13 I I1) (k : f13 I1 I2) : f13 I I2 := fun o j hj => (k o j hj).trans (h o j hj)
theorem f13.u2 (x : Int32) : f13 I (zuI I 13 2 x) := fun o k hk => by rw [zuI_at, if_neg (by omega)]
theorem f13.u3 (x : Int32) : f13 I (zuI I 13 3 x) := fun o k hk => by rw [zuI_at, if_neg (by omega)]
def tC (n : Nat) (tp : Nat → Nat) (s : Nat × Nat) (I A : Nat → Nat → Int32) : Prop := I 13 1 = nI n ∧ I 13 2 = nI s.1 ∧ I 13 3 = nI s.2 ∧ ∀ i, i < n → A 14 i = nI (tp i)
theorem tC.fault (h : tC n tp s I A) (f : Nat) : tC n tp (s.1, f) (zuI I 13 3 (nI f)) A := ⟨by rw [zuI_n (by decide)]; exact h.1, by rw [zuI_n (by decide)]; exact h.2.1, zuI_s, h.2.2.2⟩
theorem tC.go (h : tC n tp s I A) (P : Nat) (h0 : s.2 = 0) : tC n tp (P, 0) (zuI I 13 2 (nI P)) A := ⟨by rw [zuI_n (by decide)]; exact h.1, zuI_s, by rw [zuI_n (by decide), h.2.2.1, h0], h.2.2.2⟩
theorem c_readSign (hT : tGood n tp) (hs : sGood n s) (h : tC n tp s I A) {c : Nat} (hc : c < 256) {v : Int32} (hv : v = nI c) (d : Nat) : ∃ I', pm_call L xs (d + 1) m_Tape_readSign [.ref 13, .int v] (zL I A b) = some (none, zL I' A b) ∧ tC n tp (pSg n tp c s) I' A ∧ f13 I I' := by
  subst hv
  obtain ⟨h1, h2, h3, h4⟩ := h
  have hn := hT.1
  have hs1 := hs.1
  rw [D_Tape_readSign, B_Tape_readSign_0, zg_13_3, zbS, h3]
  unfold pSg
  by_cases c0 : s.2 = 0
  · rw [if_pos (by rw [c0]; rfl), zg_13_2, zbS, zg_13_1, zbS, h1, h2, if_neg (show ¬ s.2 ≠ 0 from fun q => q c0)]
    by_cases c1 : s.1 < n
    · have ht := hT.2 s.1 c1
      rw [if_neg (nI_ge c1 (by omega)), zr_13_0, zbS, zbS, z_rd za_14 (show s.1 < 120 by omega), h4 s.1 c1, zbS]
      by_cases c2 : tp s.1 = c
      · rw [if_neg (fun q => q (by rw [c2])), zbS, nI_1, zp_13_2, zbS, if_pos ⟨c1, c2⟩]
        exact ⟨_, rfl, tC.go ⟨h1, h2, h3, h4⟩ _ c0, f13.u2 _⟩
      · rw [if_pos (fun q => c2 ((nI_eq (by omega) (by omega)).mp q)), if_neg (fun q => c2 q.2), zp_13_3, zbS]
        exact ⟨_, rfl, tC.fault ⟨h1, h2, h3, h4⟩ 1, f13.u3 _⟩
    · rw [if_pos (nI_le (by omega) (by omega)), if_neg (fun q => c1 q.1), zp_13_3, zbS]
      exact ⟨_, rfl, tC.fault ⟨h1, h2, h3, h4⟩ 1, f13.u3 _⟩
  · rw [if_neg (nI_ne0 (by omega) (by have := hs.2; omega)), if_pos c0]
    exact ⟨I, rfl, ⟨h1, h2, h3, h4⟩, f13.refl⟩
/-- what a number's reading ends with -/
def nEnd (σ : pm_H) (i1 i2 i3 i4 : Int32) : Option pm_R := if i4 < (1 : Int32) then (pm_pf σ 13 5 3 (.int (1 : Int32))).bind fun g2 => some (some (.int i1), g2) else (if i4 ≤ (2 : Int32) then (if i3 < i1 then (pm_pf σ 13 5 3 (.int (2 : Int32))).bind fun g3 => some (some (.int i1), g3) else (if i3 ≤ i2 then (pm_gI σ 13 5 2).bind fun x4 => (pm_pf σ 13 5 2 (.int (x4 + i4))).bind fun g5 => some (some (.int i3), g5) else (pm_pf σ 13 5 3 (.int (2 : Int32))).bind fun g6 => some (some (.int i1), g6))) else (pm_pf σ 13 5 3 (.int (1 : Int32))).bind fun g7 => some (some (.int i1), g7))
theorem nGo (hT : tGood n tp) (h : tC n tp s I A) (i1 i2 : Int32) {V k Q : Nat} (hk : k < 3) (hd : dg n tp Q = true) (d : Nat) : zE L xs d K_Tape_readNumber 20 [some (.ref 13), some (.int i1), some (.int i2), some (.int (nI V)), some (.int (nI k)), some (.int (nI Q))] [] (zL I A b) = zE L xs d K_Tape_readNumber 20 [some (.ref 13), some (.int i1), some (.int i2), some (.int (nI (V * 10 + tp Q - 48))), some (.int (nI (k + 1))), some (.int (nI (Q + 1)))] [] (zL I A b) := by
  have hn := hT.1
  unfold dg at hd
  simp only [Bool.and_eq_true, decide_eq_true_eq] at hd
  obtain ⟨q1, q2, q3⟩ := hd
  have hr : pm_rd 0 (zL I A b) 14 (nI Q) = some (nI (tp Q)) := by rw [z_rd za_14 (by omega), h.2.2.2 Q q1]
  rw [B_Tape_readNumber_20, zg_13_1, zbS, h.1, if_neg (nI_ge q1 (by omega)), zr_13_0, zbS, hr, zbS, if_neg (show ¬ nI (tp Q) < (48 : Int32) from nI_nlt (b := 48) q2 (by omega)), zbS, hr, zbS, if_neg (show ¬ (57 : Int32) < nI (tp Q) from nI_nlt (a := 57) q3 (by decide)), if_neg (show ¬ (3 : Int32) ≤ nI k by rw [zl3]; exact nI_ge hk (by decide)), zbS, hr, zbS, zl10, pk_mul, nI_add, show (48 : Int32) = nI 48 from by decide, pk_sub (by omega), nI_1, nI_1]
theorem nStop (hT : tGood n tp) (h : tC n tp s I A) (i1 i2 i3 : Int32) {k Q : Nat} (hk : k ≤ 3) (hQ : Q < 2 ^ 20) (hd : dg n tp Q = false ∨ k = 3) (d : Nat) : zE L xs d K_Tape_readNumber 20 [some (.ref 13), some (.int i1), some (.int i2), some (.int i3), some (.int (nI k)), some (.int (nI Q))] [] (zL I A b) = nEnd (zL I A b) i1 i2 i3 (nI k) := by
  have hn := hT.1
  unfold nEnd
  rw [B_Tape_readNumber_20, zg_13_1, zbS, h.1]
  by_cases q1 : Q < n
  · have ht := hT.2 Q q1
    have hr : pm_rd 0 (zL I A b) 14 (nI Q) = some (nI (tp Q)) := by rw [z_rd za_14 (by omega), h.2.2.2 Q q1]
    rw [if_neg (nI_ge q1 (by omega)), zr_13_0, zbS, hr, zbS]
    by_cases q2 : 48 ≤ tp Q
    · rw [if_neg (show ¬ nI (tp Q) < (48 : Int32) from nI_nlt (b := 48) q2 (by omega)), zbS, hr, zbS]
      by_cases q3 : tp Q ≤ 57
      · rw [if_neg (show ¬ (57 : Int32) < nI (tp Q) from nI_nlt (a := 57) q3 (by decide))]
        rcases hd with q | q
        · unfold dg at q
          simp [q1, q2] at q
          omega
        · rw [if_pos (show (3 : Int32) ≤ nI k by rw [zl3]; exact nI_le (by omega) (by omega))]
      · rw [if_pos (show (57 : Int32) < nI (tp Q) from nI_lt (a := 57) (by omega) (by omega))]
    · rw [if_pos (show nI (tp Q) < (48 : Int32) from nI_lt (b := 48) (by omega) (by decide))]
  · rw [if_pos (nI_le (by omega) (by omega))]
theorem c_readNumber (hT : tGood n tp) (hs : sGood n s) (h : tC n tp s I A) {lo hi : Nat} (hl : lo ≤ hi) (hh : hi < 100) {v w : Int32} (hv : v = nI lo) (hw : w = nI hi) (d : Nat) : ∃ I', pm_call L xs (d + 1) m_Tape_readNumber [.ref 13, .int v, .int w] (zL I A b) = some (some (.int (nI (pNm n tp lo hi s).2)), zL I' A b) ∧ tC n tp (pNm n tp lo hi s).1 I' A ∧ f13 I I' := by
  subst hv
  subst hw
  have hn := hT.1
  have hs1 := hs.1
  have h1 := h.1
  have h2 := h.2.1
  have h3 := h.2.2.1
  rw [D_Tape_readNumber, B_Tape_readNumber_0, zg_13_3, zbS, h3]
  by_cases c0 : s.2 = 0
  · rw [if_pos (by rw [c0]; rfl), zg_13_2, zbS, h2]
    have fin : ∀ V k, k ≤ 3 → V < 2 ^ 20 → (nf n tp s.1 = k ∧ (k ≠ 0 → k ≠ 3 → nv n tp s.1 = V)) → ∃ I', nEnd (zL I A b) (nI lo) (nI hi) (nI V) (nI k) = some (some (.int (nI (pNm n tp lo hi s).2)), zL I' A b) ∧ tC n tp (pNm n tp lo hi s).1 I' A ∧ f13 I I' := by
      intro V k hk hV ⟨e1, e2⟩
      unfold nEnd pNm
      rw [if_neg (show ¬ s.2 ≠ 0 from fun q => q c0), e1]
      by_cases k0 : k = 0
      · subst k0
        rw [if_pos (by decide), if_pos (show 0 = 0 ∨ 0 = 3 from Or.inl rfl), zp_13_3, zbS]
        exact ⟨_, rfl, h.fault 1, f13.u3 _⟩
      · rw [if_neg (show ¬ nI k < (1 : Int32) by rw [zl1]; exact nI_nlt (by omega) (by omega))]
        by_cases k3 : k = 3
        · subst k3
          rw [if_neg (by decide), if_pos (show 3 = 0 ∨ 3 = 3 from Or.inr rfl), zp_13_3, zbS]
          exact ⟨_, rfl, h.fault 1, f13.u3 _⟩
        · rw [if_pos (show nI k ≤ (2 : Int32) by rw [zl2]; exact nI_le (by omega) (by decide)), if_neg (show ¬ (k = 0 ∨ k = 3) by omega), e2 k0 k3]
          by_cases v1 : V < lo
          · rw [if_pos (nI_lt v1 (by omega)), if_pos (show V < lo ∨ hi < V from Or.inl v1), zp_13_3, zbS]
            exact ⟨_, rfl, h.fault 2, f13.u3 _⟩
          · rw [if_neg (nI_nlt (by omega) (by omega))]
            by_cases v2 : V ≤ hi
            · rw [if_pos (nI_le v2 (by omega)), if_neg (show ¬ (V < lo ∨ hi < V) by omega), zg_13_2, zbS, h2, nI_add, zp_13_2, zbS]
              exact ⟨_, rfl, h.go _ c0, f13.u2 _⟩
            · rw [if_neg (nI_ge (by omega) (by omega)), if_pos (show V < lo ∨ hi < V by omega), zp_13_3, zbS]
              exact ⟨_, rfl, h.fault 2, f13.u3 _⟩
    rw [show (0 : Int32) = nI 0 from rfl]
    by_cases d0 : dg n tp s.1 = true
    · have t0 : s.1 < n ∧ 48 ≤ tp s.1 ∧ tp s.1 ≤ 57 := by unfold dg at d0; simpa using d0
      rw [nGo hT h _ _ (by decide) d0]
      by_cases d1 : dg n tp (s.1 + 1) = true
      · have t1 : s.1 + 1 < n ∧ 48 ≤ tp (s.1 + 1) ∧ tp (s.1 + 1) ≤ 57 := by unfold dg at d1; simpa using d1
        rw [nGo hT h _ _ (by decide) d1]
        by_cases d2 : dg n tp (s.1 + 1 + 1) = true
        · have t2 : s.1 + 1 + 1 < n ∧ 48 ≤ tp (s.1 + 1 + 1) ∧ tp (s.1 + 1 + 1) ≤ 57 := by unfold dg at d2; simpa using d2
          rw [nGo hT h _ _ (by decide) d2, nStop hT h _ _ _ (by omega) (by omega) (Or.inr rfl)]
          exact fin _ _ (by omega) (by omega) ⟨by unfold nf; rw [if_pos d0, if_pos d1, if_pos d2], fun _ q => absurd rfl q⟩
        · rw [nStop hT h _ _ _ (by omega) (by omega) (Or.inl (by simpa using d2))]
          exact fin _ _ (by omega) (by omega) ⟨by unfold nf; rw [if_pos d0, if_pos d1, if_neg d2], fun _ _ => by unfold nv; rw [if_pos d1]; omega⟩
      · rw [nStop hT h _ _ _ (by omega) (by omega) (Or.inl (by simpa using d1))]
        exact fin _ _ (by omega) (by omega) ⟨by unfold nf; rw [if_pos d0, if_neg d1], fun _ _ => by unfold nv; rw [if_neg d1]; omega⟩
    · rw [nStop hT h _ _ _ (by omega) (by omega) (Or.inl (by simpa using d0))]
      exact fin _ _ (by omega) (by omega) ⟨by unfold nf; rw [if_neg d0], fun q => absurd rfl q⟩
  · unfold pNm
    rw [if_neg (nI_ne0 (by omega) (by have := hs.2; omega)), if_pos c0]
    exact ⟨I, rfl, h, f13.refl⟩
theorem c_byLetter {x : Nat} (hx : x < 256) (σ : pm_H) (d : Nat) : pm_call L xs (d + 1) m_Kinds_byLetter [.int (nI x)] σ = some (some (.int (nI (kl x))), σ) := by
  rw [C_Kinds_byLetter, B_Kinds_byLetter_0]
  have e : ∀ c : Nat, c < 256 → (nI x = nI c) = (x = c) := fun c hc => znI (by omega) (by omega)
  rw [show (98 : Int32) = nI 98 from by decide, show (99 : Int32) = nI 99 from by decide, show (114 : Int32) = nI 114 from by decide, show (115 : Int32) = nI 115 from by decide, show (116 : Int32) = nI 116 from by decide]
  simp only [e 98 (by decide), e 99 (by decide), e 114 (by decide), e 115 (by decide), e 116 (by decide)]
  unfold kl
  repeat' split
  all_goals rfl
theorem c_readSort (hT : tGood n tp) (hs : sGood n s) (h : tC n tp s I A) {th : Nat} (hth : th ≤ 7) (d : Nat) : ∃ I', pm_call L xs (d + 2) m_Tape_readSort [.ref 13, .int (nI th)] (zL I A b) = some (some (.int (nI (pSo n tp th s).2)), zL I' A b) ∧ tC n tp (pSo n tp th s).1 I' A ∧ f13 I I' := by
  have hn := hT.1
  have hs1 := hs.1
  rw [D_Tape_readSort, B_Tape_readSort_0, zg_13_3, zbS, h.2.2.1]
  unfold pSo
  by_cases c0 : s.2 = 0
  · rw [if_pos (by rw [c0]; rfl), zg_13_2, zbS, zg_13_1, zbS, h.1, h.2.1, if_neg (show ¬ s.2 ≠ 0 from fun q => q c0)]
    by_cases c1 : s.1 < n
    · have ht := hT.2 s.1 c1
      have hkl := kl_le (tp s.1)
      rw [if_neg (nI_ge c1 (by omega)), zr_13_0, zbS, zbS, z_rd za_14 (show s.1 < 120 by omega), h.2.2.2 s.1 c1, zbS, c_byLetter ht, zbI]
      dsimp only
      by_cases c2 : kl (tp s.1) = 0
      · rw [c2, if_neg (fun q => q rfl), if_neg (fun q => q.2 rfl), zp_13_3, zbS]
        exact ⟨_, rfl, h.fault 1, f13.u3 _⟩
      · rw [if_pos (nI_ne0 (by omega) (by omega)), if_pos (show s.1 < n ∧ kl (tp s.1) ≠ 0 from ⟨c1, c2⟩)]
        by_cases c3 : 7 ≤ th
        · rw [if_neg (show ¬ nI th < (7 : Int32) by rw [zl7]; exact nI_nlt c3 (by omega)), if_pos c3, zp_13_3, zbS]
          exact ⟨_, rfl, h.fault 3, f13.u3 _⟩
        · rw [if_pos (show nI th < (7 : Int32) by rw [zl7]; exact nI_lt (by omega) (by decide)), if_neg c3, zg_13_2, zbS, h.2.1, nI_1, zp_13_2, zbS]
          exact ⟨_, rfl, h.go _ c0, f13.u2 _⟩
    · rw [if_pos (nI_le (by omega) (by omega)), if_neg (fun q => c1 q.1), zp_13_3, zbS]
      exact ⟨_, rfl, h.fault 1, f13.u3 _⟩
  · rw [if_neg (nI_ne0 (by omega) (by have := hs.2; omega)), if_pos c0]
    exact ⟨I, rfl, h, f13.refl⟩
end
