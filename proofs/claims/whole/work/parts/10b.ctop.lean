/-! the top of a place -/
theorem zFind_one {P : Nat → Bool} {t : Nat} : ∀ m k, (∀ u, k ≤ u → u < k + m → P u = true → u = t) → k ≤ t → t < k + m → P t = true → zFind P m k = some t
  | 0, k, _, h1, h2, _ => by omega
  | m + 1, k, h, h1, h2, h3 => by
    unfold zFind
    by_cases hk : k = t
    · subst hk; rw [h3]; rfl
    · have : P k = false := by
        cases hP : P k with
        | true => exact absurd (h k (Nat.le_refl _) (by omega) hP) hk
        | false => rfl
      rw [this]
      exact zFind_one m (k + 1) (fun u hu1 hu2 hu3 => h u (by omega) (by omega) hu3) (by omega) (by omega) h3
theorem zFind_no {P : Nat → Bool} : ∀ m k, (∀ u, k ≤ u → u < k + m → P u = false) → zFind P m k = none
  | 0, _, _ => rfl
  | m + 1, k, h => by
    unfold zFind
    rw [h k (Nat.le_refl _) (by omega)]
    exact zFind_no m (k + 1) (fun u hu1 hu2 => h u (by omega) (by omega))
theorem zC_rm {P : Nat → Bool} {t : Nat} : ∀ n, t < n → P t = true → zC P n = zC (fun u => P u && decide (u ≠ t)) n + 1
  | 0, h, _ => by omega
  | n + 1, h, hP => by
    unfold zC
    by_cases ht : t = n
    · subst ht
      have : zC (fun u => P u && decide (u ≠ t)) t = zC P t := zC_congr t (fun k hk => by simp [show k ≠ t by omega])
      rw [this, hP]
      simp
    · rw [zC_rm n (by omega) hP]
      simp only [show (n ≠ t) = True from by simp; omega, decide_true, Bool.and_true]
      omega
theorem zC_0 {P : Nat → Bool} : ∀ n, (∀ k, k < n → P k = false) → zC P n = 0
  | 0, _ => rfl
  | n + 1, h => by unfold zC; rw [zC_0 n (fun k hk => h k (by omega)), h n (by omega)]; rfl
theorem zC_pos {P : Nat → Bool} : ∀ n, 0 < zC P n → ∃ k, k < n ∧ P k = true
  | 0, h => by simp [zC] at h
  | n + 1, h => by
    cases hP : P n with
    | true => exact ⟨n, by omega, hP⟩
    | false =>
      unfold zC at h
      rw [hP] at h
      obtain ⟨k, h1, h2⟩ := zC_pos n (by simpa using h)
      exact ⟨k, by omega, h2⟩
/-- orders differ -/
def gD (g : Nat → Nat) : Prop := ∀ t u, t < g 3 → u < g 3 → go g t = go g u → t = u
theorem gtop_spec {g : Nat → Nat} {p : Nat} : ∀ n, (gtop g p n = none → ∀ u, u < n → gp g u ≠ p) ∧ ∀ t, gtop g p n = some t → t < n ∧ gp g t = p ∧ ∀ u, u < n → gp g u = p → go g u ≤ go g t
  | 0 => ⟨fun _ u hu => by omega, fun t h => by cases h⟩
  | n + 1 => by
    obtain ⟨h1, h2⟩ := gtop_spec (g := g) (p := p) n
    unfold gtop
    cases hf : gtop g p n with
    | none =>
      by_cases c : gp g n = p
      · simp only [c, if_true]
        refine ⟨fun h => by simp at h, fun t h => ?_⟩
        cases h
        refine ⟨by omega, c, fun u hu hp => ?_⟩
        by_cases hu2 : u = n
        · subst hu2; exact Nat.le_refl _
        · exact absurd hp (h1 hf u (by omega))
      · simp only [c, if_false]
        refine ⟨fun _ u hu => ?_, fun t h => by simp at h⟩
        by_cases hu2 : u = n
        · subst hu2; exact c
        · exact h1 hf u (by omega)
    | some t0 =>
      obtain ⟨k1, k2, k3⟩ := h2 t0 hf
      by_cases c : gp g n = p ∧ go g t0 < go g n
      · simp only [c, and_self, if_true]
        refine ⟨fun h => by simp at h, fun t h => ?_⟩
        cases h
        refine ⟨by omega, c.1, fun u hu hp => ?_⟩
        by_cases hu2 : u = n
        · subst hu2; exact Nat.le_refl _
        · have := k3 u (by omega) hp
          omega
      · simp only [c, if_false]
        refine ⟨fun h => by simp at h, fun t h => ?_⟩
        cases h
        refine ⟨by omega, k2, fun u hu hp => ?_⟩
        by_cases hu2 : u = n
        · subst hu2
          have : ¬ go g t0 < go g u := fun q => c ⟨hp, q⟩
          omega
        · exact k3 u (by omega) hp
theorem gfirst_spec {g : Nat → Nat} {p : Nat} : ∀ n, (gfirst g p n = none → ∀ u, u < n → gp g u ≠ p) ∧ ∀ t, gfirst g p n = some t → t < n ∧ gp g t = p ∧ ∀ u, u < n → gp g u = p → go g t ≤ go g u
  | 0 => ⟨fun _ u hu => by omega, fun t h => by cases h⟩
  | n + 1 => by
    obtain ⟨h1, h2⟩ := gfirst_spec (g := g) (p := p) n
    unfold gfirst
    cases hf : gfirst g p n with
    | none =>
      by_cases c : gp g n = p
      · simp only [c, if_true]
        refine ⟨fun h => by simp at h, fun t h => ?_⟩
        cases h
        refine ⟨by omega, c, fun u hu hp => ?_⟩
        by_cases hu2 : u = n
        · subst hu2; exact Nat.le_refl _
        · exact absurd hp (h1 hf u (by omega))
      · simp only [c, if_false]
        refine ⟨fun _ u hu => ?_, fun t h => by simp at h⟩
        by_cases hu2 : u = n
        · subst hu2; exact c
        · exact h1 hf u (by omega)
    | some t0 =>
      obtain ⟨k1, k2, k3⟩ := h2 t0 hf
      by_cases c : gp g n = p ∧ go g n < go g t0
      · simp only [c, and_self, if_true]
        refine ⟨fun h => by simp at h, fun t h => ?_⟩
        cases h
        refine ⟨by omega, c.1, fun u hu hp => ?_⟩
        by_cases hu2 : u = n
        · subst hu2; exact Nat.le_refl _
        · have := k3 u (by omega) hp
          omega
      · simp only [c, if_false]
        refine ⟨fun h => by simp at h, fun t h => ?_⟩
        cases h
        refine ⟨by omega, k2, fun u hu hp => ?_⟩
        by_cases hu2 : u = n
        · subst hu2
          have : ¬ go g u < go g t0 := fun q => c ⟨hp, q⟩
          omega
        · exact k3 u (by omega) hp
/-- the highest at a place -/
def ghigh (g : Nat → Nat) (p : Nat) : Option Nat := if p = 0 then gfirst g 0 (g 3) else gtop g p (g 3)
theorem ghigh_spec {g : Nat → Nat} {p : Nat} (hD : gD g) : (ghigh g p = none → ∀ u, u < g 3 → gp g u ≠ p) ∧ ∀ t, ghigh g p = some t → t < g 3 ∧ gp g t = p ∧ gh g t + 1 = gcount g p ∧ ∀ u, u < g 3 → gp g u = p → u ≠ t → gh g u < gh g t := by
  unfold ghigh
  by_cases h0 : p = 0
  · subst h0
    rw [if_pos rfl]
    obtain ⟨h1, h2⟩ := gfirst_spec (g := g) (p := 0) (g 3)
    refine ⟨h1, fun t ht => ?_⟩
    obtain ⟨k1, k2, k3⟩ := h2 t ht
    refine ⟨k1, k2, ?_, fun u hu hp hne => ?_⟩
    · unfold gcount
      rw [zC_rm (P := fun u => decide (gp g u = 0)) (t := t) (g 3) k1 (by simp [k2])]
      unfold gh
      rw [if_pos k2]
      congr 1
      apply zC_congr
      intro u hu
      by_cases c : gp g u = 0
      · by_cases hut : u = t
        · subst hut; simp
        · have := k3 u hu c
          have hne : go g t ≠ go g u := fun q => hut (hD t u k1 hu q).symm
          simp [c, hut]
          omega
      · simp [c]
    · refine (gh_dn k1 hu k2 hp).mpr ?_
      have := k3 u hu hp
      have hne2 : go g t ≠ go g u := fun q => hne (hD t u k1 hu q).symm
      omega
  · rw [if_neg h0]
    obtain ⟨h1, h2⟩ := gtop_spec (g := g) (p := p) (g 3)
    refine ⟨h1, fun t ht => ?_⟩
    obtain ⟨k1, k2, k3⟩ := h2 t ht
    refine ⟨k1, k2, ?_, fun u hu hp hne => ?_⟩
    · unfold gcount
      rw [zC_rm (P := fun u => decide (gp g u = p)) (t := t) (g 3) k1 (by simp [k2])]
      unfold gh
      rw [if_neg (by rw [k2]; exact h0), k2]
      congr 1
      apply zC_congr
      intro u hu
      by_cases c : gp g u = p
      · by_cases hut : u = t
        · subst hut; simp
        · have := k3 u hu c
          have hne : go g t ≠ go g u := fun q => hut (hD t u k1 hu q).symm
          simp [c, hut]
          omega
      · simp [c]
    · refine (gh_up k1 hu (by rw [k2, hp]) (by rw [hp]; exact h0)).mpr ?_
      have := k3 u hu hp
      have hne2 : go g t ≠ go g u := fun q => hne (hD t u k1 hu q).symm
      omega
section
variable {I A : Nat → Nat → Int32} {o : Nat} {g : Nat → Nat} (L : Nat) (xs : Nat → Int32) (d : Nat) (b : Value)
theorem c_thingAt (hR : cR I A o g) (hB : gB g) {p : Nat} (hp : p < 2 ^ 31) (hp2 : p ≠ 2) (h : Int32) : pm_call L xs (d + 1) m_Shop_thingAt [.ref o, .int (nI p), .int h] (zL I A b) = some (some (.int (zopt (zFind (fun t => decide (gp g t = p) && decide (nI (gh g t) = h)) (g 3) 0))), zL I A b) := by
  obtain ⟨fs, hfs⟩ := zSo hR.1 I A b
  have hn := hB.1
  rw [C_Shop_thingAt L xs d _ _ _ _ hfs, B_Shop_thingAt_0]
  refine (zfind (fun k => zE L xs d K_Shop_thingAt 2 [some (.ref o), some (.int (nI p)), some (.int h), some (.int k)] [] (zL I A b)) (fun t => decide (gp g t = p) && decide (nI (gh g t) = h)) (g 3) (fun k => some (some (.int (nI k)), zL I A b)) (some (some (.int (-1000000)), zL I A b)) (fun t ht hf => ?_) (fun t ht hf => ?_) ?_).trans ?_
  · rw [B_Shop_thingAt_2]
    simp only [hR.n, zbS, zSr4 hR.1, zSr5 hR.1, hR.place hB b ht, znL (gbl hB 3) (show t < 2 ^ 31 by omega), znI (gbl hB _) hp]
    rw [if_neg (show ¬ g 3 ≤ t by omega)]
    by_cases c : gp g t = p
    · rw [if_neg (fun h => h c), hR.high hB b ht (by rw [c]; exact hp2), zbS]
      have c2 : ¬ nI (gh g t) = h := by simpa [c] using hf
      rw [if_pos c2]
    · rw [if_pos c]
  · rw [B_Shop_thingAt_2]
    simp only [Bool.and_eq_true, decide_eq_true_eq] at hf
    simp only [hR.n, zbS, zSr4 hR.1, zSr5 hR.1, hR.place hB b ht, znL (gbl hB 3) (show t < 2 ^ 31 by omega), znI (gbl hB _) hp]
    rw [if_neg (show ¬ g 3 ≤ t by omega), if_neg (fun h => h hf.1), hR.high hB b ht (by rw [hf.1]; exact hp2), zbS, if_neg (fun h => h hf.2)]
  · rw [B_Shop_thingAt_2]
    simp only [hR.n, zbS]
    rw [if_pos (nI_le (Nat.le_refl _) (gbl hB 3))]
  · cases zFind (fun t => decide (gp g t = p) && decide (nI (gh g t) = h)) (g 3) 0 <;> rfl
theorem c_topOf (hR : cR I A o g) (hB : gB g) (hD : gD g) {p : Nat} (hp : p < 2 ^ 31) (hp2 : p ≠ 2) : pm_call L xs (d + 3) m_Shop_topOf [.ref o, .int (nI p)] (zL I A b) = some (some (.int (zopt (ghigh g p))), zL I A b) := by
  obtain ⟨fs, hfs⟩ := zSo hR.1 I A b
  have hn := hB.1
  rw [C_Shop_topOf L xs (d + 2) _ _ _ hfs, B_Shop_topOf_0]
  simp only [c_countAt L xs d b hR hB hp, zbI, c_thingAt L xs (d + 1) b hR hB hp hp2]
  obtain ⟨h1, h2⟩ := ghigh_spec (p := p) hD
  have e : zFind (fun t => decide (gp g t = p) && decide (nI (gh g t) = nI (gcount g p) - 1)) (g 3) 0 = ghigh g p := by
    cases hf : ghigh g p with
    | none => exact zFind_no _ _ (fun u _ hu => by have := h1 hf u (by omega); simp [this])
    | some t =>
      obtain ⟨k1, k2, k3, k4⟩ := h2 t hf
      have hl := gh_le g t
      have e2 : nI (gcount g p) - 1 = nI (gh g t) := by rw [← k3]; exact nI_pred _
      refine zFind_one _ _ (fun u _ hu hP => ?_) (Nat.zero_le _) (by omega) ?_
      · rw [e2] at hP
        simp only [Bool.and_eq_true, decide_eq_true_eq] at hP
        have hl2 := gh_le g u
        have := (nI_eq (show gh g u < 2 ^ 31 by omega) (show gh g t < 2 ^ 31 by omega)).mp hP.2
        refine Classical.byContradiction (fun hne => ?_)
        have := k4 u (by omega) hP.1 hne
        omega
      · rw [e2]
        simp [k2]
  rw [e]
end
