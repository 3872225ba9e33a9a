/-! what comes to a place, in both -/
theorem gco_w {g : Nat → Nat} {t p u w : Nat} (hw : w < 7) (h3 : w ≠ 3) (h4 : w ≠ 4) : gcomes g t p (6 + 7 * u + w) = g (6 + 7 * u + w) := by
  unfold gcomes
  rw [gu_n (by omega), gu_n (by omega), gu_n (by omega)]
theorem gco_po {g : Nat → Nat} {t p u : Nat} (h : u ≠ t) : gp (gcomes g t p) u = gp g u := by
  show gcomes g t p (6 + 7 * u + 3) = _
  unfold gcomes
  rw [gu_n (by omega), gu_n (by omega), gu_n (by omega)]
theorem gco_oo {g : Nat → Nat} {t p u : Nat} (h : u ≠ t) : go (gcomes g t p) u = go g u := by
  show gcomes g t p (6 + 7 * u + 4) = _
  unfold gcomes
  rw [gu_n (by omega), gu_n (by omega), gu_n (by omega)]
theorem gco_pt {g : Nat → Nat} {t p : Nat} : gp (gcomes g t p) t = p := by
  show gcomes g t p (6 + 7 * t + 3) = _
  unfold gcomes
  rw [gu_n (by omega), gu_n (by omega), gu_s]
theorem gco_ot {g : Nat → Nat} {t p : Nat} : go (gcomes g t p) t = g 5 := by
  show gcomes g t p (6 + 7 * t + 4) = _
  unfold gcomes
  rw [gu_n (by omega), gu_s]
theorem gco_5 {g : Nat → Nat} {t p : Nat} : gcomes g t p 5 = g 5 + 1 := by unfold gcomes; rw [gu_s]
theorem gco_n {g : Nat → Nat} {t p : Nat} : gcomes g t p 3 = g 3 := gcomes_h (by decide)
/-- every order is below the next -/
def gU (g : Nat → Nat) : Prop := ∀ t, t < g 3 → go g t < g 5
theorem gco_D {g : Nat → Nat} (hD : gD g) (hU : gU g) {t p : Nat} : gD (gcomes g t p) := by
  intro u v hu hv h
  rw [gco_n] at hu hv
  by_cases h1 : u = t
  · by_cases h2 : v = t
    · rw [h1, h2]
    · rw [h1, gco_ot, gco_oo h2] at h
      have := hU v hv
      omega
  · by_cases h2 : v = t
    · rw [h2, gco_ot, gco_oo h1] at h
      have := hU u hu
      omega
    · rw [gco_oo h1, gco_oo h2] at h
      exact hD u v hu hv h
theorem gco_U {g : Nat → Nat} (hU : gU g) {t p : Nat} : gU (gcomes g t p) := by
  intro u hu
  rw [gco_n] at hu
  rw [gco_5]
  by_cases h1 : u = t
  · rw [h1, gco_ot]; omega
  · rw [gco_oo h1]; have := hU u hu; omega
/-- heights when the highest of its place (or one LAID BY) comes elsewhere -/
theorem gco_h {g : Nat → Nat} (hD : gD g) (hU : gU g) {t p : Nat} (ht : t < g 3) (hp0 : p ≠ 0) (hpt : p ≠ gp g t) (htop : gp g t = 2 ∨ ghigh g (gp g t) = some t) {u : Nat} (hu : u < g 3) (h2 : gp (gcomes g t p) u ≠ 2) : gh (gcomes g t p) u = if u = t then gcount g p else gh g u := by
  by_cases hut : u = t
  · subst hut
    rw [if_pos rfl]
    unfold gh gcount
    rw [gco_pt, if_neg hp0, gco_n]
    apply zC_congr
    intro v hv
    by_cases hvt : v = u
    · subst hvt
      rw [gco_pt, gco_ot]
      simp
      exact fun q => hpt q.symm
    · rw [gco_po hvt, gco_oo hvt, gco_ot]
      have := hU v hv
      simp [this]
  · rw [if_neg hut]
    have hpu : gp (gcomes g t p) u = gp g u := gco_po hut
    have hou : go (gcomes g t p) u = go g u := gco_oo hut
    rw [hpu] at h2
    unfold gh
    rw [hpu, hou, gco_n]
    by_cases c0 : gp g u = 0
    · rw [if_pos c0, if_pos c0]
      apply zC_congr
      intro v hv
      by_cases hvt : v = t
      · subst hvt
        rw [gco_pt, gco_ot]
        by_cases cv : gp g v = 0
        · have htop2 : ghigh g 0 = some v := by
            rcases htop with h | h
            · omega
            · rw [cv] at h; exact h
          obtain ⟨-, -, -, k4⟩ := (ghigh_spec (p := 0) hD).2 v htop2
          have h5 := k4 u hu c0 hut
          have h6 := (gh_dn ht hu cv c0).mp h5
          simp [hp0, cv]
          omega
        · simp [hp0, cv]
      · rw [gco_po hvt, gco_oo hvt]
    · rw [if_neg c0, if_neg c0]
      apply zC_congr
      intro v hv
      by_cases hvt : v = t
      · subst hvt
        rw [gco_pt, gco_ot]
        have h7 := hU u hu
        have e1 : (decide (p = gp g u) && decide (g 5 < go g u)) = false := by
          simp
          intro _
          omega
        rw [e1]
        by_cases cv : gp g v = gp g u
        · have htop2 : ghigh g (gp g u) = some v := by
            rcases htop with h | h
            · omega
            · rw [cv] at h; exact h
          obtain ⟨-, -, -, k4⟩ := (ghigh_spec (p := gp g u) hD).2 v htop2
          have h5 := k4 u hu rfl hut
          have h6 := (gh_up ht hu cv (by omega)).mp h5
          simp [cv]
          omega
        · simp [cv]
      · rw [gco_po hvt, gco_oo hvt]
theorem gco_broken {g : Nat → Nat} {t p : Nat} : gbroken (gcomes g t p) = gbroken g := by
  unfold gbroken
  rw [gco_n]
  apply zB_congr
  intro u hu
  rw [show gc (gcomes g t p) u = gc g u from gco_w (by decide) (by decide) (by decide)]
section
variable {I A : Nat → Nat → Int32} {o : Nat} {g : Nat → Nat} (L : Nat) (xs : Nat → Int32) (d : Nat) (b : Value)
theorem c_put (hR : cR I A o g) (hB : gB g) (hD : gD g) (hU : gU g) {t p : Nat} (ht : t < g 3) (hp : p < 2 ^ 31) (hp0 : p ≠ 0) (hpt : p ≠ gp g t) (htop : gp g t = 2 ∨ ghigh g (gp g t) = some t) (hcm : A (o + 6) t = nI (gi g t + 1)) : ∃ A', pm_call L xs (d + 3) m_Shop_put [.ref o, .int (nI t), .int (nI p)] (zL I A b) = some (none, zL I A' b) ∧ cR I A' o (gcomes g t p) ∧ ∀ q', q' ≠ o + 4 → q' ≠ o + 5 → A' q' = A q' := by
  obtain ⟨fs, hfs⟩ := zSo hR.1 I A b
  have hn := hB.1
  rw [C_Shop_put L xs (d + 2) _ _ _ _ hfs, B_Shop_put_0]
  simp only [zSr5 hR.1, zbS, c_countAt L xs d b hR hB hp, zbI, z_wr (zSa5 hR.1) (show t < 7 by omega), zSr4 hR.1, z_wr (zSa4 hR.1) (show t < 7 by omega)]
  refine ⟨_, rfl, ⟨hR.1, ?_, fun u hu => ?_⟩, fun q' h4 h5 => by rw [zuA_o h4, zuA_o h5]⟩
  · obtain ⟨g0, g1, g2, g3, g4, g5⟩ := hR.2.1
    rw [gcomes_h (show 0 < 5 by decide), gcomes_h (show 1 < 5 by decide), gcomes_h (show 2 < 5 by decide), gcomes_h (show 3 < 5 by decide), gcomes_h (show 4 < 5 by decide), gco_broken]
    exact ⟨g0, g1, g2, g3, g4, g5⟩
  · rw [gco_n] at hu
    obtain ⟨k1, k2, k3, k4, k5, k6⟩ := hR.2.2 u hu
    rw [show gk (gcomes g t p) u = gk g u from gco_w (by decide) (by decide) (by decide), show gw (gcomes g t p) u = gw g u from gco_w (by decide) (by decide) (by decide), show gs (gcomes g t p) u = gs g u from gco_w (by decide) (by decide) (by decide), show gi (gcomes g t p) u = gi g u from gco_w (by decide) (by decide) (by decide)]
    refine ⟨by rw [zuA_o (by omega), zuA_o (by omega)]; exact k1, by rw [zuA_o (by omega), zuA_o (by omega)]; exact k2, by rw [zuA_o (by omega), zuA_o (by omega)]; exact k3, ?_, fun h2 => ?_, fun h0 => ?_⟩
    · rw [zuA_s, zuA_o (by omega)]
      unfold upd
      by_cases hut : u = t
      · subst hut; rw [if_pos rfl, gco_pt]
      · rw [if_neg hut, gco_po hut]; exact k4
    · rw [zuA_o (by omega), zuA_s, gco_h hD hU ht hp0 hpt htop hu h2]
      unfold upd
      by_cases hut : u = t
      · subst hut; rw [if_pos rfl, if_pos rfl]
      · rw [if_neg hut, if_neg hut]
        rw [gco_po hut] at h2
        exact k5 h2
    · rw [zuA_o (by omega), zuA_o (by omega)]
      by_cases hut : u = t
      · subst hut; exact hcm
      · rw [gco_po hut] at h0
        exact k6 h0
end
theorem zB_or (P Q : Nat → Bool) (n : Nat) : zB P n ||| zB Q n = zB (fun k => P k || Q k) n := by
  apply Nat.eq_of_testBit_eq
  intro k
  rw [Nat.testBit_or, ztb, ztb, ztb]
  cases decide (k < n) <;> simp
/-- all that is overladen is crushed -/
def gO (g : Nat → Nat) : Prop := ∀ t, t < g 3 → gbears g t < gload g t → gc g t = 1
theorem gcr_at {g : Nat → Nat} : ∀ k t, t < k → gcr g k (6 + 7 * t + 5) = if gbears g t < gload g t then 1 else g (6 + 7 * t + 5)
  | 0, _, h => by omega
  | k + 1, t, h => by
    show gu (gcr g k) _ _ _ = _
    by_cases hk : t = k
    · subst hk; rw [gu_s]
    · rw [gu_n (by omega), gcr_at k t (by omega)]
theorem gcr_id {g : Nat → Nat} (h : gO g) : gcr g (g 3) = g := by
  funext j
  by_cases hj : ∃ t, t < g 3 ∧ j = 6 + 7 * t + 5
  · obtain ⟨t, h1, rfl⟩ := hj
    rw [gcr_at _ t h1]
    by_cases c : gbears g t < gload g t
    · rw [if_pos c]; exact (h t h1 c).symm
    · rw [if_neg c]
  · exact gcr_n _ _ (fun t ht q => hj ⟨t, ht, q⟩)
theorem gcr_broken {g : Nat → Nat} : gbroken (gcr g (g 3)) = gbroken g ||| gover g := by
  unfold gbroken gover
  rw [gcr_h _ 3 (by decide), zB_or]
  apply zB_congr
  intro t ht
  rw [show gc (gcr g (g 3)) t = _ from gcr_at _ t ht]
  by_cases c : gbears g t < gload g t
  · simp [c]
  · simp [c]
theorem gcr_hh {g : Nat → Nat} (k t : Nat) : gh (gcr g k) t = gh g t := by
  unfold gh
  rw [gcr_h k 3 (by decide), show gp (gcr g k) t = gp g t from gcr_w k t 3 (by decide) (by decide), show go (gcr g k) t = go g t from gcr_w k t 4 (by decide) (by decide)]
  have e1 : ∀ u, gp (gcr g k) u = gp g u := fun u => gcr_w k u 3 (by decide) (by decide)
  have e2 : ∀ u, go (gcr g k) u = go g u := fun u => gcr_w k u 4 (by decide) (by decide)
  simp only [e1, e2]
section
variable {I A : Nat → Nat → Int32} {o : Nat} {g : Nat → Nat} (L : Nat) (xs : Nat → Int32) (d : Nat) (b : Value)
theorem cR.crush (h : cR I A o g) : cR (zuI I o 5 (nI (gbroken g ||| gover g))) A o (gcr g (g 3)) := by
  refine ⟨h.1, ?_, fun u hu => ?_⟩
  · obtain ⟨g0, g1, g2, g3, g4, g5⟩ := h.2.1
    rw [gcr_h _ 0 (by decide), gcr_h _ 1 (by decide), gcr_h _ 2 (by decide), gcr_h _ 3 (by decide), gcr_h _ 4 (by decide), gcr_broken]
    exact ⟨by rw [zuI_n (by decide)]; exact g0, by rw [zuI_n (by decide)]; exact g1, by rw [zuI_n (by decide)]; exact g2, by rw [zuI_n (by decide)]; exact g3, by rw [zuI_n (by decide)]; exact g4, zuI_s⟩
  · rw [gcr_h _ 3 (by decide)] at hu
    rw [gcr_hh, show gk (gcr g (g 3)) u = gk g u from gcr_w _ u 0 (by decide) (by decide), show gw (gcr g (g 3)) u = gw g u from gcr_w _ u 1 (by decide) (by decide), show gs (gcr g (g 3)) u = gs g u from gcr_w _ u 2 (by decide) (by decide), show gp (gcr g (g 3)) u = gp g u from gcr_w _ u 3 (by decide) (by decide), show gi (gcr g (g 3)) u = gi g u from gcr_w _ u 6 (by decide) (by decide)]
    exact h.2.2 u hu
theorem c_lay (hR : cR I A o g) (hB : gB g) (hD : gD g) (hU : gU g) (h5 : g 5 + 1 < 2 ^ 20) {t p : Nat} (ht : t < g 3) (hp : p < 2 ^ 20) (hp0 : p ≠ 0) (hpt : p ≠ gp g t) (htop : gp g t = 2 ∨ ghigh g (gp g t) = some t) (h0 : gp g t ≠ 0) : ∃ I' A', pm_call L xs (d + 4) m_Shop_lay [.ref o, .int (nI t), .int (nI p)] (zL I A b) = some (none, zL I' A' b) ∧ cR I' A' o (gcr (gcomes g t p) (g 3)) ∧ (∀ q', q' ≠ o + 4 → q' ≠ o + 5 → A' q' = A q') ∧ ∀ o', o' ≠ o → I' o' = I o' := by
  obtain ⟨fs, hfs⟩ := zSo hR.1 I A b
  rw [C_Shop_lay L xs (d + 3) _ _ _ _ hfs, B_Shop_lay_0]
  obtain ⟨A1, e1, h1, h2⟩ := c_put L xs d b hR hB hD hU ht (by omega) hp0 hpt htop ((hR.2.2 t ht).2.2.2.2.2 h0)
  have hB1 := gcomes_B hB (t := t) hp h5
  refine ⟨zuI I o 5 (nI (gbroken (gcomes g t p) ||| gover (gcomes g t p))), A1, ?_, ?_, h2, fun o' ho' => ?_⟩
  · simp only [e1, zbV, h1.crushed, zbS, c_overladenBits L xs d b h1 hB1, zbI, zSp5 hR.1, fa_or]
  · have := h1.crush
    rw [gco_n] at this
    exact this
  · funext k; exact zuI_o ho'
end
