/-! ACTS: what they do to a row -/
section
variable {B : Nat} {g : Nat → Nat} {t p : Nat}
theorem zS_mono {f f' : Nat → Nat} : ∀ n, (∀ k, k < n → f' k ≤ f k) → zS f' n ≤ zS f n
  | 0, _ => Nat.le_refl _
  | n + 1, h => by
    have h1 := zS_mono n (fun k hk => h k (by omega))
    have h2 := h n (by omega)
    show zS f' n + f' n ≤ zS f n + f n
    omega
theorem gco_press (u : Nat) : gpress (gcomes g t p) u = gpress g u := by
  unfold gpress
  rw [show gk (gcomes g t p) u = gk g u from gco_w (by decide) (by decide) (by decide), show gw (gcomes g t p) u = gw g u from gco_w (by decide) (by decide) (by decide)]
theorem gco_bears (u : Nat) : gbears (gcomes g t p) u = gbears g u := by
  unfold gbears
  rw [show gk (gcomes g t p) u = gk g u from gco_w (by decide) (by decide) (by decide), show gs (gcomes g t p) u = gs g u from gco_w (by decide) (by decide) (by decide)]
/-- nothing bears more when something comes to no BAG -/
theorem gco_out (hp : p < 3) (u : Nat) : gload (gcomes g t p) u ≤ gload g u := by
  unfold gload
  rw [gco_n]
  apply zS_mono
  intro o _
  rw [gco_press]
  by_cases hu : u = t
  · subst hu
    rw [gco_pt]
    simp [show ¬ 3 ≤ p by omega]
  · rw [gco_po hu]
    by_cases ho : o = t
    · subst ho
      by_cases c : 3 ≤ gp g u
      · have : gab (gcomes g o p) o u = false := by
          unfold gab
          rw [gco_pt, gco_po hu]
          simp [show ¬ p = gp g u by omega]
        rw [this]
        simp
      · simp [c]
    · have : gab (gcomes g t p) o u = gab g o u := by
        unfold gab
        rw [gco_po ho, gco_po hu, gco_oo ho, gco_oo hu]
      rw [this]
      exact Nat.le_refl _
theorem gO_out (hO : gO g) (hp : p < 3) : gO (gcomes g t p) := by
  intro u hu h
  rw [gco_n] at hu
  rw [gco_bears] at h
  rw [show gc (gcomes g t p) u = gc g u from gco_w (by decide) (by decide) (by decide)]
  exact hO u hu (Nat.lt_of_lt_of_le h (gco_out hp u))
theorem gcr_p (k u : Nat) : gp (gcr g k) u = gp g u := gcr_w k u 3 (by decide) (by decide)
theorem gcr_o (k u : Nat) : go (gcr g k) u = go g u := gcr_w k u 4 (by decide) (by decide)
theorem gcr_i (k u : Nat) : gi (gcr g k) u = gi g u := gcr_w k u 6 (by decide) (by decide)
theorem gcr_O : gO (gcr g (g 3)) := by
  intro u hu h
  rw [gcr_h _ 3 (by decide)] at hu
  rw [gcr_bears, gcr_load] at h
  show gcr g (g 3) (6 + 7 * u + 5) = 1
  rw [gcr_at _ u hu, if_pos h]
theorem gI.move (h : gI B g) (hB2 : B + 1 < 2 ^ 20) (ht : t < g 3) (hp : p < 3 + g 0) : gI (B + 1) (gcr (gcomes g t p) (g 3)) := by
  obtain ⟨hB, hD, hU, hO, h5, hk, h0, h4⟩ := h
  have hn0 := hB.2.1
  have hb := gcomes_B hB (t := t) (p := p) (by omega) (by omega)
  have hn : gcomes g t p 3 = g 3 := gco_n
  refine ⟨gcr_B hb _, fun u v hu hv e => ?_, fun u hu => ?_, ?_, ?_, fun u hu => ?_, ?_, ?_⟩
  · rw [gcr_h _ 3 (by decide)] at hu hv
    rw [gcr_o, gcr_o] at e
    exact gco_D hD hU u v hu hv e
  · rw [gcr_h _ 3 (by decide)] at hu
    rw [gcr_o, gcr_h _ 5 (by decide)]
    exact gco_U hU u hu
  · have := gcr_O (g := gcomes g t p)
    rw [hn] at this
    exact this
  · rw [gcr_h _ 5 (by decide), gco_5]
    omega
  · rw [gcr_h _ 3 (by decide), hn] at hu
    obtain ⟨k1, k2, k3, k4⟩ := hk u hu
    rw [show gk (gcr (gcomes g t p) (g 3)) u = gk g u from (gcr_w _ u 0 (by decide) (by decide)).trans (gco_w (by decide) (by decide) (by decide)), show gw (gcr (gcomes g t p) (g 3)) u = gw g u from (gcr_w _ u 1 (by decide) (by decide)).trans (gco_w (by decide) (by decide) (by decide)), gcr_p, gcr_h _ 0 (by decide), gcomes_h (by decide)]
    refine ⟨k1, k2, ?_, ?_⟩
    · by_cases e : u = t
      · subst e; rw [gco_pt]; exact hp
      · rw [gco_po e]; exact k3
    · show gcr (gcomes g t p) (g 3) (6 + 7 * u + 5) ≤ 1
      rw [gcr_at _ u hu]
      split
      · exact Nat.le_refl _
      · rw [gco_w (by decide) (by decide) (by decide)]; exact k4
  · rw [gcr_h _ 0 (by decide), gcr_h _ 3 (by decide), gcomes_h (by decide), hn]
    exact h0
  · rw [gcr_h _ 4 (by decide), gcomes_h (by decide)]
    exact h4
theorem gco_count (ht : t < g 3) (hpt : p ≠ gp g t) : gcount (gcomes g t p) (gp g t) + 1 = gcount g (gp g t) := by
  unfold gcount
  rw [gco_n, zC_rm (P := fun u => decide (gp g u = gp g t)) (t := t) (g 3) ht (by simp)]
  congr 1
  apply zC_congr
  intro u _
  by_cases e : u = t
  · subst e; rw [gco_pt]; simp [hpt]
  · rw [gco_po e]; simp [e]
theorem gBack_move (h : gI B g) (ht : t < g 3) (hp0 : p ≠ 0) (hpt : p ≠ gp g t) (htop : gp g t = 2 ∨ ghigh g (gp g t) = some t) (ht0 : gp g t ≠ 0) : gBack g (gcr (gcomes g t p) (g 3)) 0 (nI t) (nI (gp g t)) (nI (gbroken g)) := by
  obtain ⟨hB, hD, hU, hO, h5, hk, h0, h4⟩ := h
  refine ⟨rfl, ⟨?_, ?_, ?_, ?_⟩, fun u hu => ⟨?_, ?_, ?_⟩, Or.inr (Or.inr ⟨t, rfl, rfl, ⟨ht, ?_, fun u hu hne => ⟨?_, fun h2 => ?_, fun _ => ?_⟩, fun h2 => ?_, fun _ => ⟨?_, ?_⟩⟩, Or.inr ⟨rfl, ?_⟩⟩)⟩
  · rw [gcr_h _ 0 (by decide), gcomes_h (by decide)]
  · rw [gcr_h _ 1 (by decide), gcomes_h (by decide)]
  · rw [gcr_h _ 2 (by decide), gcomes_h (by decide)]
  · rw [gcr_h _ 3 (by decide), gco_n]
  · exact ((gcr_w _ u 0 (by decide) (by decide)).trans (gco_w (by decide) (by decide) (by decide))).symm
  · exact ((gcr_w _ u 1 (by decide) (by decide)).trans (gco_w (by decide) (by decide) (by decide))).symm
  · exact ((gcr_w _ u 2 (by decide) (by decide)).trans (gco_w (by decide) (by decide) (by decide))).symm
  · rw [gcr_p, gco_pt]; exact hpt
  · rw [gcr_p, gco_po hne]
  · rw [gcr_hh, gco_h hD hU ht hp0 hpt htop hu (by rw [gco_po hne]; exact h2), if_neg hne]
  · rw [gcr_i]; exact (gco_w (by decide) (by decide) (by decide)).symm
  · have h3 : ghigh g (gp g t) = some t := htop.resolve_left h2
    obtain ⟨-, -, k3, -⟩ := (ghigh_spec (p := gp g t) hD).2 t h3
    have h6 := gco_count (p := p) ht hpt
    have h7 : gcount (gcr (gcomes g t p) (g 3)) (gp g t) = gcount (gcomes g t p) (gp g t) := by
      unfold gcount
      rw [gcr_h _ 3 (by decide)]
      apply zC_congr
      intro u _
      rw [gcr_p]
    omega
  · rw [gcr_i]; exact (gco_w (by decide) (by decide) (by decide)).symm
  · rw [gcr_p, gco_pt]; exact hp0
  · rw [gcr_h _ 4 (by decide), gcomes_h (by decide)]
/-- before it comes to the HEAP: since when, and the beep -/
def gpre (g : Nat → Nat) (t : Nat) : Nat → Nat := gu (gu g (6 + 7 * t + 6) (g 4)) 4 (g 4 + 1)
theorem gpre_w {u w : Nat} (hw : w < 6) : gpre g t (6 + 7 * u + w) = g (6 + 7 * u + w) := by
  unfold gpre
  rw [gu_n (by omega), gu_n (by omega)]
theorem gpre_h {j : Nat} (hj : j < 6) (h4 : j ≠ 4) : gpre g t j = g j := by
  unfold gpre
  rw [gu_n (by omega), gu_n (by omega)]
theorem gpre_4 : gpre g t 4 = g 4 + 1 := gu_s
theorem gbeep_some {t : Nat} (h : gfirst g 0 (g 3) = some t) : gbeep g = gcomes (gpre g t) t 1 := by
  unfold gbeep
  rw [h]
  show gu (gu (gcomes g t 1) (6 + 7 * t + 6) (g 4)) 4 (g 4 + 1) = _
  unfold gcomes gpre
  funext j
  simp only [gu]
  have e5 : (5 : Nat) ≠ 4 := by decide
  have e6 : 5 ≠ 6 + 7 * t + 6 := by omega
  simp only [e5, e6, if_false]
  by_cases c4 : j = 4
  · subst c4; simp; omega
  · by_cases c6 : j = 6 + 7 * t + 6
    · subst c6; simp
    · simp [c4, c6]
theorem gbeep_none (h : gfirst g 0 (g 3) = none) : gbeep g = gu g 4 (g 4 + 1) := by
  unfold gbeep
  rw [h]
theorem gpre_hh (u : Nat) : gh (gpre g t) u = gh g u := by
  unfold gh
  rw [gpre_h (by decide) (by decide), show gp (gpre g t) u = gp g u from gpre_w (by decide), show go (gpre g t) u = go g u from gpre_w (by decide)]
  have e1 : ∀ u, gp (gpre g t) u = gp g u := fun u => gpre_w (by decide)
  have e2 : ∀ u, go (gpre g t) u = go g u := fun u => gpre_w (by decide)
  simp only [e1, e2]
theorem gpre_I (h : gI B g) (h4 : g 4 < 999) (hi : g 4 < 2 ^ 20) : gI B (gpre g t) := by
  obtain ⟨hB, hD, hU, hO, h5, hk, h0, -⟩ := h
  have e3 : gpre g t 3 = g 3 := gpre_h (by decide) (by decide)
  have ep : ∀ u, gp (gpre g t) u = gp g u := fun u => gpre_w (by decide)
  have eo : ∀ u, go (gpre g t) u = go g u := fun u => gpre_w (by decide)
  have ek : ∀ u, gk (gpre g t) u = gk g u := fun u => gpre_w (by decide)
  have ew : ∀ u, gw (gpre g t) u = gw g u := fun u => gpre_w (by decide)
  have es : ∀ u, gs (gpre g t) u = gs g u := fun u => gpre_w (by decide)
  have ec : ∀ u, gc (gpre g t) u = gc g u := fun u => gpre_w (by decide)
  refine ⟨⟨by rw [e3]; exact hB.1, by rw [gpre_h (by decide) (by decide)]; exact hB.2.1, fun j => ?_, fun u hu => by rw [es]; exact hB.2.2.2 u hu⟩, fun u v hu hv e => hD u v (by rw [e3] at hu; exact hu) (by rw [e3] at hv; exact hv) (by rw [eo, eo] at e; exact e), fun u hu => by rw [eo, gpre_h (by decide) (by decide)]; exact hU u (by rw [e3] at hu; exact hu), fun u hu hl => ?_, by rw [gpre_h (by decide) (by decide)]; exact h5, fun u hu => by rw [ek, ew, ep, ec, gpre_h (by decide) (by decide)]; exact hk u (by rw [e3] at hu; exact hu), by rw [e3, gpre_h (by decide) (by decide)]; exact h0, by rw [gpre_4]; omega⟩
  · unfold gpre gu
    split
    · omega
    · split
      · exact hi
      · exact hB.2.2.1 j
  · rw [ec]
    refine hO u (by rw [e3] at hu; exact hu) ?_
    have b1 : gbears (gpre g t) u = gbears g u := by unfold gbears; rw [ek, es]
    have l1 : gload (gpre g t) u = gload g u := by
      unfold gload
      rw [e3]
      apply zS_congr
      intro o _
      have pr : gpress (gpre g t) o = gpress g o := by unfold gpress; rw [ek, ew]
      have ab : gab (gpre g t) o u = gab g o u := by unfold gab; rw [ep, ep, eo, eo]
      rw [pr, ab, ep]
    rw [b1, l1] at hl
    exact hl
theorem gI.beep (h : gI B g) (hB2 : B + 1 < 2 ^ 20) (h0 : 0 < g 0) (h4 : g 4 < 999) : gI (B + 1) (gbeep g) := by
  cases hf : gfirst g 0 (g 3) with
  | some t =>
    obtain ⟨ht, -⟩ := gfirst_lt _ _ hf
    rw [gbeep_some hf]
    have hp := gpre_I (t := t) h h4 (by omega)
    have e3 : gpre g t 3 = g 3 := gpre_h (by decide) (by decide)
    have h2 := hp.move hB2 (t := t) (p := 1) (by rw [e3]; exact ht) (by omega)
    have h3 := gcr_id (gO_out (t := t) (p := 1) hp.2.2.2.1 (by decide))
    rw [gco_n] at h3
    rw [h3] at h2
    exact h2
  | none =>
    rw [gbeep_none hf]
    have := gpre_I (t := 8) h h4 (by omega)
    obtain ⟨hB, hD, hU, hO, h5, hk, h00, -⟩ := h
    have ew : ∀ j, j ≠ 4 → gu g 4 (g 4 + 1) j = g j := fun j hj => gu_n hj
    refine ⟨⟨by rw [ew 3 (by decide)]; exact hB.1, by rw [ew 0 (by decide)]; exact hB.2.1, fun j => ?_, fun u hu => by show gu g 4 (g 4 + 1) (6 + 7 * u + 2) ≤ 9; rw [ew _ (by omega)]; exact hB.2.2.2 u hu⟩, fun u v hu hv e => ?_, fun u hu => ?_, fun u hu hl => ?_, by rw [ew 5 (by decide)]; omega, fun u hu => ?_, by rw [ew 0 (by decide), ew 3 (by decide)]; exact h00, by rw [gu_s]; omega⟩
    · unfold gu
      split
      · omega
      · exact hB.2.2.1 j
    · rw [ew 3 (by decide)] at hu hv
      refine hD u v hu hv ?_
      rw [show go (gu g 4 (g 4 + 1)) u = go g u from ew _ (by omega), show go (gu g 4 (g 4 + 1)) v = go g v from ew _ (by omega)] at e
      exact e
    · rw [ew 3 (by decide)] at hu
      rw [show go (gu g 4 (g 4 + 1)) u = go g u from ew _ (by omega), ew 5 (by decide)]
      exact hU u hu
    · rw [ew 3 (by decide)] at hu
      rw [show gc (gu g 4 (g 4 + 1)) u = gc g u from ew _ (by omega)]
      refine hO u hu ?_
      have b1 : gbears (gu g 4 (g 4 + 1)) u = gbears g u := by
        unfold gbears
        rw [show gk (gu g 4 (g 4 + 1)) u = gk g u from ew _ (by omega), show gs (gu g 4 (g 4 + 1)) u = gs g u from ew _ (by omega)]
      have l1 : gload (gu g 4 (g 4 + 1)) u = gload g u := by
        unfold gload
        rw [ew 3 (by decide)]
        apply zS_congr
        intro o _
        have pr : gpress (gu g 4 (g 4 + 1)) o = gpress g o := by
          unfold gpress
          rw [show gk (gu g 4 (g 4 + 1)) o = gk g o from ew _ (by omega), show gw (gu g 4 (g 4 + 1)) o = gw g o from ew _ (by omega)]
        have ab : gab (gu g 4 (g 4 + 1)) o u = gab g o u := by
          unfold gab
          rw [show gp (gu g 4 (g 4 + 1)) o = gp g o from ew _ (by omega), show gp (gu g 4 (g 4 + 1)) u = gp g u from ew _ (by omega), show go (gu g 4 (g 4 + 1)) o = go g o from ew _ (by omega), show go (gu g 4 (g 4 + 1)) u = go g u from ew _ (by omega)]
        rw [pr, ab, show gp (gu g 4 (g 4 + 1)) u = gp g u from ew _ (by omega)]
      rw [b1, l1] at hl
      exact hl
    · rw [ew 3 (by decide)] at hu
      rw [show gk (gu g 4 (g 4 + 1)) u = gk g u from ew _ (by omega), show gw (gu g 4 (g 4 + 1)) u = gw g u from ew _ (by omega), show gp (gu g 4 (g 4 + 1)) u = gp g u from ew _ (by omega), show gc (gu g 4 (g 4 + 1)) u = gc g u from ew _ (by omega), ew 0 (by decide)]
      exact hk u hu
theorem gbeep_0 : gbeep g 0 = g 0 := by
  cases hf : gfirst g 0 (g 3) with
  | some t => rw [gbeep_some hf, gcomes_h (by decide), gpre_h (by decide) (by decide)]
  | none => rw [gbeep_none hf, gu_n (by decide)]
theorem gbeep_4 : gbeep g 4 = g 4 + 1 := by
  cases hf : gfirst g 0 (g 3) with
  | some t => rw [gbeep_some hf, gcomes_h (by decide), gpre_4]
  | none => rw [gbeep_none hf, gu_s]
theorem gBack_beep (h : gI B g) (f : Int32) (hf : ∀ t, gfirst g 0 (g 3) = some t → f = nI 0) : gBack g (gbeep g) 1 (zopt (gfirst g 0 (g 3))) f (nI (gbroken g)) := by
  obtain ⟨hB, hD, hU, hO, h5, hk, h0, h4⟩ := h
  cases hfs : gfirst g 0 (g 3) with
  | none =>
    rw [gbeep_none hfs]
    have ew : ∀ j, j ≠ 4 → gu g 4 (g 4 + 1) j = g j := fun j hj => gu_n hj
    refine ⟨rfl, ⟨ew 0 (by decide), ew 1 (by decide), ew 2 (by decide), ew 3 (by decide)⟩, fun u _ => ⟨(ew _ (by omega)).symm, (ew _ (by omega)).symm, (ew _ (by omega)).symm⟩, Or.inr (Or.inl ⟨rfl, rfl, gu_s, fun u _ => ⟨(ew _ (by omega)).symm, fun _ => ?_, fun _ => (ew _ (by omega)).symm⟩⟩)⟩
    have ep : ∀ u, gp (gu g 4 (g 4 + 1)) u = gp g u := fun u => ew _ (by omega)
    have eo : ∀ u, go (gu g 4 (g 4 + 1)) u = go g u := fun u => ew _ (by omega)
    unfold gh
    rw [ew 3 (by decide)]
    simp only [ep, eo]
  | some t =>
    obtain ⟨ht, hp0⟩ := gfirst_lt _ _ hfs
    rw [gbeep_some hfs]
    have e3 : gpre g t 3 = g 3 := gpre_h (by decide) (by decide)
    have ep : ∀ u, gp (gpre g t) u = gp g u := fun u => gpre_w (by decide)
    have eo : ∀ u, go (gpre g t) u = go g u := fun u => gpre_w (by decide)
    have hD' : gD (gpre g t) := fun u v hu hv e => hD u v (by rw [e3] at hu; exact hu) (by rw [e3] at hv; exact hv) (by rw [eo, eo] at e; exact e)
    have hU' : gU (gpre g t) := fun u hu => by rw [eo, gpre_h (by decide) (by decide)]; exact hU u (by rw [e3] at hu; exact hu)
    have htop : ghigh g 0 = some t := by unfold ghigh; rw [if_pos rfl]; exact hfs
    have htop' : ghigh (gpre g t) (gp (gpre g t) t) = some t := by
      rw [ep, hp0]
      have hfe : ∀ n, gfirst (gpre g t) 0 n = gfirst g 0 n := by
        intro n
        induction n with
        | zero => rfl
        | succ n ih =>
          unfold gfirst
          rw [ih, ep]
          cases gfirst g 0 n with
          | none => rfl
          | some v => simp only [eo]
      unfold ghigh
      rw [if_pos rfl, e3, hfe]
      exact hfs
    refine ⟨rfl, ⟨?_, ?_, ?_, ?_⟩, fun u hu => ⟨?_, ?_, ?_⟩, Or.inr (Or.inr ⟨t, rfl, ?_, ⟨ht, ?_, fun u hu hne => ⟨?_, fun h2 => ?_, fun _ => ?_⟩, fun h2 => ?_, fun hx => absurd hp0 hx⟩, Or.inl ⟨rfl, ?_⟩⟩)⟩
    · rw [gcomes_h (by decide), gpre_h (by decide) (by decide)]
    · rw [gcomes_h (by decide), gpre_h (by decide) (by decide)]
    · rw [gcomes_h (by decide), gpre_h (by decide) (by decide)]
    · rw [gco_n, e3]
    · exact ((gco_w (by decide) (by decide) (by decide)).trans (gpre_w (by decide))).symm
    · exact ((gco_w (by decide) (by decide) (by decide)).trans (gpre_w (by decide))).symm
    · exact ((gco_w (by decide) (by decide) (by decide)).trans (gpre_w (by decide))).symm
    · rw [hf t hfs, hp0]
    · rw [gco_pt, hp0]; decide
    · rw [gco_po hne, ep]
    · rw [gco_h hD' hU' (by rw [e3]; exact ht) (by decide) (by rw [ep, hp0]; decide) (Or.inr htop') (by rw [e3]; exact hu) (by rw [gco_po hne, ep]; exact h2), if_neg hne, gpre_hh]
    · rw [show gi (gcomes (gpre g t) t 1) u = gi (gpre g t) u from gco_w (by decide) (by decide) (by decide)]
      show g (6 + 7 * u + 6) = gu (gu g (6 + 7 * t + 6) (g 4)) 4 (g 4 + 1) (6 + 7 * u + 6)
      rw [gu_n (show 6 + 7 * u + 6 ≠ 4 by omega), gu_n (show 6 + 7 * u + 6 ≠ 6 + 7 * t + 6 by omega)]
    · obtain ⟨-, -, k3, -⟩ := (ghigh_spec (p := 0) hD).2 t htop
      have h6 := gco_count (g := gpre g t) (t := t) (p := 1) (by rw [e3]; exact ht) (by rw [ep, hp0]; decide)
      rw [ep, hp0] at h6
      have h7 : gcount (gpre g t) 0 = gcount g 0 := by
        unfold gcount
        rw [e3]
        simp only [ep]
      rw [hp0]
      omega
    · rw [gcomes_h (by decide), gpre_4]
end
