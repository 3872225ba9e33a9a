/-! the constructors -/
section
theorem inv_mono {c1 c2 : Nat → List Value → pm_H → Option pm_R} (hle : ∀ a av σ r, c1 a av σ = some r → c2 a av σ = some r) {a b d : Nat} {st : List Value} {σ : pm_H} {k : List Value → pm_H → Option pm_R} {r : pm_R} (h : pm_inv c1 a b d st σ k = some r) : pm_inv c2 a b d st σ k = some r := by
  unfold pm_inv at h ⊢
  split at h
  · exact h
  · exact h
  · exact h
  · exact h
  · split at h
    · split at h
      · rename_i av r' _ _ _
        cases hc : c1 a av σ with
        | none =>
          rw [hc] at h
          unfold pm_call3 at h
          split at h <;> cases h
        | some x =>
          rw [hc] at h
          rw [hle _ _ _ _ hc]
          exact h
      · cases h
    · cases h
theorem px_call {c1 c2 : Nat → List Value → pm_H → Option pm_R} (hle : ∀ a av σ r, c1 a av σ = some r → c2 a av σ = some r) {old : Nat → Option (Nat × (Nat → Int32))} {K : Nat → pm_L → List Value → pm_H → Option pm_R} {M : pm_M} {pc : Nat} {ls : pm_L} {st : List Value} {σ : pm_H} {r : pm_R} (h : pm_px c1 old K M pc ls st σ = some r) : pm_px c2 old K M pc ls st σ = some r := by
  unfold pm_px at h ⊢
  split at h
  · cases h
  · rename_i i n c a b d sw _
    cases i
    all_goals first
      | exact h
      | exact inv_mono hle h
theorem run_call {c1 c2 : Nat → List Value → pm_H → Option pm_R} (hle : ∀ a av σ r, c1 a av σ = some r → c2 a av σ = some r) (hc : ∀ a av σ r, c2 a av σ = some r → pm_le σ r.2) {old : Nat → Option (Nat × (Nat → Int32))} {M : pm_M} : ∀ (n pc : Nat) (ls : pm_L) (st : List Value) (σ : pm_H) (r : pm_R), pm_run c1 old M n pc ls st σ = some r → pm_run c2 old M n pc ls st σ = some r
  | 0, _, _, _, _, _, h => by cases h
  | n + 1, pc, ls, st, σ, r, h => by
    have h1 : pm_px c1 old (pm_run c1 old M n) M pc ls st σ = some r := h
    have h2 := px_call hle h1
    show pm_px c2 old (pm_run c2 old M n) M pc ls st σ = some r
    rcases pm_px_lin c2 hc old M pc ls st σ with g | ⟨r', g1, g⟩ | ⟨pc', ls', st', τ, g1, g⟩
    · have e1 := g (pm_run c1 old M n)
      dsimp only at e1
      rw [e1] at h2
      cases h2
    · have e1 := g (pm_run c1 old M n)
      have e2 := g (pm_run c2 old M n)
      dsimp only at e1 e2
      rw [e2, ← e1]
      exact h2
    · have e1 := g (pm_run c1 old M n)
      have e2 := g (pm_run c2 old M n)
      dsimp only at e1 e2
      rw [e1] at h2
      rw [e2]
      exact run_call hle hc n pc' ls' st' τ r h2
/-- a call with so many steps at each depth -/
def pm_cf (L : Nat) (xs : Nat → Int32) : Nat → Nat → List Value → pm_H → Option pm_R
  | 0, _, _, _ => none
  | d + 1, mid, av, σ => match pm_nth pm_mt mid, pm_nth pm_ms mid with
    | some row, some M => match pm_rc row.2.2.2.2.1 row.2.2.2.2.2.2.1 av σ && (Nat.ble (pm_spr av).length row.2.2.1 && pm_lok M.2.2.1 0 (pm_pad row.2.2.1 (pm_spr av))) with
      | true => pm_run (pm_cf L xs d) (pm_od L xs) M 200 0 (pm_pad row.2.2.1 (pm_spr av)) [] σ
      | false => none
    | _, _ => none
theorem cf_call (L : Nat) (xs : Nat → Int32) : ∀ (d e a : Nat) (av : List Value) (σ : pm_H) (r : pm_R), pm_cf L xs d a av σ = some r → pm_call L xs (d + e) a av σ = some r
  | 0, _, _, _, _, _, h => by cases h
  | d + 1, e, a, av, σ, r, h => by
    rw [show d + 1 + e = (d + e) + 1 by omega]
    unfold pm_cf at h
    unfold pm_call
    split at h
    · rename_i row M h1 h2
      rw [h1, h2]
      dsimp only
      split at h
      · rename_i h3
        rw [h3]
        exact pm_ev_of (pm_call_le L xs (d + e)) (run_call (cf_call L xs d e) (pm_call_le L xs (d + e)) _ _ _ _ _ _ h)
      · cases h
    · cases h
def zm8 : Nat → Int32 := upd (upd (upd (upd (upd (upd (upd (upd (fun _ => 0) 0 (-1)) 1 (-1)) 2 (-1)) 3 (-1)) 4 (-1)) 5 (-1)) 6 (-1)) 7 (-1)
def zI0 : Nat → Nat → Int32 := fun _ _ => 0
def zA0 : Nat → Nat → Int32 := fun q => match q with
  | 12 => zm8
  | 65 => zm8
  | _ => fun _ => 0
def zE29 : va_E := .inl (2, 2, .inr (.inr (.inr (.inr (va_up (va_up (fun _ => none) 0 (some 30)) 1 (some 37))))))
def zH1 : pm_H := ((zL zI0 zA0 .null).take 64).set 29 zE29
end
