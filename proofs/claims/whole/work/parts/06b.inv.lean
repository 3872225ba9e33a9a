/-! what the instructions' helpers ask for -/
section
variable {r : pm_R}
theorem pm_ii_I {f : Int32 → Int32 → Int32} {st : List Value} {k : List Value → Option pm_R} (h : pm_ii f st k = some r) : ∃ x y t, st = .int y :: .int x :: t ∧ k (.int (f x y) :: t) = some r := by
  unfold pm_ii at h
  split at h
  · exact ⟨_, _, _, rfl, h⟩
  · cases h
theorem pm_iz_I {f : Int32 → Int32 → Int32} {st : List Value} {k : List Value → Option pm_R} (h : pm_iz f st k = some r) : ∃ x y t, st = .int y :: .int x :: t ∧ ¬ y = 0 ∧ k (.int (f x y) :: t) = some r := by
  unfold pm_iz at h
  split at h
  · split at h
    · cases h
    · rename_i hy
      exact ⟨_, _, _, rfl, hy, h⟩
  · cases h
theorem pm_i1_I {f : Int32 → Value} {st : List Value} {k : List Value → Option pm_R} (h : pm_i1 f st k = some r) : ∃ x t, st = .int x :: t ∧ k (f x :: t) = some r := by
  unfold pm_i1 at h
  split at h
  · exact ⟨_, _, rfl, h⟩
  · cases h
theorem pm_l1_I {f : Int64 → Value} {st : List Value} {k : List Value → Option pm_R} (h : pm_l1 f st k = some r) : ∃ x t, st = .long x :: t ∧ k (f x :: t) = some r := by
  unfold pm_l1 at h
  split at h
  · exact ⟨_, _, rfl, h⟩
  · cases h
theorem pm_ll_I {f : Int64 → Int64 → Value} {st : List Value} {k : List Value → Option pm_R} (h : pm_ll f st k = some r) : ∃ x y t, st = .long y :: .long x :: t ∧ k (f x y :: t) = some r := by
  unfold pm_ll at h
  split at h
  · exact ⟨_, _, _, rfl, h⟩
  · cases h
theorem pm_lz_I {f : Int64 → Int64 → Value} {st : List Value} {k : List Value → Option pm_R} (h : pm_lz f st k = some r) : ∃ x y t, st = .long y :: .long x :: t ∧ ¬ y = 0 ∧ k (f x y :: t) = some r := by
  unfold pm_lz at h
  split at h
  · split at h
    · cases h
    · rename_i hy
      exact ⟨_, _, _, rfl, hy, h⟩
  · cases h
theorem pm_ldi_I {ls : pm_L} {i : Nat} {st : List Value} {k : List Value → Option pm_R} (h : pm_ldi ls i st k = some r) : ∃ x, pm_nth ls i = some (some (.int x)) ∧ k (.int x :: st) = some r := by
  unfold pm_ldi at h
  split at h
  · rename_i x hx
    exact ⟨x, hx, h⟩
  · cases h
theorem pm_ldl_I {ls : pm_L} {i : Nat} {st : List Value} {k : List Value → Option pm_R} (h : pm_ldl ls i st k = some r) : ∃ x, pm_nth ls i = some (some (.long x)) ∧ k (.long x :: st) = some r := by
  unfold pm_ldl at h
  split at h
  · rename_i x hx
    exact ⟨x, hx, h⟩
  · cases h
theorem pm_lda_I {s0 : Nat} {od : Nat → Nat} {ls : pm_L} {i : Nat} {st : List Value} {k : List Value → Option pm_R} (h : pm_lda ls i st k = some r) : ∃ v a, pm_nth ls i = some (some v) ∧ pm_tv s0 od v = .ref a ∧ k (v :: st) = some r := by
  unfold pm_lda at h
  split at h
  · rename_i x hx
    exact ⟨_, _, hx, rfl, h⟩
  · rename_i x hx
    exact ⟨_, _, hx, rfl, h⟩
  · cases h
theorem pm_sti_I {g : List Nat} {ls : pm_L} {i : Nat} {st : List Value} {k : pm_L → List Value → Option pm_R} (h : pm_sti g ls i st k = some r) : ∃ x t, st = .int x :: t ∧ k (pm_sv g ls i (.int x)) t = some r := by
  unfold pm_sti at h
  split at h
  · exact ⟨_, _, rfl, h⟩
  · cases h
theorem pm_sta_I {s0 : Nat} {od : Nat → Nat} {g : List Nat} {ls : pm_L} {i : Nat} {st : List Value} {k : pm_L → List Value → Option pm_R} (h : pm_sta g ls i st k = some r) : ∃ v a t, st = v :: t ∧ pm_tv s0 od v = .ref a ∧ v.category = 1 ∧ k (pm_sv g ls i v) t = some r := by
  unfold pm_sta at h
  split at h
  · exact ⟨_, _, _, rfl, rfl, rfl, h⟩
  · exact ⟨_, _, _, rfl, rfl, rfl, h⟩
  · cases h
theorem pm_stl_I {g : List Nat} {ls : pm_L} {i : Nat} {st : List Value} {k : pm_L → List Value → Option pm_R} (h : pm_stl g ls i st k = some r) : ∃ x t, st = .long x :: t ∧ pm_isL g i = true ∧ k (pm_set (pm_sv g ls i (.long x)) (i + 1) none) t = some r := by
  unfold pm_stl at h
  split at h
  · split at h
    · rename_i hl
      exact ⟨_, _, rfl, hl, h⟩
    · cases h
  · cases h
theorem pm_inc_I {g : List Nat} {ls : pm_L} {i : Nat} {c : Int32} {k : pm_L → Option pm_R} (h : pm_inc g ls i c k = some r) : ∃ x, pm_nth ls i = some (some (.int x)) ∧ k (pm_sv g ls i (.int (x + c))) = some r := by
  unfold pm_inc at h
  split at h
  · rename_i x hx
    exact ⟨x, hx, h⟩
  · cases h
theorem pm_sw_I {sw : List (Int32 × Nat)} {dft : Nat} {st : List Value} {k : Nat → List Value → Option pm_R} (h : pm_sw sw dft st k = some r) : ∃ x t, st = .int x :: t ∧ pm_arms x (fun z => k z t) (k dft t) sw = some r := by
  unfold pm_sw at h
  split at h
  · exact ⟨_, _, rfl, h⟩
  · cases h
theorem pm_dup_I {st : List Value} {k : List Value → Option pm_R} (h : pm_dup st k = some r) : ∃ v t, st = v :: t ∧ v.category = 1 ∧ k (v :: v :: t) = some r := by
  unfold pm_dup at h
  split at h
  · split at h
    · rename_i hv
      exact ⟨_, _, rfl, Nat.eq_of_beq_eq_true hv, h⟩
    · cases h
  · cases h
theorem pm_dup2_I {st : List Value} {k : List Value → Option pm_R} (h : pm_dup2 st k = some r) : ∃ v w t, st = v :: w :: t ∧ v.category = 1 ∧ w.category = 1 ∧ k (v :: w :: v :: w :: t) = some r := by
  unfold pm_dup2 at h
  split at h
  · split at h
    · rename_i h1 h2
      exact ⟨_, _, _, rfl, Nat.eq_of_beq_eq_true h1, Nat.eq_of_beq_eq_true h2, h⟩
    · cases h
  · cases h
theorem pm_gI_I {σ : pm_H} {o ci k : Nat} {x : Int32} (h : pm_gI σ o ci k = some x) : ∃ fs, σ[o]? = some (.inr (ci, fs)) ∧ fs[k]? = some (.int x) := by
  unfold pm_gI at h
  split at h
  · rename_i c fs hc
    split at h
    · rename_i hci
      subst hci
      split at h
      · rename_i y hy
        cases h
        exact ⟨fs, hc, hy⟩
      · cases h
    · cases h
  · cases h
theorem pm_gR_I {σ : pm_H} {o ci k : Nat} {x : Nat} (h : pm_gR σ o ci k = some x) : ∃ fs, σ[o]? = some (.inr (ci, fs)) ∧ fs[k]? = some (.ref x) := by
  unfold pm_gR at h
  split at h
  · rename_i c fs hc
    split at h
    · rename_i hci
      subst hci
      split at h
      · rename_i y hy
        cases h
        exact ⟨fs, hc, hy⟩
      · cases h
    · cases h
  · cases h
theorem pm_pf_I {σ τ : pm_H} {o ci k : Nat} {v : Value} (h : pm_pf σ o ci k v = some τ) : ∃ fs, σ[o]? = some (.inr (ci, fs)) ∧ k < fs.length ∧ τ = σ.set o (.inr (ci, fs.set k v)) := by
  unfold pm_pf at h
  split at h
  · rename_i c fs hc
    split at h
    · rename_i hci
      obtain ⟨rfl, hk⟩ := hci
      cases h
      exact ⟨fs, hc, hk, rfl⟩
    · cases h
  · cases h
theorem pm_rd_I {σ : pm_H} {t q : Nat} {i x : Int32} (h : pm_rd t σ q i = some x) : ∃ n f, σ[q]? = some (.inl (t, n, .inl f)) ∧ vp_in i n ∧ x = f i.toNatClampNeg := by
  unfold pm_rd at h
  split at h
  · rename_i c n f hc
    split at h
    · rename_i hci
      obtain ⟨rfl, hk⟩ := hci
      cases h
      exact ⟨n, f, hc, hk, rfl⟩
    · cases h
  · cases h
theorem pm_wr_I {σ τ : pm_H} {t q : Nat} {i x : Int32} (h : pm_wr t σ q i x = some τ) : ∃ n f, σ[q]? = some (.inl (t, n, .inl f)) ∧ vp_in i n ∧ τ = σ.set q (.inl (t, n, .inl (upd f i.toNatClampNeg x))) := by
  unfold pm_wr at h
  split at h
  · rename_i c n f hc
    split at h
    · rename_i hci
      obtain ⟨rfl, hk⟩ := hci
      cases h
      exact ⟨n, f, hc, hk, rfl⟩
    · cases h
  · cases h
theorem pm_rdA_I {σ : pm_H} {q : Nat} {i : Int32} {x : Nat} (h : pm_rdA σ q i = some x) : ∃ c n f, σ[q]? = some (.inl (c, n, .inr (.inr (.inr (.inr f))))) ∧ (c = 2 ∨ c = 3) ∧ vp_in i n ∧ f i.toNatClampNeg = some x := by
  unfold pm_rdA at h
  split at h
  · rename_i c n f hc
    split at h
    · rename_i hci
      exact ⟨c, n, f, hc, hci.1, hci.2, h⟩
    · cases h
  · cases h
theorem pm_wrA_I {σ τ : pm_H} {q : Nat} {i : Int32} {v : Nat} (h : pm_wrA σ q i v = some τ) : ∃ n f fs, σ[q]? = some (.inl (2, n, .inr (.inr (.inr (.inr f))))) ∧ σ[v]? = some (.inr (4, fs)) ∧ vp_in i n ∧ τ = σ.set q (.inl (2, n, .inr (.inr (.inr (.inr (va_up f i.toNatClampNeg (some v))))))) := by
  unfold pm_wrA at h
  split at h
  · rename_i c n f k fs hc hk
    split at h
    · rename_i hci
      obtain ⟨rfl, rfl, hi⟩ := hci
      cases h
      exact ⟨n, f, fs, hc, hk, hi, rfl⟩
    · cases h
  · cases h
theorem pm_cp_I {σ τ : pm_H} {p q : Nat} {i j n : Int32} (h : pm_cp σ p i q j n = some τ) : ∃ a f b g, σ[p]? = some (.inl (0, a, .inl f)) ∧ σ[q]? = some (.inl (0, b, .inl g)) ∧ (¬ i < 0 ∧ ¬ j < 0 ∧ ¬ n < 0) ∧ i.toNatClampNeg + n.toNatClampNeg ≤ a ∧ j.toNatClampNeg + n.toNatClampNeg ≤ b ∧ τ = σ.set q (.inl (0, b, .inl (va_cpy f g i.toNatClampNeg j.toNatClampNeg n.toNatClampNeg))) := by
  unfold pm_cp at h
  split at h
  · rename_i c a f d b g hc hk
    split at h
    · rename_i hci
      obtain ⟨⟨rfl, rfl⟩, h1, h2, h3⟩ := hci
      cases h
      exact ⟨a, f, b, g, hc, hk, h1, h2, h3, rfl⟩
    · cases h
  · cases h
theorem pm_bind_I {α : Type} {o : Option α} {k : α → Option pm_R} (h : o.bind k = some r) : ∃ x, o = some x ∧ k x = some r := by
  cases o with
  | none => cases h
  | some x => exact ⟨x, rfl, h⟩
theorem pm_take_eq : ∀ (b : Nat) (acc st av rest : List Value), pm_take b acc st = some (av, rest) → av.reverse ++ rest = acc.reverse ++ st ∧ av.length = acc.length + b
  | 0, acc, st, av, rest, h => by cases h; exact ⟨rfl, rfl⟩
  | b + 1, acc, [], av, rest, h => by cases h
  | b + 1, acc, v :: st, av, rest, h => by
    obtain ⟨h1, h2⟩ := pm_take_eq b (v :: acc) st av rest h
    refine ⟨by rw [h1]; simp, by rw [h2]; simp; omega⟩
end
