-- sizes, and what an instruction does with what goes on behind it
def pm_s1 : va_E → Nat
  | .inl x => x.2.1
  | .inr x => x.2.length
def pm_sz : pm_H → Nat
  | [] => 0
  | e :: t => pm_s1 e + pm_sz t
def pm_le (σ τ : pm_H) : Prop := σ.length ≤ τ.length ∧ pm_sz σ ≤ pm_sz τ
theorem pm_le.rf {σ : pm_H} : pm_le σ σ := ⟨Nat.le_refl _, Nat.le_refl _⟩
theorem pm_le.tr {a b c : pm_H} (h : pm_le a b) (g : pm_le b c) : pm_le a c := ⟨Nat.le_trans h.1 g.1, Nat.le_trans h.2 g.2⟩
theorem pm_sz_app (a b : pm_H) : pm_sz (a ++ b) = pm_sz a + pm_sz b := by
  induction a with
  | nil => simp [pm_sz]
  | cons e t ih => simp only [List.cons_append, pm_sz, ih]; omega
theorem pm_sz_set : ∀ (σ : pm_H) (k : Nat) (e0 e : va_E), σ[k]? = some e0 → pm_s1 e = pm_s1 e0 → pm_sz (σ.set k e) = pm_sz σ
  | [], k, e0, e, h, _ => by simp at h
  | x :: t, 0, e0, e, h, g => by
    simp at h
    subst h
    simp [pm_sz, g]
  | x :: t, k + 1, e0, e, h, g => by
    have := pm_sz_set t k e0 e (by simpa using h) g
    simp [pm_sz, this]
theorem pm_le_app (a b : pm_H) : pm_le a (a ++ b) := ⟨by simp, by rw [pm_sz_app]; omega⟩
theorem pm_le_set {σ : pm_H} {k : Nat} {e0 e : va_E} (h : σ[k]? = some e0) (g : pm_s1 e = pm_s1 e0) : pm_le σ (σ.set k e) := ⟨by simp, by rw [pm_sz_set σ k e0 e h g]; omega⟩
def pm_S1 (G : (List Value → Option pm_R) → Option pm_R) : Prop := (∀ k, G k = none) ∨ ∃ s, ∀ k, G k = k s
def pm_S2 (σ : pm_H) (G : (List Value → pm_H → Option pm_R) → Option pm_R) : Prop := (∀ k, G k = none) ∨ ∃ s z, pm_le σ z ∧ ∀ k, G k = k s z
def pm_S3 (G : (pm_L → List Value → Option pm_R) → Option pm_R) : Prop := (∀ k, G k = none) ∨ ∃ l s, ∀ k, G k = k l s
theorem pm_S1.bind {α : Type} (o : Option α) (g : α → List Value) : pm_S1 fun k => o.bind fun x => k (g x) := by
  cases o with
  | none => exact Or.inl fun _ => rfl
  | some x => exact Or.inr ⟨g x, fun _ => rfl⟩
theorem pm_S2.bind {α : Type} {σ : pm_H} (o : Option α) (g : α → List Value) (z : α → pm_H) (h : ∀ x, o = some x → pm_le σ (z x)) : pm_S2 σ fun k => o.bind fun x => k (g x) (z x) := by
  cases o with
  | none => exact Or.inl fun _ => rfl
  | some x => exact Or.inr ⟨g x, z x, h x rfl, fun _ => rfl⟩
theorem pm_ii_S (f : Int32 → Int32 → Int32) (st : List Value) : pm_S1 (pm_ii f st) := by
  unfold pm_S1 pm_ii
  split
  · exact Or.inr ⟨_, fun _ => rfl⟩
  · exact Or.inl fun _ => rfl
theorem pm_iz_S (f : Int32 → Int32 → Int32) (st : List Value) : pm_S1 (pm_iz f st) := by
  unfold pm_S1 pm_iz
  split
  · split
    · exact Or.inl fun _ => rfl
    · exact Or.inr ⟨_, fun _ => rfl⟩
  · exact Or.inl fun _ => rfl
theorem pm_i1_S (f : Int32 → Value) (st : List Value) : pm_S1 (pm_i1 f st) := by
  unfold pm_S1 pm_i1
  split
  · exact Or.inr ⟨_, fun _ => rfl⟩
  · exact Or.inl fun _ => rfl
theorem pm_l1_S (f : Int64 → Value) (st : List Value) : pm_S1 (pm_l1 f st) := by
  unfold pm_S1 pm_l1
  split
  · exact Or.inr ⟨_, fun _ => rfl⟩
  · exact Or.inl fun _ => rfl
theorem pm_ll_S (f : Int64 → Int64 → Value) (st : List Value) : pm_S1 (pm_ll f st) := by
  unfold pm_S1 pm_ll
  split
  · exact Or.inr ⟨_, fun _ => rfl⟩
  · exact Or.inl fun _ => rfl
theorem pm_lz_S (f : Int64 → Int64 → Value) (st : List Value) : pm_S1 (pm_lz f st) := by
  unfold pm_S1 pm_lz
  split
  · split
    · exact Or.inl fun _ => rfl
    · exact Or.inr ⟨_, fun _ => rfl⟩
  · exact Or.inl fun _ => rfl
theorem pm_ldi_S (ls : pm_L) (i : Nat) (st : List Value) : pm_S1 (pm_ldi ls i st) := by
  unfold pm_S1 pm_ldi
  split
  · exact Or.inr ⟨_, fun _ => rfl⟩
  · exact Or.inl fun _ => rfl
theorem pm_ldl_S (ls : pm_L) (i : Nat) (st : List Value) : pm_S1 (pm_ldl ls i st) := by
  unfold pm_S1 pm_ldl
  split
  · exact Or.inr ⟨_, fun _ => rfl⟩
  · exact Or.inl fun _ => rfl
theorem pm_lda_S (ls : pm_L) (i : Nat) (st : List Value) : pm_S1 (pm_lda ls i st) := by
  unfold pm_S1 pm_lda
  split
  · exact Or.inr ⟨_, fun _ => rfl⟩
  · exact Or.inr ⟨_, fun _ => rfl⟩
  · exact Or.inl fun _ => rfl
theorem pm_sti_S (g : List Nat) (ls : pm_L) (i : Nat) (st : List Value) : pm_S3 (pm_sti g ls i st) := by
  unfold pm_S3 pm_sti
  split
  · exact Or.inr ⟨_, _, fun _ => rfl⟩
  · exact Or.inl fun _ => rfl
theorem pm_sta_S (g : List Nat) (ls : pm_L) (i : Nat) (st : List Value) : pm_S3 (pm_sta g ls i st) := by
  unfold pm_S3 pm_sta
  split
  · exact Or.inr ⟨_, _, fun _ => rfl⟩
  · exact Or.inr ⟨_, _, fun _ => rfl⟩
  · exact Or.inl fun _ => rfl
theorem pm_stl_S (g : List Nat) (ls : pm_L) (i : Nat) (st : List Value) : pm_S3 (pm_stl g ls i st) := by
  unfold pm_S3 pm_stl
  split
  · split
    · exact Or.inr ⟨_, _, fun _ => rfl⟩
    · exact Or.inl fun _ => rfl
  · exact Or.inl fun _ => rfl
theorem pm_dup_S (st : List Value) : pm_S1 (pm_dup st) := by
  unfold pm_S1 pm_dup
  split
  · split
    · exact Or.inr ⟨_, fun _ => rfl⟩
    · exact Or.inl fun _ => rfl
  · exact Or.inl fun _ => rfl
theorem pm_dup2_S (st : List Value) : pm_S1 (pm_dup2 st) := by
  unfold pm_S1 pm_dup2
  split
  · split
    · exact Or.inr ⟨_, fun _ => rfl⟩
    · exact Or.inl fun _ => rfl
  · exact Or.inl fun _ => rfl
theorem pm_getf_S (a b d : Nat) (st : List Value) (σ : pm_H) : pm_S1 (pm_getf a b d st σ) := by
  unfold pm_getf
  split
  · split
    · exact pm_S1.bind _ _
    · exact pm_S1.bind _ _
  · exact Or.inl fun _ => rfl
theorem pm_pf_le {σ τ : pm_H} {o ci k : Nat} {v : Value} (h : pm_pf σ o ci k v = some τ) : pm_le σ τ := by
  unfold pm_pf at h
  split at h
  · rename_i c fs hc
    split at h
    · cases h
      exact pm_le_set hc (by simp [pm_s1])
    · cases h
  · cases h
theorem pm_wr_le {σ τ : pm_H} {t q : Nat} {i x : Int32} (h : pm_wr t σ q i x = some τ) : pm_le σ τ := by
  unfold pm_wr at h
  split at h
  · rename_i c n f hc
    split at h
    · cases h
      exact pm_le_set hc (by simp [pm_s1])
    · cases h
  · cases h
theorem pm_wrA_le {σ τ : pm_H} {q : Nat} {i : Int32} {x : Nat} (h : pm_wrA σ q i x = some τ) : pm_le σ τ := by
  unfold pm_wrA at h
  split at h
  · rename_i c n f k fs hc hk
    split at h
    · cases h
      exact pm_le_set hc (by simp [pm_s1])
    · cases h
  · cases h
theorem pm_cp_le {σ τ : pm_H} {p q : Nat} {i j n : Int32} (h : pm_cp σ p i q j n = some τ) : pm_le σ τ := by
  unfold pm_cp at h
  split at h
  · rename_i c a f d b g hc hk
    split at h
    · cases h
      exact pm_le_set hk (by simp [pm_s1])
    · cases h
  · cases h
theorem pm_putf_S (a b d : Nat) (st : List Value) (σ : pm_H) : pm_S2 σ (pm_putf a b d st σ) := by
  unfold pm_putf
  split
  · exact pm_S2.bind _ _ _ fun _ h => pm_pf_le h
  · exact pm_S2.bind _ _ _ fun _ h => pm_pf_le h
  · exact Or.inl fun _ => rfl
theorem pm_iald_S (old : Nat → Option (Nat × (Nat → Int32))) (st : List Value) (σ : pm_H) : pm_S1 (pm_iald old st σ) := by
  unfold pm_iald
  split
  · exact pm_S1.bind _ _
  · exact pm_S1.bind _ _
  · exact Or.inl fun _ => rfl
theorem pm_iast_S (st : List Value) (σ : pm_H) : pm_S2 σ (pm_iast st σ) := by
  unfold pm_iast
  split
  · exact pm_S2.bind _ _ _ fun _ h => pm_wr_le h
  · exact Or.inl fun _ => rfl
theorem pm_zald_S (st : List Value) (σ : pm_H) : pm_S1 (pm_zald st σ) := by
  unfold pm_zald
  split
  · exact pm_S1.bind _ _
  · exact Or.inl fun _ => rfl
theorem pm_zast_S (st : List Value) (σ : pm_H) : pm_S2 σ (pm_zast st σ) := by
  unfold pm_zast
  split
  · exact pm_S2.bind _ _ _ fun _ h => pm_wr_le h
  · exact Or.inl fun _ => rfl
theorem pm_aald_S (st : List Value) (σ : pm_H) : pm_S1 (pm_aald st σ) := by
  unfold pm_aald
  split
  · exact pm_S1.bind _ _
  · exact Or.inl fun _ => rfl
theorem pm_aast_S (st : List Value) (σ : pm_H) : pm_S2 σ (pm_aast st σ) := by
  unfold pm_aast
  split
  · exact pm_S2.bind _ _ _ fun _ h => pm_wrA_le h
  · exact Or.inl fun _ => rfl
theorem pm_alen_S (old : Nat → Option (Nat × (Nat → Int32))) (st : List Value) (σ : pm_H) : pm_S1 (pm_alen old st σ) := by
  unfold pm_alen
  split
  · exact pm_S1.bind _ _
  · exact pm_S1.bind _ _
  · exact Or.inl fun _ => rfl
theorem pm_newa_S (a : Nat) (st : List Value) (σ : pm_H) : pm_S2 σ (pm_newa a st σ) := by
  unfold pm_S2 pm_newa
  split
  · split
    · exact Or.inr ⟨_, _, pm_le_app _ _, fun _ => rfl⟩
    · exact Or.inl fun _ => rfl
  · exact Or.inl fun _ => rfl
theorem pm_newm_S (st : List Value) (σ : pm_H) : pm_S2 σ (pm_newm st σ) := by
  unfold pm_S2 pm_newm
  split
  · split
    · exact Or.inr ⟨_, _, (pm_le_app _ _).tr (pm_le_app _ _), fun _ => rfl⟩
    · exact Or.inl fun _ => rfl
  · exact Or.inl fun _ => rfl
theorem pm_newo_S (a : Nat) (st : List Value) (σ : pm_H) : pm_S2 σ (pm_newo a st σ) := by
  unfold pm_S2 pm_newo
  split
  · exact Or.inr ⟨_, _, pm_le_app _ _, fun _ => rfl⟩
  · exact Or.inl fun _ => rfl
theorem pm_cV_le {σ τ : pm_H} {r : Option pm_R} (hc : ∀ z, r = some z → pm_le σ z.2) (h : pm_cV r = some τ) : pm_le σ τ := by
  unfold pm_cV at h
  split at h
  · cases h; exact hc _ rfl
  · cases h
theorem pm_cI_le {σ : pm_H} {τ : Int32 × pm_H} {r : Option pm_R} (hc : ∀ z, r = some z → pm_le σ z.2) (h : pm_cI r = some τ) : pm_le σ τ.2 := by
  unfold pm_cI at h
  split at h
  · cases h; exact hc _ rfl
  · cases h
theorem pm_cJ_le {σ : pm_H} {τ : Int64 × pm_H} {r : Option pm_R} (hc : ∀ z, r = some z → pm_le σ z.2) (h : pm_cJ r = some τ) : pm_le σ τ.2 := by
  unfold pm_cJ at h
  split at h
  · cases h; exact hc _ rfl
  · cases h
theorem pm_call3_S (d : Nat) (r : Option pm_R) (rest : List Value) (σ : pm_H) (hc : ∀ z, r = some z → pm_le σ z.2) : pm_S2 σ (fun k => pm_call3 d r k rest) := by
  unfold pm_call3
  split
  · exact pm_S2.bind _ _ _ fun _ h => pm_cV_le hc h
  · exact pm_S2.bind _ _ _ fun _ h => pm_cI_le hc h
  · exact pm_S2.bind _ _ _ fun _ h => pm_cJ_le hc h
theorem pm_inv_S (call : Nat → List Value → pm_H → Option pm_R) (hc : ∀ a av σ r, call a av σ = some r → pm_le σ r.2) (a b d : Nat) (st : List Value) (σ : pm_H) : pm_S2 σ (pm_inv call a b d st σ) := by
  unfold pm_inv
  split
  · split
    · split
      · exact Or.inr ⟨_, _, pm_le.rf, fun _ => rfl⟩
      · exact Or.inl fun _ => rfl
    · exact Or.inl fun _ => rfl
  · split
    · exact pm_S2.bind _ _ _ fun _ h => pm_cp_le h
    · exact Or.inl fun _ => rfl
  · split
    · split
      · exact Or.inr ⟨_, _, pm_le.rf, fun _ => rfl⟩
      · exact Or.inl fun _ => rfl
    · exact Or.inl fun _ => rfl
  · split
    · split
      · exact Or.inr ⟨_, _, pm_le.rf, fun _ => rfl⟩
      · exact Or.inl fun _ => rfl
    · exact Or.inl fun _ => rfl
  · split
    · split
      · exact pm_call3_S _ _ _ _ fun z h => hc _ _ _ _ h
      · exact Or.inl fun _ => rfl
    · exact Or.inl fun _ => rfl
abbrev pm_KT : Type := Nat → pm_L → List Value → pm_H → Option pm_R
/-- nothing, or an answer at once, or what goes on at one place -/
def pm_Lin (σ : pm_H) (F : pm_KT → Option pm_R) : Prop := (∀ K, F K = none) ∨ (∃ r : pm_R, pm_le σ r.2 ∧ ∀ K, F K = some r) ∨ ∃ (pc : Nat) (ls : pm_L) (st : List Value) (τ : pm_H), pm_le σ τ ∧ ∀ K, F K = K pc ls st τ
theorem pm_S1.lin {G : (List Value → Option pm_R) → Option pm_R} (h : pm_S1 G) (pc : Nat) (ls : pm_L) (σ : pm_H) : pm_Lin σ fun K => G fun s => K pc ls s σ := by
  rcases h with h | ⟨s, h⟩
  · exact Or.inl fun K => h _
  · exact Or.inr (Or.inr ⟨pc, ls, s, σ, pm_le.rf, fun K => h _⟩)
theorem pm_S2.lin {σ : pm_H} {G : (List Value → pm_H → Option pm_R) → Option pm_R} (h : pm_S2 σ G) (pc : Nat) (ls : pm_L) : pm_Lin σ fun K => G fun s z => K pc ls s z := by
  rcases h with h | ⟨s, z, g, h⟩
  · exact Or.inl fun K => h _
  · exact Or.inr (Or.inr ⟨pc, ls, s, z, g, fun K => h _⟩)
theorem pm_S3.lin {G : (pm_L → List Value → Option pm_R) → Option pm_R} (h : pm_S3 G) (pc : Nat) (σ : pm_H) : pm_Lin σ fun K => G fun l s => K pc l s σ := by
  rcases h with h | ⟨l, s, h⟩
  · exact Or.inl fun K => h _
  · exact Or.inr (Or.inr ⟨pc, l, s, σ, pm_le.rf, fun K => h _⟩)
theorem pm_go_lin (pc : Nat) (ls : pm_L) (st : List Value) (σ : pm_H) : pm_Lin σ fun K => K pc ls st σ := Or.inr (Or.inr ⟨pc, ls, st, σ, pm_le.rf, fun _ => rfl⟩)
theorem pm_inc_lin (g : List Nat) (ls : pm_L) (i : Nat) (c : Int32) (pc : Nat) (st : List Value) (σ : pm_H) : pm_Lin σ fun K => pm_inc g ls i c fun l => K pc l st σ := by
  unfold pm_inc
  split
  · exact pm_go_lin _ _ _ _
  · exact Or.inl fun _ => rfl
theorem pm_if_lin {σ : pm_H} {p : Prop} {_ : Decidable p} {F G : pm_KT → Option pm_R} (hF : pm_Lin σ F) (hG : pm_Lin σ G) : pm_Lin σ fun K => if p then F K else G K := by
  by_cases h : p
  · simp only [h, if_true]; exact hF
  · simp only [h, if_false]; exact hG
theorem pm_icmp_lin (cnd : Jvm.ClassFile.Cond) (ls : pm_L) (a b : Nat) (st : List Value) (σ : pm_H) : pm_Lin σ fun K => pm_icmp cnd st (fun s => K a ls s σ) fun s => K b ls s σ := by
  unfold pm_icmp
  split
  · split <;> exact pm_if_lin (pm_go_lin _ _ _ _) (pm_go_lin _ _ _ _)
  · exact Or.inl fun _ => rfl
theorem pm_ifc_lin (cnd : Jvm.ClassFile.Cond) (ls : pm_L) (a b : Nat) (st : List Value) (σ : pm_H) : pm_Lin σ fun K => pm_ifc cnd st (fun s => K a ls s σ) fun s => K b ls s σ := by
  unfold pm_ifc
  split
  · split <;> exact pm_if_lin (pm_go_lin _ _ _ _) (pm_go_lin _ _ _ _)
  · exact Or.inl fun _ => rfl
theorem pm_arms_lin (x : Int32) (ls : pm_L) (r : List Value) (σ : pm_H) (a : Nat) : ∀ sw : List (Int32 × Nat), pm_Lin σ fun K => pm_arms x (fun t => K t ls r σ) (K a ls r σ) sw
  | [] => pm_go_lin _ _ _ _
  | (v, t) :: l => pm_if_lin (F := fun K => K t ls r σ) (G := fun K => pm_arms x (fun t => K t ls r σ) (K a ls r σ) l) (pm_go_lin _ _ _ _) (pm_arms_lin x ls r σ a l)
theorem pm_sw_lin (sw : List (Int32 × Nat)) (ls : pm_L) (a : Nat) (st : List Value) (σ : pm_H) : pm_Lin σ fun K => pm_sw sw a st fun t s => K t ls s σ := by
  unfold pm_sw
  split
  · exact pm_arms_lin _ _ _ _ _ _
  · exact Or.inl fun _ => rfl
theorem pm_ret_lin (k : Nat) (st : List Value) (σ : pm_H) : pm_Lin σ fun _ => pm_ret k st σ := by
  unfold pm_ret
  split
  · exact Or.inr (Or.inl ⟨_, pm_le.rf, fun _ => rfl⟩)
  · split
    · exact Or.inr (Or.inl ⟨_, pm_le.rf, fun _ => rfl⟩)
    · split
      · exact Or.inr (Or.inl ⟨_, pm_le.rf, fun _ => rfl⟩)
      · exact Or.inl fun _ => rfl
  · exact Or.inl fun _ => rfl
set_option maxHeartbeats 4000000 in
theorem pm_px_lin (call : Nat → List Value → pm_H → Option pm_R) (hc : ∀ a av σ r, call a av σ = some r → pm_le σ r.2) (old : Nat → Option (Nat × (Nat → Int32))) (M : pm_M) (pc : Nat) (ls : pm_L) (st : List Value) (σ : pm_H) : pm_Lin σ fun K => pm_px call old K M pc ls st σ := by
  unfold pm_px
  split
  · exact Or.inl fun _ => rfl
  · rename_i i n c a b d sw _
    cases i
    case lreturn =>
      dsimp only
      split
      · exact Or.inr (Or.inl ⟨_, pm_le.rf, fun _ => rfl⟩)
      · exact Or.inl fun _ => rfl
    case return_ =>
      dsimp only
      split
      · exact Or.inr (Or.inl ⟨_, pm_le.rf, fun _ => rfl⟩)
      · exact Or.inl fun _ => rfl
    all_goals first
      | exact Or.inl fun _ => rfl
      | exact pm_go_lin _ _ _ _
      | exact (pm_ldi_S _ _ _).lin _ _ _
      | exact (pm_ldl_S _ _ _).lin _ _ _
      | exact (pm_lda_S _ _ _).lin _ _ _
      | exact (pm_sti_S _ _ _ _).lin _ _
      | exact (pm_stl_S _ _ _ _).lin _ _
      | exact (pm_sta_S _ _ _ _).lin _ _
      | exact pm_inc_lin _ _ _ _ _ _ _
      | exact (pm_ii_S _ _).lin _ _ _
      | exact (pm_iz_S _ _).lin _ _ _
      | exact (pm_i1_S _ _).lin _ _ _
      | exact (pm_l1_S _ _).lin _ _ _
      | exact (pm_ll_S _ _).lin _ _ _
      | exact (pm_lz_S _ _).lin _ _ _
      | exact pm_icmp_lin _ _ _ _ _ _
      | exact pm_ifc_lin _ _ _ _ _ _
      | exact pm_sw_lin _ _ _ _ _
      | exact (pm_dup_S _).lin _ _ _
      | exact (pm_dup2_S _).lin _ _ _
      | exact (pm_getf_S _ _ _ _ _).lin _ _ _
      | exact (pm_putf_S _ _ _ _ _).lin _ _
      | exact (pm_iald_S _ _ _).lin _ _ _
      | exact (pm_iast_S _ _).lin _ _
      | exact (pm_zald_S _ _).lin _ _ _
      | exact (pm_zast_S _ _).lin _ _
      | exact (pm_aald_S _ _).lin _ _ _
      | exact (pm_aast_S _ _).lin _ _
      | exact (pm_alen_S _ _ _).lin _ _ _
      | exact (pm_newa_S _ _ _).lin _ _
      | exact (pm_newm_S _ _).lin _ _
      | exact (pm_newo_S _ _ _).lin _ _
      | exact (pm_inv_S _ hc _ _ _ _ _).lin _ _
      | exact pm_ret_lin _ _ _
theorem pm_run_succ {call : Nat → List Value → pm_H → Option pm_R} (hc : ∀ a av σ r, call a av σ = some r → pm_le σ r.2) {old : Nat → Option (Nat × (Nat → Int32))} {M : pm_M} : ∀ (n pc : Nat) (ls : pm_L) (st : List Value) (σ : pm_H) (r : pm_R), pm_run call old M n pc ls st σ = some r → pm_run call old M (n + 1) pc ls st σ = some r ∧ pm_le σ r.2
  | 0, _, _, _, _, _, h => by cases h
  | n + 1, pc, ls, st, σ, r, h => by
    have h1 : pm_px call old (pm_run call old M n) M pc ls st σ = some r := h
    show pm_px call old (pm_run call old M (n + 1)) M pc ls st σ = some r ∧ _
    rcases pm_px_lin call hc old M pc ls st σ with g | ⟨r', g1, g⟩ | ⟨pc', ls', st', τ, g1, g⟩
    · have := g (pm_run call old M n)
      dsimp only at this
      rw [this] at h1; cases h1
    · have e1 := g (pm_run call old M n)
      dsimp only at e1
      rw [e1] at h1; cases h1
      exact ⟨g _, g1⟩
    · have e1 := g (pm_run call old M n)
      have e2 := g (pm_run call old M (n + 1))
      dsimp only at e1 e2
      rw [e1] at h1
      obtain ⟨a1, a2⟩ := pm_run_succ hc n pc' ls' st' τ r h1
      exact ⟨by rw [e2]; exact a1, g1.tr a2⟩
theorem pm_run_mono {call : Nat → List Value → pm_H → Option pm_R} (hc : ∀ a av σ r, call a av σ = some r → pm_le σ r.2) {old : Nat → Option (Nat × (Nat → Int32))} {M : pm_M} {n pc : Nat} {ls : pm_L} {st : List Value} {σ : pm_H} {r : pm_R} (h : pm_run call old M n pc ls st σ = some r) : ∀ k, pm_run call old M (n + k) pc ls st σ = some r
  | 0 => h
  | k + 1 => (pm_run_succ hc (n + k) pc ls st σ r (pm_run_mono hc h k)).1
/-- what a run answers, however long it takes -/
noncomputable def pm_ev (call : Nat → List Value → pm_H → Option pm_R) (old : Nat → Option (Nat × (Nat → Int32))) (M : pm_M) (pc : Nat) (ls : pm_L) (st : List Value) (σ : pm_H) : Option pm_R :=
  @dite _ (∃ n, (pm_run call old M n pc ls st σ).isSome = true) (Classical.propDecidable _) (fun h => pm_run call old M (Classical.choose h) pc ls st σ) (fun _ => none)
theorem pm_ev_run {call : Nat → List Value → pm_H → Option pm_R} {old : Nat → Option (Nat × (Nat → Int32))} {M : pm_M} {pc : Nat} {ls : pm_L} {st : List Value} {σ : pm_H} {r : pm_R} (h : pm_ev call old M pc ls st σ = some r) : ∃ n, pm_run call old M n pc ls st σ = some r := by
  unfold pm_ev at h
  split at h
  · exact ⟨_, h⟩
  · cases h
theorem pm_ev_of {call : Nat → List Value → pm_H → Option pm_R} (hc : ∀ a av σ r, call a av σ = some r → pm_le σ r.2) {old : Nat → Option (Nat × (Nat → Int32))} {M : pm_M} {n pc : Nat} {ls : pm_L} {st : List Value} {σ : pm_H} {r : pm_R} (h : pm_run call old M n pc ls st σ = some r) : pm_ev call old M pc ls st σ = some r := by
  have hx : ∃ n, (pm_run call old M n pc ls st σ).isSome = true := ⟨n, by rw [h]; rfl⟩
  unfold pm_ev
  rw [dif_pos hx]
  have h2 := Classical.choose_spec hx
  generalize Classical.choose hx = m at h2 ⊢
  obtain ⟨r2, h3⟩ := Option.isSome_iff_exists.mp h2
  have a1 := pm_run_mono hc h m
  have a2 := pm_run_mono hc h3 n
  rw [Nat.add_comm] at a2
  rw [h3]
  exact a2.symm.trans a1
theorem pm_ev_eq {call : Nat → List Value → pm_H → Option pm_R} (hc : ∀ a av σ r, call a av σ = some r → pm_le σ r.2) (old : Nat → Option (Nat × (Nat → Int32))) (M : pm_M) (pc : Nat) (ls : pm_L) (st : List Value) (σ : pm_H) : pm_ev call old M pc ls st σ = pm_px call old (pm_ev call old M) M pc ls st σ := by
  rcases pm_px_lin call hc old M pc ls st σ with g | ⟨r', g1, g⟩ | ⟨pc', ls', st', τ, g1, g⟩
  · have e1 := g (pm_ev call old M)
    dsimp only at e1
    rw [e1]
    cases h : pm_ev call old M pc ls st σ with
    | none => rfl
    | some r =>
      obtain ⟨n, hn⟩ := pm_ev_run h
      cases n with
      | zero => cases hn
      | succ n =>
        have := g (pm_run call old M n)
        dsimp only at this
        have h1 : pm_px call old (pm_run call old M n) M pc ls st σ = some r := hn
        rw [this] at h1; cases h1
  · have e1 := g (pm_ev call old M)
    dsimp only at e1
    rw [e1]
    exact pm_ev_of hc (n := 1) (g _)
  · have e1 := g (pm_ev call old M)
    dsimp only at e1
    rw [e1]
    cases h : pm_ev call old M pc' ls' st' τ with
    | some r =>
      obtain ⟨n, hn⟩ := pm_ev_run h
      have e2 := g (pm_run call old M n)
      dsimp only at e2
      exact pm_ev_of hc (n := n + 1) (e2.trans hn)
    | none =>
      cases h2 : pm_ev call old M pc ls st σ with
      | none => rfl
      | some r =>
        obtain ⟨n, hn⟩ := pm_ev_run h2
        cases n with
        | zero => cases hn
        | succ n =>
          have e2 := g (pm_run call old M n)
          dsimp only at e2
          have h1 : pm_px call old (pm_run call old M n) M pc ls st σ = some r := hn
          rw [e2] at h1
          rw [pm_ev_of hc h1] at h
          cases h
/-- a block: as many steps, but no step out of a place of S -/
noncomputable def pm_blk (call : Nat → List Value → pm_H → Option pm_R) (old : Nat → Option (Nat × (Nat → Int32))) (M : pm_M) (S : List Nat) : Nat → Nat → pm_L → List Value → pm_H → Option pm_R
  | 0, pc, ls, st, σ => pm_ev call old M pc ls st σ
  | n + 1, pc, ls, st, σ => pm_px call old (fun pc' ls' st' σ' => match pm_isL S pc' with
    | true => pm_ev call old M pc' ls' st' σ'
    | false => pm_blk call old M S n pc' ls' st' σ') M pc ls st σ
theorem pm_blk_eq {call : Nat → List Value → pm_H → Option pm_R} (hc : ∀ a av σ r, call a av σ = some r → pm_le σ r.2) (old : Nat → Option (Nat × (Nat → Int32))) (M : pm_M) (S : List Nat) : ∀ (n pc : Nat) (ls : pm_L) (st : List Value) (σ : pm_H), pm_ev call old M pc ls st σ = pm_blk call old M S n pc ls st σ
  | 0, _, _, _, _ => rfl
  | n + 1, pc, ls, st, σ => by
    rw [pm_ev_eq hc]
    show _ = pm_px call old _ M pc ls st σ
    congr 1
    funext pc' ls' st' σ'
    cases pm_isL S pc' with
    | true => rfl
    | false => exact pm_blk_eq hc old M S n pc' ls' st' σ'
