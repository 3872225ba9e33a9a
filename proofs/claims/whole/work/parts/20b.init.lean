section
def zO7 : va_E := .inr (7, [.null, .null, .null, .null, .null, .null, .null, .null, .null, .int 0, .int 0])
def zO8 : va_E := .inr (8, [.int 0, .int 0, .null, .null, .null, .null, .null, .null, .null, .int 0, .null, .int 0, .int 0, .int 0, .int 0, .int 0, .int 0, .int 0, .int 0, .null, .int 0, .int 0, .int 0, .int 0, .null, .null, .null, .null, .null, .int 0])
set_option maxRecDepth 1000000 in
theorem init_eggs (L : Nat) (xs : Nat → Int32) : pm_cf L xs 2 0 [.ref 0] [zO7] = some (none, zH1) := rfl
theorem zH1_eq : zH1 = (zL zI0 zA0 .null).take 64 := by
  have e : zE29 = zcell zI0 zA0 .null 29 := by
    have : (va_up (va_up (fun _ => none) 0 (some 30)) 1 (some 37)) = fun i => if i = 0 then some 30 else if i = 1 then some 37 else none := by
      funext i
      unfold va_up
      by_cases c : i = 1
      · subst c; rfl
      · by_cases c0 : i = 0
        · subst c0; rfl
        · simp [c, c0]
    unfold zE29
    rw [this]
    rfl
  unfold zH1
  rw [e]
  rfl
set_option maxRecDepth 1000000 in
theorem init_model (L : Nat) (xs : Nat → Int32) : pm_cf L xs 1 152 [.ref 64] ((zL zI0 zA0 .null).take 64 ++ [zO8]) = some (none, zL zI0 zA0 .null) := rfl
end
