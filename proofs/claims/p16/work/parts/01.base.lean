/-! small rows of my own -/
theorem ll_uu (f : Nat → Int32) (k : Nat) (x y : Int32) : upd (upd f k x) k y = upd f k y := by
  funext j
  by_cases h : j = k
  · rw [h, pk_us, pk_us]
  · rw [pk_un h, pk_un h, pk_un h]
theorem ll_ui (f : Nat → Int32) (k : Nat) (x : Int32) (h : f k = x) : upd f k x = f := by
  funext j
  by_cases e : j = k
  · rw [e, pk_us, h]
  · rw [pk_un e]
theorem ll_uc (f : Nat → Int32) {k m : Nat} (x y : Int32) (h : k ≠ m) : upd (upd f k x) m y = upd (upd f m y) k x := by
  funext j
  by_cases e : j = m
  · rw [e, pk_us, pk_un (fun q => h q.symm), pk_us]
  · by_cases e' : j = k
    · rw [e', pk_un h, pk_us, pk_us]
    · rw [pk_un e, pk_un e', pk_un e', pk_un e]
theorem ll_b1 : vp_nar .boolean 1 = 1 := rfl
theorem ll_b0 : vp_nar .boolean 0 = 0 := rfl
/-- an array of booleans -/
def ll_B (a : Nat → Int32) : Prop := ∀ j, a j = 0 ∨ a j = 1
theorem ll_B0 : ll_B (fun _ => 0) := fun _ => Or.inl rfl
theorem ll_Bu {a : Nat → Int32} (h : ll_B a) (k : Nat) {x : Int32} (hx : x = 0 ∨ x = 1) : ll_B (upd a k x) := by
  intro j
  by_cases e : j = k
  · rw [e, pk_us]; exact hx
  · rw [pk_un e]; exact h j
theorem ll_bn {x : Int32} (h : x = 0 ∨ x = 1) : vp_nar .boolean x = x := by
  rcases h with h | h
  · rw [h]; rfl
  · rw [h]; rfl
theorem ll_bnn {x : Int32} (h : x = 0 ∨ x = 1) : narrow .boolean (.int x) = .int x := by
  rcases h with h | h
  · rw [h]; rfl
  · rw [h]; rfl
theorem ll_m1 (n : Nat) (h : n < 2 ^ 31) : ¬ (-1 : Int32) = nI n := by
  intro e
  have h1 := congrArg Int32.toInt e
  rw [nI_toInt h, show (-1 : Int32).toInt = -1 from by decide] at h1
  omega
theorem ll_8 (n : Nat) : nI n * 8 = nI (n * 8) := pk_mul n 8
theorem ll_ix {x : Int32} {n : Nat} (h0 : ¬ x < 0) (h : ¬ nI n ≤ x) (hn : n < 2 ^ 31) : ∃ j : Nat, j < n ∧ x = nI j := by
  rcases pk_ix x hn with q | q | q
  · exact absurd q h0
  · exact absurd q h
  · exact q
