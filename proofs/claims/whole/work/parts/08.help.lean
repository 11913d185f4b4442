def bnd2 {α β γ : Type} (a : Option (α × β)) (f : α → β → Option γ) : Option γ := Option.bind a (fun q => f q.1 q.2)
theorem bnd2_s {α β γ : Type} {a : Option (α × β)} {f : α → β → Option γ} {r : γ} (h : bnd2 a f = some r) : ∃ x y, a = some (x, y) ∧ f x y = some r := by
  cases a with
  | none => cases h
  | some q => exact ⟨q.1, q.2, rfl, h⟩
theorem b2i_t {b : Bool} (h : ¬ b2i b = 0) : b = true := by cases b <;> first | rfl | exact absurd rfl h
theorem b2i_f {b : Bool} (h : b2i b = 0) : ¬ b = true := by
  intro q
  subst q
  exact absurd h (by decide)
theorem ret_v {x y : Mem} (h : some x = some y) : x = y := Option.some.inj h
theorem ret_p {α : Type} {x y : α} (h : some x = some y) : x = y := Option.some.inj h
theorem ret_e {α : Type} {x r : α} {C C9 : Mem} (h : some (x, C) = some (r, C9)) : x = r ∧ C = C9 := by cases h; exact ⟨rfl, rfl⟩
def jabsl (x : Int64) : Int64 := if 0 < x then x else -x
def cpok (sp dp n : Int32) (L : Nat) : Bool := decide (¬ sp < 0 ∧ ¬ dp < 0 ∧ ¬ n < 0 ∧ sp.toNatClampNeg + n.toNatClampNeg ≤ L ∧ dp.toNatClampNeg + n.toNatClampNeg ≤ L)
