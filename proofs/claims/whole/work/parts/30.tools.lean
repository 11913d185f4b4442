/-! tools for the functional texts -/
theorem gd_t {α : Type} {b : Bool} (h : b = true) (x : Option α) : gd b x = x := by unfold gd; rw [if_pos h]
theorem inb_nI {k n : Nat} (h : k < n) (hn : n ≤ 1000000) : inb (nI k) n = true := by
  unfold inb
  rw [nI_clamp (by omega)]
  simp only [Bool.and_eq_true, Bool.not_eq_true', decide_eq_false_iff_not, decide_eq_true_eq]
  exact ⟨nI_pos (by omega), h⟩
theorem gdn {α : Type} {k n : Nat} (h : k < n) (hn : n ≤ 1000000) (x : Option α) : gd (inb (nI k) n) x = x := gd_t (inb_nI h hn) x
theorem cl_nI {k : Nat} (h : k ≤ 1000000) : (nI k).toNatClampNeg = k := nI_clamp (by omega)
theorem le_nI {a b : Nat} (ha : a ≤ 1000000) (hb : b ≤ 1000000) : nI a ≤ nI b ↔ a ≤ b := nI_leI (by omega) (by omega)
theorem lt_nI {a b : Nat} (ha : a ≤ 1000000) (hb : b ≤ 1000000) : nI a < nI b ↔ a < b := nI_ltI (by omega) (by omega)
theorem eq_nI {a b : Nat} (ha : a ≤ 1000000) (hb : b ≤ 1000000) : nI a = nI b ↔ a = b := nI_eq (by omega) (by omega)
theorem bnd_e {α β : Type} (a : α) (f : α → Option β) : Option.bind (some a) f = f a := rfl
theorem bnd2_e {α β γ : Type} (a : α) (b : β) (f : α → β → Option γ) : bnd2 (some (a, b)) f = f a b := rfl
theorem bnd_id {α : Type} (a : Option α) : Option.bind a (fun x => some x) = a := by cases a <;> rfl
theorem bnd2_id {α β : Type} (a : Option (α × β)) : bnd2 a (fun x y => some (x, y)) = a := by cases a <;> rfl
theorem FU_ge : 100000 < FU := by unfold FU; omega
/-- a loop that counts up: its states by the count -/
theorem up_loop {α β : Type} {N : Nat} (L : Nat → α → Int32 → Option β) (s : Nat → α) (r : Option β) (hx : ∀ f, L (f + 1) (s N) (nI N) = r) (hs : ∀ f k, k < N → L (f + 1) (s k) (nI k) = L f (s (k + 1)) (nI (k + 1))) : ∀ m k fuel, k + m = N → m < fuel → L fuel (s k) (nI k) = r := by
  intro m
  induction m with
  | zero =>
    intro k fuel h1 h2
    obtain ⟨f, rfl⟩ : ∃ f, fuel = f + 1 := ⟨fuel - 1, by omega⟩
    have e : k = N := by omega
    subst e
    exact hx f
  | succ m ih =>
    intro k fuel h1 h2
    obtain ⟨f, rfl⟩ : ∃ f, fuel = f + 1 := ⟨fuel - 1, by omega⟩
    rw [hs f k (by omega)]
    exact ih (k + 1) f (by omega) (by omega)
theorem up_FU {α β : Type} {N : Nat} (hN : N ≤ 90000) (L : Nat → α → Int32 → Option β) (s : Nat → α) (r : Option β) (hx : ∀ f, L (f + 1) (s N) (nI N) = r) (hs : ∀ f k, k < N → L (f + 1) (s k) (nI k) = L f (s (k + 1)) (nI (k + 1))) : L FU (s 0) 0 = r :=
  up_loop L s r hx hs N 0 FU (by omega) (by have := FU_ge; omega)
/-- a loop that counts down from N - 1 to 0 -/
theorem dn_loop {α β : Type} (L : Nat → α → Int32 → Option β) (s : Nat → α) (r : Option β) (hx : ∀ f, L (f + 1) (s 0) (-1) = r) (N : Nat) (hs : ∀ f k, k < N → L (f + 1) (s (k + 1)) (nI k) = L f (s k) (nI k + (-1))) : ∀ k fuel, k ≤ N → k < fuel → L fuel (s k) (nI k + (-1)) = r := by
  intro k
  induction k with
  | zero =>
    intro fuel h1 h2
    obtain ⟨f, rfl⟩ : ∃ f, fuel = f + 1 := ⟨fuel - 1, by omega⟩
    exact hx f
  | succ k ih =>
    intro fuel h1 h2
    obtain ⟨f, rfl⟩ : ∃ f, fuel = f + 1 := ⟨fuel - 1, by omega⟩
    rw [pk_m1, hs f k (by omega)]
    exact ih f (by omega) (by omega)
def sm (g : Nat → Int32) : Nat → Int32
  | 0 => 0
  | n + 1 => sm g n + g n
theorem sm_congr {g h : Nat → Int32} : ∀ n, (∀ k, k < n → g k = h k) → sm g n = sm h n
  | 0, _ => rfl
  | n + 1, e => by rw [sm, sm, sm_congr n (fun k hk => e k (by omega)), e n (by omega)]
theorem up2_s (C : Mem) (k : Nat) (f : Nat → Int32) : up2 C k f k = f := if_pos rfl
theorem up2_n (C : Mem) {k j : Nat} (f : Nat → Int32) (h : j ≠ k) : up2 C k f j = C j := if_neg h
theorem upd_s (f : Nat → Int32) (k : Nat) (x : Int32) : upd f k x k = x := if_pos rfl
theorem upd_n (f : Nat → Int32) {k j : Nat} (x : Int32) (h : j ≠ k) : upd f k x j = f j := if_neg h
theorem st2_s (C : Mem) (k i : Nat) (v : Int32) : st2 C k i v k = upd (C k) i v := up2_s _ _ _
theorem st2_n (C : Mem) {k j : Nat} (i : Nat) (v : Int32) (h : j ≠ k) : st2 C k i v j = C j := up2_n _ _ h
/-! which numbers may be -/
theorem in_c (a b c : Int32) : f_X12_in a b c = true ↔ b ≤ a ∧ a ≤ c := by
  unfold f_X12_in
  by_cases h1 : a < b
  · rw [if_pos h1]
    exact ⟨fun h => (by cases h), fun h => absurd h1 (Int32.not_lt.mpr h.1)⟩
  · rw [if_neg h1]
    by_cases h2 : c < a
    · rw [if_pos h2]
      exact ⟨fun h => (by cases h), fun h => absurd h2 (Int32.not_lt.mpr h.2)⟩
    · rw [if_neg h2]
      exact ⟨fun _ => ⟨Int32.not_lt.mp h1, Int32.not_lt.mp h2⟩, fun _ => rfl⟩
theorem wi_in (a b : Int32) : f_X11_isWithin a b = f_X12_in a 0 b := rfl
theorem in_nI {a c : Int32} {n : Nat} (hc : c = nI n) (hn : n ≤ 1000000) (h : f_X12_in a 0 c = true) : ∃ j, j ≤ n ∧ a = nI j := by
  obtain ⟨h1, h2⟩ := (in_c a 0 c).mp h
  obtain ⟨j, hj, e⟩ := nI_of (x := a) (Int32.not_lt.mpr h1)
  subst e
  rw [hc] at h2
  exact ⟨j, (nI_leI hj (by omega)).mp h2, rfl⟩
theorem any_c (a : Int32) : f_X11_isPeopleOrAll a = f_X12_isAny a := by
  have key : f_X12_isAny a = true ↔ a = -1 ∨ f_X12_in a 0 3 = true := by
    unfold f_X12_isAny
    rw [in_c, in_c, Int32.le_iff_toInt_le, Int32.le_iff_toInt_le, Int32.le_iff_toInt_le, ← Int32.toInt_inj]
    simp only [show (-1 : Int32).toInt = -1 from by decide, show (3 : Int32).toInt = 3 from by decide, show (0 : Int32).toInt = 0 from by decide]
    omega
  unfold f_X11_isPeopleOrAll B_X11_isPeopleOrAll_12
  by_cases h : a = -1
  · rw [if_pos h]; exact (key.mpr (Or.inl h)).symm
  · rw [if_neg h]
    by_cases h2 : f_X11_isPeople a = true
    · rw [if_pos h2]; exact (key.mpr (Or.inr h2)).symm
    · rw [if_neg h2]
      cases h3 : f_X12_isAny a
      · rfl
      · exact absurd (key.mp h3) (fun z => z.elim h h2)
