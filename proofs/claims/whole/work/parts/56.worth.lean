/-! what an end is worth to a player -/
def fx (C : Mem) (e c : Nat) : Nat := (C 27 (3 * e + c)).toNatClampNeg
def wN (x : Nat → Nat) (p : Nat) (v : Int32) : Int32 := 4 * nI (x p) - v * (nI (max (x 0) (max (x 1) (x 2))) - nI (x p))
theorem jmax_nI {a b : Nat} (ha : a ≤ 1000) (hb : b ≤ 1000) : jmax (nI a) (nI b) = nI (max a b) := by
  unfold jmax
  by_cases h : a < b
  · rw [if_pos ((lt_nI (by omega) (by omega)).mpr h), Nat.max_eq_right (by omega)]
  · rw [if_neg (by rw [lt_nI (by omega) (by omega)]; exact h), Nat.max_eq_left (by omega)]
theorem ite_nI {a b : Nat} (ha : a ≤ 1000) (hb : b ≤ 1000) : (if nI b ≤ nI a then nI a else nI b) = nI (max a b) := by
  by_cases h : b ≤ a
  · rw [if_pos ((le_nI (by omega) (by omega)).mpr h), Nat.max_eq_left h]
  · rw [if_neg (by rw [le_nI (by omega) (by omega)]; exact h), Nat.max_eq_right (by omega)]
theorem ix3e (e c : Nat) : nI e * 3 + nI c = nI (3 * e + c) := ix3_c e c
theorem worth_C {C : Mem} {j e p : Nat} {x : Nat → Nat} (hj : j < 60) (h29 : C 29 j = nI e) (he : e < 60) (hp : p < 3) (hx : ∀ c, c < 3 → x c ≤ 9 ∧ C 27 (3 * e + c) = nI (x c)) (v : Int32) : f_X2_worth (nI j) (nI p) v C = some (wN x p v) := by
  obtain ⟨F, eF⟩ : ∃ F, FU = F + 4 := ⟨FU - 4, by have := FU_ge; omega⟩
  have st : ∀ (kx : Int32 → Option Int32) (f c m : Nat), c < 3 → m ≤ 9 → L_X2_worth_28 (nI e * 3) C kx (f + 1) (nI m) (nI c) = L_X2_worth_28 (nI e * 3) C kx f (nI (max m (x c))) (nI (c + 1)) := by
    intro kx f c m hc hm
    rw [L_X2_worth_28, if_neg (show ¬ (3 : Int32) ≤ nI c from fun q => by have := (le_nI (a := 3) (by decide) (by omega)).mp q; omega), ix3e, gdn (by omega) (by decide), cl_nI (by omega), (hx c hc).2, lt_e, lt_e, nI_1, jmax_nI (by omega) (by have := (hx c hc).1; omega)]
  unfold f_X2_worth
  rw [gdn hj (by decide), cl_nI (show j ≤ 1000000 by omega), h29, lt_e, ix3e, gdn (by omega) (by decide), cl_nI (by omega), (hx p hp).2, lt_e, eF, show (0 : Int32) = nI 0 from rfl]
  have h0 := (hx 0 (by decide)).1
  have h1 := (hx 1 (by decide)).1
  have h2 := (hx 2 (by decide)).1
  have h3 := (hx p hp).1
  rw [st _ _ 0 _ (by decide) (by omega), st _ _ 1 _ (by decide) (by omega), st _ _ 2 _ (by decide) (by omega), L_X2_worth_28, if_pos (show (3 : Int32) ≤ nI (2 + 1) by decide)]
  unfold wN
  have hm : max (max (max (x p) (x 0)) (x 1)) (x 2) = max (x 0) (max (x 1) (x 2)) := by
    rcases (show p = 0 ∨ p = 1 ∨ p = 2 by omega) with z | z | z <;> subst z <;> omega
  rw [hm]
theorem worth_D {D : Mem} {e p : Nat} {x : Nat → Nat} (he : e < 60) (hp : p < 3) (hx : ∀ c, c < 3 → x c ≤ 9 ∧ D 18 (3 * e + c) = nI (x c)) (v : Int32) : f_X12_worth (nI e) (nI p) v D = some (wN x p v) := by
  obtain ⟨F, eF⟩ : ∃ F, FU = F + 4 := ⟨FU - 4, by have := FU_ge; omega⟩
  have st : ∀ (kx : Int32 → Option Int32) (f c m : Nat), c < 3 → m ≤ 9 → L_X12_worth_18 (nI e) (nI p) D kx (f + 1) (nI m) (nI c) = L_X12_worth_18 (nI e) (nI p) D kx f (nI (if c = p then m else max m (x c))) (nI (c + 1)) := by
    intro kx f c m hc hm
    rw [L_X12_worth_18, if_neg (show ¬ (3 : Int32) ≤ nI c from fun q => by have := (le_nI (a := 3) (by decide) (by omega)).mp q; omega), ix3_d, gdn (by omega) (by decide), gdn (by omega) (by decide), cl_nI (by omega), (hx c hc).2]
    unfold B_X12_worth_60 B_X12_worth_62
    rw [lt_e, lt_e, nI_1]
    by_cases q : c = p
    · rw [if_pos (show nI c = nI p by rw [q]), if_pos q]
    · rw [if_neg (fun z => q ((eq_nI (by omega) (by omega)).mp z)), if_neg q, ← ite_nI (by omega) (by have := (hx c hc).1; omega)]
      split <;> rfl
  unfold f_X12_worth
  rw [ix3_d, gdn (by omega) (by decide), cl_nI (by omega), (hx p hp).2, lt_e, eF]
  show L_X12_worth_18 (nI e) (nI p) D _ (F + 4) (nI 0) (nI 0) = _
  have h0 := (hx 0 (by decide)).1
  have h1 := (hx 1 (by decide)).1
  have h2 := (hx 2 (by decide)).1
  have h3 := (hx p hp).1
  rw [st _ _ 0 _ (by decide) (by omega), st _ _ 1 _ (by decide) (by split <;> omega), st _ _ 2 _ (by decide) (by split <;> split <;> omega), L_X12_worth_18, if_pos (show (3 : Int32) ≤ nI (2 + 1) by decide)]
  unfold wN
  generalize hm : (if 2 = p then (if 1 = p then (if 0 = p then 0 else max 0 (x 0)) else max (if 0 = p then 0 else max 0 (x 0)) (x 1)) else max (if 1 = p then (if 0 = p then 0 else max 0 (x 0)) else max (if 0 = p then 0 else max 0 (x 0)) (x 1)) (x 2)) = m
  have key : m ≤ 9 ∧ max (x p) m = max (x 0) (max (x 1) (x 2)) := by
    rcases (show p = 0 ∨ p = 1 ∨ p = 2 by omega) with z | z | z <;> subst z <;> simp at hm <;> omega
  rw [← key.2]
  by_cases q : m ≤ x p
  · rw [if_pos ((le_nI (by omega) (by omega)).mpr q), Nat.max_eq_left q, pk_sub (Nat.le_refl _), Nat.sub_self, show nI 0 = (0 : Int32) from rfl, Int32.mul_zero]
  · rw [if_neg (by rw [le_nI (by omega) (by omega)]; exact q), Nat.max_eq_right (by omega)]
