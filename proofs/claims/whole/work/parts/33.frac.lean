/-! fractions in lowest terms -/
theorem lg0 (v : Int64) : lg_cmp v 0 = 0 ↔ v = 0 := by
  unfold lg_cmp
  by_cases h : v > 0
  · rw [if_pos h]
    exact ⟨fun q => absurd q (by decide), fun q => absurd h (by rw [q]; exact Int64.lt_irrefl)⟩
  · rw [if_neg h]
    by_cases h2 : v = 0
    · rw [if_pos h2]; exact ⟨fun _ => h2, fun _ => rfl⟩
    · rw [if_neg h2]
      exact ⟨fun q => absurd q (by decide), fun q => absurd q h2⟩
theorem lg0n : lg_cmp (lN 0) 0 = 0 := (lg0 _).mpr rfl
theorem lN0 {y : Nat} (hy : y < 2 ^ 63) : lN y = 0 ↔ y = 0 := by
  have := pk_lEQ (a := y) (b := 0) hy (by decide)
  exact this
theorem gcd_st (x y : Nat) : Nat.gcd x y = Nat.gcd y (x % y) := by
  rw [Nat.gcd_comm x y, Nat.gcd_rec y x, Nat.gcd_comm]
theorem half {k x y : Nat} (hy : y < 2 ^ (k + 1)) (h1 : ¬ x % y = 0) (h0 : ¬ y = 0) : y % (x % y) < 2 ^ k := by
  have hr : x % y < y := Nat.mod_lt _ (by omega)
  have h2 : y % (x % y) < x % y := Nat.mod_lt _ (by omega)
  have h3 : x % y + y % (x % y) ≤ y := by
    have := Nat.div_add_mod y (x % y)
    have h4 : 1 ≤ y / (x % y) := Nat.div_pos (Nat.le_of_lt hr) (by omega)
    have h5 : (x % y) * 1 ≤ (x % y) * (y / (x % y)) := Nat.mul_le_mul_left _ h4
    omega
  rw [Nat.pow_succ] at hy
  omega
theorem low_D (kx : Int64 → Option Int64) : ∀ k x y, x < 2 ^ 63 → y < 2 ^ k → k ≤ 63 → ∀ fuel, 2 * k + 1 ≤ fuel → L_X12_lowest_17 kx fuel (lN x) (lN y) = kx (lN (Nat.gcd x y)) := by
  intro k
  induction k with
  | zero =>
    intro x y hx hy hk fuel hf
    obtain ⟨f, rfl⟩ : ∃ f, fuel = f + 1 := ⟨fuel - 1, by omega⟩
    have e : y = 0 := by simpa using hy
    subst e
    rw [L_X12_lowest_17, if_pos lg0n, Nat.gcd_zero_right]
  | succ k ih =>
    intro x y hx hy hk fuel hf
    have hy63 : y < 2 ^ 63 := Nat.lt_of_lt_of_le hy (Nat.pow_le_pow_right (by decide) hk)
    obtain ⟨f, rfl⟩ : ∃ f, fuel = f + 1 := ⟨fuel - 1, by omega⟩
    rw [L_X12_lowest_17]
    by_cases h0 : y = 0
    · subst h0
      rw [if_pos lg0n, Nat.gcd_zero_right]
    · have h0' : ¬ lN y = 0 := fun q => h0 ((lN0 hy63).mp q)
      rw [if_neg (fun q => h0' ((lg0 _).mp q)), gd_t (decide_eq_true h0')]
      simp only [lt_]
      rw [pk_lRem hx (by omega) hy63]
      obtain ⟨f, rfl⟩ : ∃ f', f = f' + 1 := ⟨f - 1, by omega⟩
      have hr63 : x % y < 2 ^ 63 := Nat.lt_trans (Nat.mod_lt _ (by omega)) hy63
      rw [L_X12_lowest_17]
      by_cases h1 : x % y = 0
      · rw [h1, if_pos lg0n, gcd_st x y, h1, Nat.gcd_zero_right]
      · have h1' : ¬ lN (x % y) = 0 := fun q => h1 ((lN0 hr63).mp q)
        rw [if_neg (fun q => h1' ((lg0 _).mp q)), gd_t (decide_eq_true h1')]
        simp only [lt_]
        rw [pk_lRem hy63 (by omega) hr63, ih _ _ hr63 (half hy h1 h0) (by omega) f (by omega), gcd_st x y, gcd_st y (x % y)]
theorem low_C (kx : Int64 → Option Int64) : ∀ k x y, x < 2 ^ 63 → y < 2 ^ k → k ≤ 63 → ∀ fuel st, 2 * k + 1 ≤ fuel → st + 2 * k + 1 ≤ 200 → L_X11_greatestDivisor_9 kx fuel (lN x) (lN y) (nI st) = kx (lN (Nat.gcd x y)) := by
  intro k
  induction k with
  | zero =>
    intro x y hx hy hk fuel st hf hs
    obtain ⟨f, rfl⟩ : ∃ f, fuel = f + 1 := ⟨fuel - 1, by omega⟩
    have e : y = 0 := by simpa using hy
    subst e
    rw [L_X11_greatestDivisor_9, if_neg (by rw [show (200 : Int32) = nI 200 from rfl, le_nI (by omega) (by omega)]; omega), if_pos lg0n, Nat.gcd_zero_right]
  | succ k ih =>
    intro x y hx hy hk fuel st hf hs
    have hy63 : y < 2 ^ 63 := Nat.lt_of_lt_of_le hy (Nat.pow_le_pow_right (by decide) hk)
    obtain ⟨f, rfl⟩ : ∃ f, fuel = f + 1 := ⟨fuel - 1, by omega⟩
    rw [L_X11_greatestDivisor_9, if_neg (by rw [show (200 : Int32) = nI 200 from rfl, le_nI (by omega) (by omega)]; omega)]
    by_cases h0 : y = 0
    · subst h0
      rw [if_pos lg0n, Nat.gcd_zero_right]
    · have h0' : ¬ lN y = 0 := fun q => h0 ((lN0 hy63).mp q)
      rw [if_neg (fun q => h0' ((lg0 _).mp q)), gd_t (decide_eq_true h0')]
      simp only [lt_]
      rw [pk_lRem hx (by omega) hy63, nI_1]
      obtain ⟨f, rfl⟩ : ∃ f', f = f' + 1 := ⟨f - 1, by omega⟩
      have hr63 : x % y < 2 ^ 63 := Nat.lt_trans (Nat.mod_lt _ (by omega)) hy63
      rw [L_X11_greatestDivisor_9, if_neg (by rw [show (200 : Int32) = nI 200 from rfl, le_nI (by omega) (by omega)]; omega)]
      by_cases h1 : x % y = 0
      · rw [h1, if_pos lg0n, gcd_st x y, h1, Nat.gcd_zero_right]
      · have h1' : ¬ lN (x % y) = 0 := fun q => h1 ((lN0 hr63).mp q)
        rw [if_neg (fun q => h1' ((lg0 _).mp q)), gd_t (decide_eq_true h1')]
        simp only [lt_]
        rw [pk_lRem hy63 (by omega) hr63, nI_1, ih _ _ hr63 (half hy h1 h0) (by omega) f _ (by omega) (by omega), gcd_st x y, gcd_st y (x % y)]
theorem lg_ge (a : Int64) : 0 ≤ lg_cmp a 0 ↔ ¬ a < 0 := by
  unfold lg_cmp
  by_cases h : a > 0
  · rw [if_pos h]
    exact ⟨fun _ => Int64.not_lt.mpr (Int64.le_of_lt h), fun _ => by decide⟩
  · rw [if_neg h]
    by_cases h2 : a = 0
    · rw [if_pos h2]
      exact ⟨fun _ => by rw [h2]; exact Int64.lt_irrefl, fun _ => by decide⟩
    · rw [if_neg h2]
      refine ⟨fun q => absurd q (by decide), fun q => ?_⟩
      exact absurd (Int64.le_antisymm (Int64.not_lt.mp h) (Int64.not_lt.mp q)) h2
theorem abs_l (a : Int64) : (if 0 ≤ lg_cmp a 0 then a else -a) = jabsl a := by
  unfold jabsl
  by_cases h : 0 < a
  · rw [if_pos h, if_pos ((lg_ge a).mpr (Int64.not_lt.mpr (Int64.le_of_lt h)))]
  · rw [if_neg h]
    by_cases h2 : a = 0
    · subst h2; decide
    · have h3 : a < 0 := Int64.not_le.mp (fun q => h2 (Int64.le_antisymm (Int64.not_lt.mp h) q))
      rw [if_neg (fun q => (lg_ge a).mp q h3)]
theorem abs_ln {a : Int64} (ha : -9223372036854775808 < a.toInt) : ∃ x, x < 2 ^ 63 ∧ jabsl a = lN x := by
  refine (pk_lOf ?_).imp (fun k h => ⟨h.1, h.2⟩)
  unfold jabsl
  by_cases h : 0 < a
  · rw [if_pos h]; exact Int64.not_lt.mpr (Int64.le_of_lt h)
  · rw [if_neg h]
    have h1 := a.le_toInt
    have h2 := a.toInt_lt
    have e : (0 : Int64).toInt = 0 := by decide
    rw [Int64.lt_iff_toInt_lt, e] at h
    rw [Int64.not_lt, Int64.le_iff_toInt_le, Int64.toInt_neg, Int.bmod_eq_of_le (by omega) (by omega), e]
    omega
/-- both ways to tell a fraction answer alike -/
theorem fr_eq (a b : Int64) (w : Int32) (ha : -9223372036854775808 < a.toInt) (hb : 0 < b) : ∃ r, f_X11_fraction a b w = some r ∧ f_X12_lowest a b w = some r := by
  obtain ⟨x, hx, ex⟩ := abs_ln ha
  obtain ⟨y, hy, rfl⟩ := pk_lOf (x := b) (Int64.not_lt.mpr (Int64.le_of_lt hb))
  have hy0 : 0 < y := by
    rcases Nat.eq_zero_or_pos y with h | h
    · subst h; exact absurd hb (by decide)
    · exact h
  have hg : ¬ lN (Nat.gcd x y) = 0 := fun q => by
    have h1 := Nat.gcd_le_right x hy0
    have h2 := (lN0 (Nat.lt_of_le_of_lt h1 hy)).mp q
    have h3 := Nat.gcd_pos_of_pos_right x hy0
    omega
  have hF := FU_ge
  refine ⟨if w = 0 then a / lN (Nat.gcd x y) else lN y / lN (Nat.gcd x y), ?_, ?_⟩
  · unfold f_X11_fraction f_X11_greatestDivisor
    have hC := low_C (fun v => some v) 63 x y hx hy (by omega) FU 0 (by omega) (by omega)
    rw [show nI 0 = (0 : Int32) from rfl] at hC
    rw [ex, hC, bnd_e, if_neg (fun q => hg ((lg0 _).mp q)), gd_t (decide_eq_true hg), gd_t (decide_eq_true hg)]
    split <;> rfl
  · have e : f_X12_lowest a (lN y) w = B_X12_lowest_12 (if 0 ≤ lg_cmp a 0 then a else -a) a (lN y) w := by
      unfold f_X12_lowest
      split <;> rfl
    rw [e, abs_l, ex]
    unfold B_X12_lowest_12
    rw [low_D _ 63 x y hx hy (by omega) FU (by omega), gd_t (decide_eq_true hg), gd_t (decide_eq_true hg)]
    split <;> rfl
theorem i2l_lo (x : Int32) : -9223372036854775808 < x.toInt64.toInt := by
  rw [Int32.toInt_toInt64]
  have := x.toInt_lt
  have := x.le_toInt
  omega
theorem i2l_pos {n : Nat} (h0 : 0 < n) (hn : n ≤ 1000000) : 0 < (nI n).toInt64 := by
  rw [nI_l (by omega), Int64.lt_iff_toInt_lt, lN_toInt (by omega)]
  have e : (0 : Int64).toInt = 0 := by decide
  omega
