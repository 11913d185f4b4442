/-! rounds -/
theorem clamp_eq (x : Int32) : jmax 0 (jmin 10 x) = (if 0 ≤ x then (if x ≤ 10 then x else 10) else 0) := by
  have e0 : (0 : Int32).toInt = 0 := by decide
  have e10 : (10 : Int32).toInt = 10 := by decide
  unfold jmax jmin
  by_cases h1 : x < 10
  · rw [if_pos h1]
    by_cases h2 : 0 < x
    · rw [if_pos h2, if_pos (Int32.le_of_lt h2), if_pos (Int32.le_of_lt h1)]
    · rw [if_neg h2]
      by_cases h3 : 0 ≤ x
      · rw [if_pos h3, if_pos (Int32.le_of_lt h1)]
        exact (Int32.le_antisymm (Int32.not_lt.mp h2) h3).symm
      · rw [if_neg h3]
  · rw [if_neg h1, if_pos (show (0 : Int32) < 10 by decide), if_pos (Int32.le_trans (show (0 : Int32) ≤ 10 by decide) (Int32.not_lt.mp h1))]
    by_cases h2 : x ≤ 10
    · rw [if_pos h2]; exact (Int32.le_antisymm h2 (Int32.not_lt.mp h1)).symm
    · rw [if_neg h2]
def due (D : Mem) (u d : Int32) (k : Nat) : Int32 := jmax 0 (jmin 10 (if D 25 k = 0 then D 24 k + u else D 24 k - d))
def mS (D : Mem) (u d : Int32) (k : Nat) : Int32 := jabs (D 24 (k + 1) - due D u d k)
def mis (D : Mem) (n : Nat) (u d : Int32) : Int32 := sm (mS D u d) (n - 1)
theorem misses_D {n : Nat} {D : Mem} (hn : n ≤ 24) (h0 : D 0 32 = nI n) (u d : Int32) : f_X12_missesOf u d D = some (mis D n u d) := by
  unfold f_X12_missesOf
  refine up_FU (N := n - 1) (by omega) (fun f a i => L_X12_missesOf_5 u d D (fun v => some v) f a i) (sm (mS D u d)) _ (fun f => ?_) (fun f k hk => ?_)
  · show L_X12_missesOf_5 u d D _ (f + 1) _ (nI (n - 1)) = _
    rw [L_X12_missesOf_5, h0, nI_1, if_pos (by rw [le_nI (by omega) (by omega)]; omega)]
    rfl
  · show L_X12_missesOf_5 u d D _ (f + 1) _ (nI k) = L_X12_missesOf_5 u d D _ f _ (nI (k + 1))
    rw [L_X12_missesOf_5, h0, nI_1, if_neg (by rw [le_nI (by omega) (by omega)]; omega)]
    unfold B_X12_missesOf_47 B_X12_missesOf_72
    simp only [gdn (show k < 24 by omega) (show 24 ≤ 1000000 by decide), cl_nI (show k ≤ 1000000 by omega), nI_1, gdn (show k + 1 < 24 by omega) (show 24 ≤ 1000000 by decide), cl_nI (show k + 1 ≤ 1000000 by omega), lt_, am_abs, sm, mS, due, clamp_eq]
    by_cases h : D 25 k = 0
    · simp only [if_pos h]
      split
      · split <;> rfl
      · rfl
    · simp only [if_neg h]
      split
      · split <;> rfl
      · rfl
theorem misses_C {n : Nat} {C D : Mem} (hn : n ≤ 24) (h0 : C 40 2 = nI n) (hp : ∀ k, k < n → C 41 k = D 24 k ∧ C 42 k = D 25 k ∧ (∃ j, j ≤ 10 ∧ D 24 k = nI j) ∧ (D 25 k = 0 ∨ D 25 k = 1)) (u d : Int32) : f_X5_missesOf u d C = some (mis D n u d) := by
  unfold f_X5_missesOf
  refine up_FU (N := n - 1) (by omega) (fun f a i => L_X5_missesOf_5 u d C (fun v => some v) f a (i + 1)) (sm (mS D u d)) _ (fun f => ?_) (fun f k hk => ?_)
  · show L_X5_missesOf_5 u d C _ (f + 1) _ (nI (n - 1) + 1) = _
    rw [L_X5_missesOf_5, h0, nI_1, if_pos (by rw [le_nI (by omega) (by omega)]; omega)]
    rfl
  · show L_X5_missesOf_5 u d C _ (f + 1) _ (nI k + 1) = L_X5_missesOf_5 u d C _ f _ (nI (k + 1) + 1)
    rw [L_X5_missesOf_5, h0, nI_1, if_neg (by rw [le_nI (by omega) (by omega)]; omega), nI_1]
    have e1 : nI (k + 1) - 1 = nI k := nI_pred k
    unfold B_X5_missesOf_33
    simp only [e1, gdn (show k < 24 by omega) (show 24 ≤ 1000000 by decide), cl_nI (show k ≤ 1000000 by omega), nI_1, gdn (show k + 1 < 24 by omega) (show 24 ≤ 1000000 by decide), cl_nI (show k + 1 ≤ 1000000 by omega), lt_, sm, mS, due, (hp k (by omega)).1, (hp k (by omega)).2.1, (hp (k + 1) (by omega)).1]
    rcases (hp k (by omega)).2.2.2 with h | h
    · rw [if_pos h, if_neg (by rw [h]; decide)]
    · rw [if_neg (c := D 25 k = 0) (by rw [h]; decide), if_pos h, Int32.sub_eq_add_neg (D 24 k) d]
def gG (D : Mem) (k : Nat) : Int32 := if D 25 k = 1 then 10 - D 24 k else 0
theorem got_D {n : Nat} {D : Mem} (hn : n ≤ 24) (h0 : D 0 32 = nI n) : f_X12_gotNow D = some (sm (gG D) n) := by
  unfold f_X12_gotNow
  refine up_FU (N := n) (by omega) (fun f a i => L_X12_gotNow_4 D (fun v => some v) f a i) (sm (gG D)) _ (fun f => ?_) (fun f k hk => ?_)
  · show L_X12_gotNow_4 D _ (f + 1) _ (nI n) = _
    rw [L_X12_gotNow_4, h0, if_pos (Int32.le_refl _)]
  · show L_X12_gotNow_4 D _ (f + 1) _ (nI k) = L_X12_gotNow_4 D _ f _ (nI (k + 1))
    rw [L_X12_gotNow_4, h0, if_neg (by rw [le_nI (by omega) (by omega)]; omega)]
    unfold B_X12_gotNow_36
    simp only [gdn (show k < 24 by omega) (show 24 ≤ 1000000 by decide), cl_nI (show k ≤ 1000000 by omega), nI_1, lt_, sm, gG]
    split <;> rfl
theorem got_C {n : Nat} {C D : Mem} (hn : n ≤ 24) (h0 : C 40 2 = nI n) (hp : ∀ k, k < n → C 41 k = D 24 k ∧ C 42 k = D 25 k ∧ (∃ j, j ≤ 10 ∧ D 24 k = nI j) ∧ (D 25 k = 0 ∨ D 25 k = 1)) : f_X5_got C = some (sm (gG D) n) := by
  unfold f_X5_got
  refine up_FU (N := n) (by omega) (fun f a i => L_X5_got_4 C (fun v => some v) f a i) (sm (gG D)) _ (fun f => ?_) (fun f k hk => ?_)
  · show L_X5_got_4 C _ (f + 1) _ (nI n) = _
    rw [L_X5_got_4, h0, if_pos (Int32.le_refl _)]
  · show L_X5_got_4 C _ (f + 1) _ (nI k) = L_X5_got_4 C _ f _ (nI (k + 1))
    rw [L_X5_got_4, h0, if_neg (by rw [le_nI (by omega) (by omega)]; omega)]
    simp only [gdn (show k < 24 by omega) (show 24 ≤ 1000000 by decide), cl_nI (show k ≤ 1000000 by omega), nI_1, lt_, sm, gG, (hp k hk).1, (hp k hk).2.1]
    rcases (hp k hk).2.2.2 with h | h
    · rw [h, if_neg (by decide), Int32.zero_mul]
    · rw [h, if_pos rfl, Int32.one_mul]
def tU (D : Mem) (o : Int32) (k : Nat) : Bool := decide (D 25 k = 1) && !(decide (o < D 24 k))
def cU (D : Mem) (n : Nat) (o : Nat) : Int32 := (10 - nI o) * nI (ctn (tU D (nI o)) n)
theorem taken_C {n : Nat} {C D : Mem} (hn : n ≤ 24) (h0 : C 40 2 = nI n) (hp : ∀ k, k < n → C 41 k = D 24 k ∧ C 42 k = D 25 k ∧ (∃ j, j ≤ 10 ∧ D 24 k = nI j) ∧ (D 25 k = 0 ∨ D 25 k = 1)) (o : Int32) : f_X5_takenUpTo o C = some (nI (ctn (tU D o) n)) := by
  unfold f_X5_takenUpTo
  refine up_FU (N := n) (by omega) (fun f a i => L_X5_takenUpTo_4 o C (fun v => some v) f a i) (fun k => nI (ctn (tU D o) k)) _ (fun f => ?_) (fun f k hk => ?_)
  · show L_X5_takenUpTo_4 o C _ (f + 1) _ (nI n) = _
    rw [L_X5_takenUpTo_4, h0, if_pos (Int32.le_refl _)]
  · show L_X5_takenUpTo_4 o C _ (f + 1) _ (nI k) = L_X5_takenUpTo_4 o C _ f _ (nI (k + 1))
    rw [L_X5_takenUpTo_4, h0, if_neg (by rw [le_nI (by omega) (by omega)]; omega)]
    unfold B_X5_takenUpTo_33
    simp only [gdn (show k < 24 by omega) (show 24 ≤ 1000000 by decide), cl_nI (show k ≤ 1000000 by omega), nI_1, lt_, ctn, tU, (hp k hk).1, (hp k hk).2.1]
    by_cases h1 : o < D 24 k
    · simp [h1]
    · rcases (hp k hk).2.2.2 with h | h
      · simp [h1, h]
      · simp [h1, h, nI_1]
theorem could_in {n : Nat} {D : Mem} (hn : n ≤ 24) (h0 : D 0 32 = nI n) (o : Nat) (kx : Int32 → Option Int32) : L_X12_couldNow_15 (nI o) D kx FU 0 0 = kx (cU D n o) := by
  have h9 := up_FU (N := n) (by omega) (fun f a i => L_X12_couldNow_15 (nI o) D kx f a i) (fun k => (10 - nI o) * nI (ctn (tU D (nI o)) k)) (kx (cU D n o)) (fun f => ?_) (fun f k hk => ?_)
  · simp only [ctn] at h9
    rw [show nI 0 = (0 : Int32) from rfl, Int32.mul_zero] at h9
    exact h9
  · show L_X12_couldNow_15 (nI o) D _ (f + 1) _ (nI n) = _
    rw [L_X12_couldNow_15, h0, if_pos (Int32.le_refl _)]
    rfl
  · show L_X12_couldNow_15 (nI o) D _ (f + 1) _ (nI k) = L_X12_couldNow_15 (nI o) D _ f _ (nI (k + 1))
    rw [L_X12_couldNow_15, h0, if_neg (by rw [le_nI (by omega) (by omega)]; omega)]
    unfold B_X12_couldNow_54 B_X12_couldNow_55
    simp only [gdn (show k < 24 by omega) (show 24 ≤ 1000000 by decide), cl_nI (show k ≤ 1000000 by omega), nI_1, lt_, ctn, tU]
    by_cases h : D 25 k = 1
    · by_cases h1 : nI o < D 24 k
      · simp [h, h1]
      · simp [h, h1]
        rw [← nI_1 (ctn (tU D (nI o)) k), Int32.mul_add, Int32.mul_one]
    · simp [h]
theorem could_D {n : Nat} {D : Mem} (hn : n ≤ 24) (h0 : D 0 32 = nI n) : ∃ r, f_X12_couldNow D = some r ∧ ∀ C, C 40 2 = nI n → (∀ k, k < n → C 41 k = D 24 k ∧ C 42 k = D 25 k ∧ (∃ j, j ≤ 10 ∧ D 24 k = nI j) ∧ (D 25 k = 0 ∨ D 25 k = 1)) → f_X5_could C = some r := by
  obtain ⟨s, hs0, hs⟩ : ∃ s : Nat → Int32, s 0 = 0 ∧ ∀ k, s (k + 1) = if cU D n k ≤ s k then s k else cU D n k := ⟨fun k => Nat.rec 0 (fun k v => if cU D n k ≤ v then v else cU D n k) k, rfl, fun _ => rfl⟩
  refine ⟨s 11, ?_, fun C c0 hp => ?_⟩
  · unfold f_X12_couldNow
    have h9 := up_FU (N := 11) (by decide) (fun f a i => L_X12_couldNow_4 D (fun v => some v) f a i) s (some (s 11)) (fun f => ?_) (fun f k hk => ?_)
    · rw [hs0] at h9; exact h9
    · show L_X12_couldNow_4 D _ (f + 1) _ (nI 11) = _
      rw [L_X12_couldNow_4, if_pos (show (11 : Int32) ≤ nI 11 from Int32.le_refl _)]
    · show L_X12_couldNow_4 D _ (f + 1) _ (nI k) = L_X12_couldNow_4 D _ f _ (nI (k + 1))
      rw [L_X12_couldNow_4, if_neg (show ¬ (11 : Int32) ≤ nI k from fun q => by have := (le_nI (a := 11) (by decide) (by omega)).mp q; omega), could_in hn h0, hs k]
      unfold B_X12_couldNow_73 lt_
      rw [nI_1]
      split <;> rfl
  · unfold f_X5_could
    have h9 := up_FU (N := 11) (by decide) (fun f a i => L_X5_could_4 C (fun v => some v) f a i) s (some (s 11)) (fun f => ?_) (fun f k hk => ?_)
    · rw [hs0] at h9; exact h9
    · show L_X5_could_4 C _ (f + 1) _ (nI 11) = _
      rw [L_X5_could_4, if_pos (show (11 : Int32) ≤ nI 11 from Int32.le_refl _)]
    · show L_X5_could_4 C _ (f + 1) _ (nI k) = L_X5_could_4 C _ f _ (nI (k + 1))
      rw [L_X5_could_4, if_neg (show ¬ (11 : Int32) ≤ nI k from fun q => by have := (le_nI (a := 11) (by decide) (by omega)).mp q; omega), taken_C hn c0 hp, bnd_e, hs k]
      simp only [lt_, nI_1]
      show L_X5_could_4 C _ f (jmax (s k) (cU D n k)) _ = _
      congr 1
      unfold jmax
      by_cases h : cU D n k ≤ s k
      · rw [if_pos h, if_neg (Int32.not_lt.mpr h)]
      · rw [if_neg h, if_pos (Int32.not_le.mp h)]
/-! the law by which somebody learns -/
def mm (D : Mem) (n l : Nat) : Int32 := mis D n (nI (l / 5)) (nI (l % 5))
def bl (D : Mem) (n : Nat) : Nat → Nat
  | 0 => 0
  | l + 1 => if mm D n (bl D n l) ≤ mm D n l then bl D n l else l
theorem bl_1 (D : Mem) (n : Nat) : bl D n 1 = 0 := by
  unfold bl
  split <;> rfl
theorem bl_lt (D : Mem) (n : Nat) : ∀ l, bl D n l < l + 1
  | 0 => Nat.zero_lt_one
  | l + 1 => by
    have := bl_lt D n l
    unfold bl
    split <;> omega
theorem learn_D {n : Nat} {D : Mem} (hn : n ≤ 24) (h0 : D 0 32 = nI n) (kx : Int32 → Int32 → Option Int32) : L_X12_learntNow_45 D kx FU 0 (mm D n 0) 1 = kx (nI (bl D n 25)) (mm D n (bl D n 25)) := by
  have hF := FU_ge
  have h9 := up_loop (N := 25) (fun f (a : Int32 × Int32) i => L_X12_learntNow_45 D kx f a.1 a.2 i) (fun l => (nI (bl D n l), mm D n (bl D n l))) (kx (nI (bl D n 25)) (mm D n (bl D n 25))) (fun f => ?_) (fun f l hl => ?_) 24 1 FU rfl (by omega)
  · simp only [bl_1] at h9
    exact h9
  · show L_X12_learntNow_45 D kx (f + 1) _ _ (nI 25) = _
    rw [L_X12_learntNow_45, if_pos (show (25 : Int32) ≤ nI 25 from Int32.le_refl _)]
  · show L_X12_learntNow_45 D kx (f + 1) (nI (bl D n l)) (mm D n (bl D n l)) (nI l) = L_X12_learntNow_45 D kx f (nI (bl D n (l + 1))) (mm D n (bl D n (l + 1))) (nI (l + 1))
    rw [L_X12_learntNow_45, if_neg (show ¬ (25 : Int32) ≤ nI l from fun q => by have := (le_nI (a := 25) (by decide) (by omega)).mp q; omega), show (5 : Int32) = nI 5 from rfl, pk_rem (by omega) (by decide) (by decide), pk_div (by omega) (by decide) (by decide), misses_D hn h0, bnd_e]
    unfold B_X12_learntNow_78 B_X12_learntNow_91 lt_
    rw [nI_1]
    show (if mm D n (bl D n l) ≤ mm D n l then _ else _) = _
    rw [bl]
    split
    · rename_i h
      rw [if_pos (show mm D n (bl D n l) ≤ mis D n (nI (l / 5)) (nI (l % 5)) from h)]
    · rename_i h
      rw [if_neg (show ¬ mm D n (bl D n l) ≤ mis D n (nI (l / 5)) (nI (l % 5)) from h)]
      rfl
def ML (C D : Mem) (n l : Nat) : Mem := up2 C 40 (upd (upd (upd (C 40) 3 (nI (bl D n l / 5))) 4 (nI (bl D n l % 5))) 5 (mm D n (bl D n l)))
theorem ML_st (C D : Mem) (n l : Nat) (a b c : Int32) : st2 (st2 (st2 (ML C D n l) 40 5 c) 40 3 a) 40 4 b = up2 C 40 (upd (upd (upd (C 40) 3 a) 4 b) 5 c) := by
  unfold ML st2
  simp only [up2_up2, up2_s]
  congr 1
  funext j
  unfold upd
  by_cases h4 : j = 3 <;> by_cases h5 : j = 4 <;> by_cases h6 : j = 5 <;> simp [h4, h5, h6]
theorem misses_ML {n : Nat} {C D : Mem} (hn : n ≤ 24) (h0 : C 40 2 = nI n) (hp : ∀ k, k < n → C 41 k = D 24 k ∧ C 42 k = D 25 k ∧ (∃ j, j ≤ 10 ∧ D 24 k = nI j) ∧ (D 25 k = 0 ∨ D 25 k = 1)) (l : Nat) (u d : Int32) : f_X5_missesOf u d (ML C D n l) = some (mis D n u d) := misses_C (C := ML C D n l) (D := D) hn (by unfold ML; rw [up2_s, upd_n _ _ (by decide), upd_n _ _ (by decide), upd_n _ _ (by decide)]; exact h0) (by unfold ML; rw [up2_n _ _ (show 41 ≠ 40 by decide), up2_n _ _ (show 42 ≠ 40 by decide)]; exact hp) u d
theorem learn_in {n : Nat} {C D : Mem} (hn : n ≤ 24) (h0 : C 40 2 = nI n) (hp : ∀ k, k < n → C 41 k = D 24 k ∧ C 42 k = D 25 k ∧ (∃ j, j ≤ 10 ∧ D 24 k = nI j) ∧ (D 25 k = 0 ∨ D 25 k = 1)) {u : Nat} (hu : u < 5) (kx : Mem → Option Mem) : L_X5_learn_29 (nI u) kx FU 0 (ML C D n (5 * u)) = kx (ML C D n (5 * u + 5)) := by
  refine up_FU (N := 5) (by decide) (fun f a i => L_X5_learn_29 (nI u) kx f i a) (fun d => ML C D n (5 * u + d)) (kx (ML C D n (5 * u + 5))) (fun f => ?_) (fun f d hd => ?_)
  · show L_X5_learn_29 (nI u) kx (f + 1) (nI 5) _ = _
    rw [L_X5_learn_29, if_pos (show (4 : Int32) < nI 5 by decide)]
  · show L_X5_learn_29 (nI u) kx (f + 1) (nI d) (ML C D n (5 * u + d)) = L_X5_learn_29 (nI u) kx f (nI (d + 1)) (ML C D n (5 * u + d + 1))
    rw [L_X5_learn_29, if_neg (show ¬ (4 : Int32) < nI d from fun q => by have := (lt_nI (a := 4) (by decide) (by omega)).mp q; omega), misses_ML hn h0 hp, bnd_e]
    unfold B_X5_learn_64
    simp only [lt_, sto, nI_1]
    rw [ML_st]
    have em : mis D n (nI u) (nI d) = mm D n (5 * u + d) := by
      unfold mm
      rw [show (5 * u + d) / 5 = u by omega, show (5 * u + d) % 5 = d by omega]
    rw [em]
    show (if mm D n (bl D n (5 * u + d)) ≤ mm D n (5 * u + d) then _ else _) = _
    by_cases h : mm D n (bl D n (5 * u + d)) ≤ mm D n (5 * u + d)
    · rw [if_pos h]
      have e : bl D n (5 * u + d + 1) = bl D n (5 * u + d) := by rw [bl, if_pos h]
      unfold ML
      rw [e]
    · rw [if_neg h]
      have e : bl D n (5 * u + d + 1) = 5 * u + d := by rw [bl, if_neg h]
      unfold ML
      rw [e, show (5 * u + d) / 5 = u by omega, show (5 * u + d) % 5 = d by omega]
theorem learn_C {n : Nat} {C D : Mem} (hn : n ≤ 24) (h0 : C 40 2 = nI n) (hp : ∀ k, k < n → C 41 k = D 24 k ∧ C 42 k = D 25 k ∧ (∃ j, j ≤ 10 ∧ D 24 k = nI j) ∧ (D 25 k = 0 ∨ D 25 k = 1)) : f_X5_learn C = some (ML C D n 25) := by
  unfold f_X5_learn
  simp only [sto]
  have e1 : f_X5_missesOf 0 0 (st2 (st2 C 40 3 0) 40 4 0) = some (mm D n 0) := misses_C (C := st2 (st2 C 40 3 0) 40 4 0) (D := D) hn (by rw [show st2 (st2 C 40 3 0) 40 4 0 40 2 = C 40 2 from rfl]; exact h0) (by rw [st2_n _ _ _ (show 41 ≠ 40 by decide), st2_n _ _ _ (show 41 ≠ 40 by decide), st2_n _ _ _ (show 42 ≠ 40 by decide), st2_n _ _ _ (show 42 ≠ 40 by decide)]; exact hp) 0 0
  rw [e1, bnd_e]
  have e2 : st2 (st2 (st2 C 40 3 0) 40 4 0) 40 5 (mm D n 0) = ML C D n (5 * 0) := by
    unfold ML st2 bl
    simp only [up2_up2, up2_s]
    rfl
  rw [e2]
  refine up_FU (N := 5) (by decide) (fun f a i => L_X5_learn_22 (fun c => some c) f i a) (fun u => ML C D n (5 * u)) (some (ML C D n 25)) (fun f => ?_) (fun f u hu => ?_)
  · show L_X5_learn_22 _ (f + 1) (nI 5) _ = _
    rw [L_X5_learn_22, if_pos (show (4 : Int32) < nI 5 by decide)]
  · show L_X5_learn_22 _ (f + 1) (nI u) (ML C D n (5 * u)) = L_X5_learn_22 _ f (nI (u + 1)) (ML C D n (5 * (u + 1)))
    rw [L_X5_learn_22, if_neg (show ¬ (4 : Int32) < nI u from fun q => by have := (lt_nI (a := 4) (by decide) (by omega)).mp q; omega), learn_in hn h0 hp hu]
    simp only [lt_, nI_1]
    rfl
theorem Kp40 {C D : Mem} (n l : Nat) : Kp C (ML C D n l) := ⟨fun k hk => up2_n _ _ (fun e => by rw [e] at hk; cases hk), rfl, rfl⟩
theorem learnt_both {C D : Mem} (hI : Inv C D) {w : Nat} (hw : w ≤ 4) : ∃ (r : Int32) (C1 : Mem), (if nI w = 3 then Option.bind (f_X5_got C) (fun r_20 => some (r_20, C)) else (if nI w = 4 then Option.bind (f_X5_could C) (fun r_33 => some (r_33, C)) else (if 2 ≤ (C 40 2) then Option.bind (f_X5_learn C) (fun C_55 => (if nI w = 2 then some ((C_55 40 5), C_55) else (if nI w = 0 then some ((C_55 40 3), C_55) else some ((C_55 40 4), C_55)))) else some ((-3), C)))) = some (r, C1) ∧ f_X12_learntNow (nI w) D = some r ∧ Inv C1 D := by
  obtain ⟨n, hn, c0, d0, hp⟩ := hI.2.2.2.2.2.1
  unfold f_X12_learntNow
  have hb := bl_lt D n 25
  rcases (show w = 3 ∨ w = 4 ∨ w ≤ 2 by omega) with q | q | q
  · subst q
    rw [if_pos (show nI 3 = (3 : Int32) from rfl), if_neg (show ¬ nI 3 ≤ (2 : Int32) by decide), if_pos (show nI 3 = (3 : Int32) from rfl), got_C hn c0 hp, got_D hn d0]
    exact ⟨_, _, rfl, rfl, hI⟩
  · subst q
    obtain ⟨r, g1, g2⟩ := could_D hn d0
    rw [if_neg (show ¬ nI 4 = (3 : Int32) by decide), if_pos (show nI 4 = (4 : Int32) from rfl), if_neg (show ¬ nI 4 ≤ (2 : Int32) by decide), if_neg (show ¬ nI 4 = (3 : Int32) by decide), g1, g2 C c0 hp]
    exact ⟨_, _, rfl, rfl, hI⟩
  · rw [if_neg (show ¬ nI w = (3 : Int32) from fun z => by have := (eq_nI (b := 3) (by omega) (by decide)).mp z; omega), if_neg (show ¬ nI w = (4 : Int32) from fun z => by have := (eq_nI (b := 4) (by omega) (by decide)).mp z; omega), if_pos (show nI w ≤ (2 : Int32) from (le_nI (b := 2) (by omega) (by decide)).mpr q), c0, d0]
    by_cases h2 : (2 : Int32) ≤ nI n
    · rw [if_pos h2, if_pos h2, learn_C hn c0 hp, bnd_e, misses_D hn d0, bnd_e]
      rw [show mis D n 0 0 = mm D n 0 from rfl, learn_D hn d0, show (5 : Int32) = nI 5 from rfl, pk_rem (by omega) (by decide) (by decide), pk_div (by omega) (by decide) (by decide)]
      rcases (show w = 0 ∨ w = 1 ∨ w = 2 by omega) with z | z | z
      · subst z
        exact ⟨nI (bl D n 25 / 5), ML C D n 25, rfl, rfl, hI.keepC (Kp40 _ _)⟩
      · subst z
        exact ⟨nI (bl D n 25 % 5), ML C D n 25, rfl, rfl, hI.keepC (Kp40 _ _)⟩
      · subst z
        exact ⟨mm D n (bl D n 25), ML C D n 25, rfl, rfl, hI.keepC (Kp40 _ _)⟩
    · rw [if_neg h2, if_neg h2]
      exact ⟨_, _, rfl, rfl, hI⟩
theorem ok_learnt {C D : Mem} (hI : Inv C D) (a1 : Int32) : ∃ (r : Int32) (C1 : Mem), f_X11_learnt a1 C = some (r, C1) ∧ f_X12_learnt a1 D = some r ∧ Inv C1 D := by
  unfold f_X11_learnt f_X12_learnt
  rw [show f_X11_isWithin a1 4 = f_X12_in a1 0 4 from rfl, bnd_id]
  by_cases h1 : f_X12_in a1 0 4 = true
  · rw [if_pos h1, if_pos h1]
    obtain ⟨w, hw, rfl⟩ := in_nI (n := 4) rfl (by decide) h1
    exact learnt_both hI hw
  · exact ⟨-2, C, by rw [if_neg h1], by rw [if_neg h1], hI⟩
theorem ok_misses {C D : Mem} (hI : Inv C D) (a1 : Int32) (a2 : Int32) : ∃ (r : Int32), f_X11_misses a1 a2 C = some r ∧ f_X12_misses a1 a2 D = some r ∧ Inv C D := by
  obtain ⟨n, hn, c0, d0, hp⟩ := hI.2.2.2.2.2.1
  unfold f_X11_misses f_X12_misses
  rw [show f_X11_isWithin a1 4 = f_X12_in a1 0 4 from rfl, show f_X11_isWithin a2 4 = f_X12_in a2 0 4 from rfl, bnd_id, bnd_id, misses_C hn c0 hp, misses_D hn d0]
  by_cases h1 : f_X12_in a1 0 4 = true
  · by_cases h2 : f_X12_in a2 0 4 = true
    · rw [if_pos h1, if_pos h2]
      exact ⟨_, rfl, rfl, hI⟩
    · exact ⟨-2, by rw [if_pos h1, if_neg h2], by rw [if_pos h1, if_neg h2], hI⟩
  · exact ⟨-2, by rw [if_neg h1], by rw [if_neg h1], hI⟩
theorem ok_forget {C D : Mem} (hI : Inv C D) : ∃ (r : Int32) (C1 : Mem) (D1 : Mem), f_X11_forget C = some (r, C1) ∧ f_X12_forget D = some (r, D1) ∧ Inv C1 D1 := by
  obtain ⟨n, hn, c0, d0, hp⟩ := hI.2.2.2.2.2.1
  unfold f_X11_forget f_X12_forget
  simp only [lt_, sto]
  refine ⟨nI n, _, _, by rw [c0], by rw [d0], ?_⟩
  obtain ⟨h1, h2, h3, h5, h6, h7, h8, h9⟩ := hI
  refine ⟨keepP h1 rfl rfl rfl rfl rfl rfl rfl rfl rfl rfl rfl rfl rfl rfl rfl rfl, keepW h2 rfl rfl rfl rfl rfl rfl, keepB h3 rfl rfl rfl rfl rfl rfl, keepT h5 rfl rfl rfl rfl, keepS h6 rfl rfl, ⟨0, by decide, rfl, rfl, fun k hk => absurd hk (Nat.not_lt_zero k)⟩, keepH h8 rfl rfl rfl rfl rfl rfl rfl rfl rfl, keepG h9 (fun c a b => ?_) rfl rfl⟩
  rw [st2_n _ _ _ (by omega)]
theorem ok_round {C D : Mem} (hI : Inv C D) (a1 : Int32) (a2 : Int32) : ∃ (r : Int32) (C1 : Mem) (D1 : Mem), f_X11_round a1 a2 C = some (r, C1) ∧ f_X12_round a1 a2 D = some (r, D1) ∧ Inv C1 D1 := by
  obtain ⟨n, hn, e1, e2, hp⟩ := hI.2.2.2.2.2.1
  unfold f_X11_round f_X12_round
  rw [show f_X11_isOffer a1 = f_X12_isOffer a1 from rfl, show f_X11_isAnswer a2 = f_X12_in a2 0 1 from rfl]
  by_cases h1 : f_X12_isOffer a1 = true
  · by_cases h2 : f_X12_in a2 0 1 = true
    · rw [if_pos h1, if_pos h1, if_pos h2, if_pos h2, bnd2_id]
      obtain ⟨b, hb, rfl⟩ := in_nI (n := 10) rfl (by decide) h1
      obtain ⟨x, hx, rfl⟩ := in_nI (n := 1) rfl (by decide) h2
      have h01 : nI x = 0 ∨ nI x = 1 := by
        rcases (show x = 0 ∨ x = 1 by omega) with q | q
        · subst q; exact Or.inl rfl
        · subst q; exact Or.inr rfl
      unfold f_X5_add
      by_cases hf : n = 24
      · subst hf
        exact ⟨-4, C, D, by rw [e1, if_neg (by decide)], by rw [e2, if_pos (show nI 24 = (24 : Int32) from rfl)], hI⟩
      · have hlt : n < 24 := by omega
        simp only [sto]
        have i1 : ∀ (M : Mem) (k i : Nat) (v : Int32), k ≠ 40 → st2 M k i v 40 2 = M 40 2 := fun M k i v h => by rw [st2_n _ _ _ (Ne.symm h)]
        have i0 : ∀ (M : Mem) (k i : Nat) (v : Int32), k ≠ 0 → st2 M k i v 0 32 = M 0 32 := fun M k i v h => by rw [st2_n _ _ _ (Ne.symm h)]
        simp only [i1 _ 41 _ _ (by decide), i1 _ 42 _ _ (by decide), i0 _ 24 _ _ (by decide), i0 _ 25 _ _ (by decide), e1, e2, gdn hlt (show 24 ≤ 1000000 by decide), cl_nI (show n ≤ 1000000 by omega)]
        rw [if_pos (show nI n < 24 from (lt_nI (b := 24) (by omega) (by decide)).mpr hlt), if_neg (show ¬ nI n = (24 : Int32) from fun q => hf ((eq_nI (b := 24) (by omega) (by decide)).mp q))]
        refine ⟨_, _, _, rfl, by rw [show ∀ (M : Mem) (v : Int32), st2 M 0 32 v 0 32 = v from fun M v => rfl, show ∀ (M : Mem) (v : Int32), st2 M 40 2 v 40 2 = v from fun M v => rfl], ?_⟩
        obtain ⟨h1, h2, h3, h5, h6, h7, h8, h9⟩ := hI
        refine ⟨keepP h1 rfl rfl rfl rfl rfl rfl rfl rfl rfl rfl rfl rfl rfl rfl rfl rfl, keepW h2 rfl rfl rfl rfl rfl rfl, keepB h3 rfl rfl rfl rfl rfl rfl, keepT h5 rfl rfl rfl rfl, keepS h6 rfl rfl, ⟨n + 1, hlt, nI_1 n, nI_1 n, fun k hk => ?_⟩, keepH h8 rfl rfl rfl rfl rfl rfl rfl rfl rfl, keepG h9 (fun c a b => ?_) rfl rfl⟩
        · show upd (C 41) n (nI b) k = upd (D 24) n (nI b) k ∧ upd (C 42) n (nI x) k = upd (D 25) n (nI x) k ∧ (∃ b2, b2 ≤ 10 ∧ upd (D 24) n (nI b) k = nI b2) ∧ (upd (D 25) n (nI x) k = 0 ∨ upd (D 25) n (nI x) k = 1)
          by_cases q : k = n
          · subst q
            simp only [upd_s]
            exact ⟨trivial, trivial, ⟨b, hb, rfl⟩, h01⟩
          · simp only [upd_n _ _ q]
            exact hp k (by omega)
        · rw [st2_n _ _ _ (by omega), st2_n _ _ _ (by omega), st2_n _ _ _ (by omega)]
    · exact ⟨-2, C, D, by rw [if_pos h1, if_neg h2], by rw [if_pos h1, if_neg h2], hI⟩
  · exact ⟨-2, C, D, by rw [if_neg h1], by rw [if_neg h1], hI⟩
