/-! the memories that the constructors leave stand to each other so -/
theorem inv0 : Inv C0m D0m := by
  refine ⟨⟨0, by decide, rfl, rfl, ⟨999, by decide, rfl, rfl⟩, ⟨0, by decide, rfl, rfl⟩, fun k hk => absurd hk (Nat.not_lt_zero k)⟩, ⟨0, by decide, rfl, rfl, fun k hk => absurd hk (Nat.not_lt_zero k)⟩, ⟨⟨0, by decide, rfl, rfl, fun k hk => absurd hk (Nat.not_lt_zero k)⟩, fun k hk => rfl⟩, ⟨0, by decide, rfl, rfl, fun k hk => absurd hk (Nat.not_lt_zero k)⟩, fun k hk => ?_, ⟨0, by decide, rfl, rfl, fun k hk => absurd hk (Nat.not_lt_zero k)⟩, ⟨fun s hs => ⟨⟨0, by decide, rfl, rfl⟩, Or.inl ⟨?_, rfl⟩⟩, fun k hk => rfl, rfl⟩, ⟨0, C0m, by decide, rfl, fun j hj => absurd hj (Nat.not_lt_zero j), ⟨rfl, rfl, rfl, rfl, rfl, rfl⟩, fun c a b => rfl⟩⟩
  · refine ⟨rfl, 8, by decide, by decide, ?_⟩
    rcases (show k = 0 ∨ k = 1 ∨ k = 2 ∨ k = 3 ∨ k = 4 ∨ k = 5 ∨ k = 6 ∨ k = 7 ∨ k = 8 by omega) with e | e | e | e | e | e | e | e | e <;> subst e <;> rfl
  · rcases (show s = 0 ∨ s = 1 ∨ s = 2 ∨ s = 3 by omega) with e | e | e | e <;> subst e <;> rfl
/-! two loops in step -/
theorem lock {β γ : Type} {K : Nat} (R : Mem → Mem → Prop) (LC : Nat → Int64 → Int32 → Mem → Option β) (LD : Nat → Int64 → Int32 → Mem → Option γ) (kc : Int64 → Mem → Option β) (kd : Int64 → Mem → Option γ) (hx : ∀ f v C D, R C D → LC (f + 1) v (nI K) C = kc v C ∧ LD (f + 1) v (nI K) D = kd v D) (hs : ∀ f v k C D, k < K → R C D → ∃ v' C' D', R C' D' ∧ LC (f + 1) v (nI k) C = LC f v' (nI (k + 1)) C' ∧ LD (f + 1) v (nI k) D = LD f v' (nI (k + 1)) D') : ∀ m k f v C D, k + m = K → m < f → R C D → ∃ v' C' D', LC f v (nI k) C = kc v' C' ∧ LD f v (nI k) D = kd v' D' ∧ R C' D'
  | 0, k, f, v, C, D, h1, h2, h => by
    obtain ⟨f, rfl⟩ : ∃ g, f = g + 1 := ⟨f - 1, by omega⟩
    have e : k = K := by omega
    subst e
    exact ⟨v, C, D, (hx f v C D h).1, (hx f v C D h).2, h⟩
  | m + 1, k, f, v, C, D, h1, h2, h => by
    obtain ⟨f, rfl⟩ : ∃ g, f = g + 1 := ⟨f - 1, by omega⟩
    obtain ⟨v1, C1, D1, r1, e1, e2⟩ := hs f v k C D (by omega) h
    rw [e1, e2]
    exact lock R LC LD kc kd hx hs m (k + 1) f v1 C1 D1 (by omega) (by omega) r1
theorem lockF {β γ : Type} {K : Nat} (hK : K ≤ 1000) (R : Mem → Mem → Prop) (LC : Nat → Int64 → Int32 → Mem → Option β) (LD : Nat → Int64 → Int32 → Mem → Option γ) (kc : Int64 → Mem → Option β) (kd : Int64 → Mem → Option γ) (hx : ∀ f v C D, R C D → LC (f + 1) v (nI K) C = kc v C ∧ LD (f + 1) v (nI K) D = kd v D) (hs : ∀ f v k C D, k < K → R C D → ∃ v' C' D', R C' D' ∧ LC (f + 1) v (nI k) C = LC f v' (nI (k + 1)) C' ∧ LD (f + 1) v (nI k) D = LD f v' (nI (k + 1)) D') (v : Int64) (C D : Mem) (h : R C D) : ∃ v' C' D', LC FU v 0 C = kc v' C' ∧ LD FU v 0 D = kd v' D' ∧ R C' D' :=
  lock R LC LD kc kd hx hs K 0 FU v C D (by omega) (by have := FU_ge; omega) h
/-! what the digest asks -/
theorem dg_many {C D : Mem} (hI : Inv C D) {a1 : Int32} {k w : Nat} (ha : f_X12_isAny a1 = true) (hk : k ≤ 3) (hw : w ≤ 1) : ∃ r C1, f_X11_many a1 (nI k) (nI w) C = some (r, C1) ∧ f_X12_manyNow a1 (nI k) (nI w) D = some r ∧ Inv C1 D := by
  obtain ⟨r, C1, e1, e2, h⟩ := ok_many hI a1 (nI k) (nI w)
  refine ⟨r, C1, e1, ?_, h⟩
  unfold f_X12_many at e2
  have k1 : ∀ k, k ≤ 3 → f_X12_isKind (nI k) = true := by decide
  have k2 : ∀ w, w ≤ 1 → f_X12_in (nI w) 0 2 = true := by decide
  rw [if_pos ha, if_pos (k1 k hk), if_pos (k2 w hw), bnd_id] at e2
  exact e2
theorem dg_mean {C D : Mem} (hI : Inv C D) {w : Nat} (hw : w ≤ 1) : ∃ r C1, f_X11_mean (-1) 0 (nI w) C = some (r, C1) ∧ f_X12_meanNow (-1) 0 (nI w) D = some r ∧ Inv C1 D := by
  obtain ⟨r, C1, e1, e2, h⟩ := ok_mean hI (-1) 0 (nI w)
  refine ⟨r, C1, e1, ?_, h⟩
  unfold f_X12_mean at e2
  have k2 : ∀ w, w ≤ 1 → f_X12_in (nI w) 0 1 = true := by decide
  rw [if_pos (by decide), if_pos (by decide), if_pos (k2 w hw), bnd_id] at e2
  exact e2
theorem dg_best {C D : Mem} (hI : Inv C D) : ∃ r C1, f_X11_best (-1) C = some (r, C1) ∧ f_X12_bestNow (-1) D = some r ∧ Inv C1 D := by
  obtain ⟨r, C1, e1, e2, h⟩ := ok_best hI (-1)
  refine ⟨r, C1, e1, ?_, h⟩
  unfold f_X12_best at e2
  rw [if_pos (by decide), bnd_id] at e2
  exact e2
theorem dg_line {C D : Mem} (hI : Inv C D) {i w n : Nat} (hn : n ≤ 12) (h9 : D 0 9 = nI n) (hi : i < n) (hw : w ≤ 2) : ∃ r C1, f_X11_line (nI i) (nI w) C = some (r, C1) ∧ f_X12_lineNow (nI i) (nI w) D = some r ∧ Inv C1 D := by
  obtain ⟨r, C1, e1, e2, h⟩ := ok_line hI (nI i) (nI w)
  refine ⟨r, C1, e1, ?_, h⟩
  unfold f_X12_line at e2
  have k2 : ∀ w, w ≤ 2 → f_X12_in (nI w) 0 2 = true := by decide
  have k1 : f_X12_in (nI i) 0 (D 0 9 - 1) = true := (in_c _ _ _).mpr ⟨nI_pos' (by omega), by rw [h9, show (1 : Int32) = nI 1 from rfl, pk_sub (by omega), le_nI (by omega) (by omega)]; omega⟩
  rw [if_pos k1, if_pos (k2 w hw), bnd_id] at e2
  exact e2
theorem dg_his {C D : Mem} (hI : Inv C D) {i n : Nat} (hn : n ≤ 8) (h12 : D 0 12 = nI n) (hi : i < n) : ∃ r C1, f_X11_hisBest (nI i) C = some (r, C1) ∧ f_X12_hisNow (nI i) D = some r ∧ Inv C1 D := by
  obtain ⟨r, C1, e1, e2, h⟩ := ok_hisBest hI (nI i)
  refine ⟨r, C1, e1, ?_, h⟩
  unfold f_X12_hisBest at e2
  have k1 : f_X12_isBelief (nI i) D = true := by
    unfold f_X12_isBelief
    exact (in_c _ _ _).mpr ⟨nI_pos' (by omega), by rw [h12, show (1 : Int32) = nI 1 from rfl, pk_sub (by omega), le_nI (by omega) (by omega)]; omega⟩
  rw [if_pos k1, bnd_id] at e2
  exact e2
theorem dg_reck {C D : Mem} (hI : Inv C D) {a w : Nat} (ha : a ≤ 40) (hw : w ≤ 5) : ∃ r C1 D1, f_X11_reckon (nI a) (nI w) C = some (r, C1) ∧ f_X12_reckonNow (nI a) (nI w) D = some (r, D1) ∧ Inv C1 D1 := by
  obtain ⟨r, C1, D1, e1, e2, h⟩ := ok_reckon hI (nI a) (nI w)
  refine ⟨r, C1, D1, e1, ?_, h⟩
  unfold f_X12_reckon at e2
  have k1 : ∀ w, w ≤ 40 → f_X12_in (nI w) 0 40 = true := by decide
  have k2 : ∀ w, w ≤ 5 → f_X12_in (nI w) 0 5 = true := by decide
  rw [if_pos (k1 a ha), if_pos (k2 w hw), bnd2_id] at e2
  exact e2
theorem dg_goes {C D : Mem} (hI : Inv C D) {i n : Nat} (hn : n ≤ 6) (h26 : D 0 26 = nI n) (hi : i < n) : ∃ r C1 D1, f_X11_goes (nI i) C = some (r, C1) ∧ f_X12_goesNow (nI i) D = some (r, D1) ∧ Inv C1 D1 ∧ D1 0 26 = nI n := by
  obtain ⟨r, C1, D1, e1, e2, h, h3⟩ := goes_both hI h26 hn hi
  obtain ⟨nT, -, c0, d0, -⟩ := hI.2.2.2.1
  refine ⟨r, C1, D1, ?_, e2, h, h3.trans h26⟩
  unfold f_X11_goes f_X10_has
  rw [c0, ← d0, h26, if_neg (nI_pos (by omega)), if_neg (show ¬ nI n ≤ nI i by rw [le_nI (by omega) (by omega)]; omega), if_pos (show (true = true) from rfl)]
  exact e1
theorem dg_learnt {C D : Mem} (hI : Inv C D) {w : Nat} (hw : w ≤ 4) : ∃ r C1, f_X11_learnt (nI w) C = some (r, C1) ∧ f_X12_learntNow (nI w) D = some r ∧ Inv C1 D := by
  obtain ⟨r, C1, e1, e2, h⟩ := ok_learnt hI (nI w)
  refine ⟨r, C1, e1, ?_, h⟩
  unfold f_X12_learnt at e2
  have k1 : ∀ w, w ≤ 4 → f_X12_in (nI w) 0 4 = true := by decide
  rw [if_pos (k1 w hw), bnd_id] at e2
  exact e2
