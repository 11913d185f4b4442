/-! pairs: what counts, by the model's memory -/
def RP (n : Nat) (C D : Mem) : Prop := n ≤ 60 ∧ C 1 6 = nI n ∧ D 0 0 = nI n ∧ (∃ z, z ≤ 999 ∧ C 1 8 = nI z ∧ D 0 8 = nI z) ∧ (∃ z, z ≤ 999 ∧ C 1 7 = nI z ∧ D 0 7 = nI z) ∧ ∀ k, k < n → C 2 k = D 1 k ∧ C 3 k = D 2 k ∧ C 4 k = D 3 k ∧ C 5 k = D 4 k ∧ C 6 k = D 5 k ∧ (∃ j, j ≤ 10 ∧ D 3 k = nI j) ∧ (D 4 k = 0 ∨ D 4 k = 1) ∧ ((C 7 k = nI 1000 ∧ D 6 k = -1) ∨ ∃ j, j ≤ 999 ∧ C 7 k = nI j ∧ D 6 k = nI j)
def cnD (D : Mem) (k : Nat) : Bool := if D 0 8 < D 5 k then false else if D 6 k = -1 then true else if D 6 k ≤ D 0 8 then false else true
def isD (D : Mem) (p kd : Int32) (k : Nat) : Bool := if cnD D k = true then (if p = -1 then (if D 2 k = kd then true else false) else (if D 1 k = p then (if D 2 k = kd then true else false) else false)) else false
theorem counts_D (D : Mem) {k : Nat} (hk : k < 60) : f_X12_counts (nI k) D = some (cnD D k) := by
  unfold f_X12_counts B_X12_counts_36 cnD
  simp only [gdn hk (show 60 ≤ 1000000 by decide), cl_nI (show k ≤ 1000000 by omega)]
  split <;> (try rfl)
  split <;> (try rfl)
  split <;> rfl
theorem isOf_D (D : Mem) (p kd : Int32) {k : Nat} (hk : k < 60) : f_X12_isOf (nI k) p kd D = some (isD D p kd k) := by
  unfold f_X12_isOf B_X12_isOf_23 isD
  simp only [counts_D D hk, bnd_e, gdn hk (show 60 ≤ 1000000 by decide), cl_nI (show k ≤ 1000000 by omega)]
  split
  · split
    · split <;> rfl
    · split
      · split <;> rfl
      · rfl
  · rfl
theorem counts_C {n : Nat} {C D : Mem} (h : RP n C D) {k : Nat} (hk : k < n) : f_X4_counts (nI k) C = some (cnD D k) := by
  obtain ⟨hn, -, -, ⟨z, hz, e1, e2⟩, -, hp⟩ := h
  obtain ⟨-, -, -, -, h6, -, -, hb⟩ := hp k hk
  unfold f_X4_counts cnD
  simp only [gdn (show k < 60 by omega) (show 60 ≤ 1000000 by decide), cl_nI (show k ≤ 1000000 by omega), h6, e1, e2]
  split
  · rfl
  · rcases hb with ⟨h7, h8⟩ | ⟨j, hj, h7, h8⟩
    · rw [h7, h8, if_neg (by rw [le_nI (by decide) (by omega)]; omega), if_pos rfl]
    · rw [h7, h8, if_neg (c := nI j = -1) (fun q => by
        have := congrArg Int32.toInt q
        rw [nI_toInt (by omega)] at this
        have h2 : (-1 : Int32).toInt = -1 := by decide
        omega)]
      split <;> rfl
theorem isOf_C {n : Nat} {C D : Mem} (h : RP n C D) (p kd : Int32) {k : Nat} (hk : k < n) : f_X4_isOf (nI k) p kd C = some (if D 2 k = kd then (if p = -1 then true else if D 1 k = p then true else false) else false) := by
  have hn := h.1
  obtain ⟨h2, h3, -⟩ := h.2.2.2.2.2 k hk
  unfold f_X4_isOf B_X4_isOf_25
  simp only [gdn (show k < 60 by omega) (show 60 ≤ 1000000 by decide), cl_nI (show k ≤ 1000000 by omega), h2, h3]
  split
  · split
    · rfl
    · split <;> rfl
  · rfl
theorem isD_eq (D : Mem) (p kd : Int32) (k : Nat) : isD D p kd k = ((if D 2 k = kd then (if p = -1 then true else if D 1 k = p then true else false) else false) && cnD D k) := by
  unfold isD
  by_cases h1 : D 2 k = kd <;> by_cases h2 : p = -1 <;> by_cases h3 : D 1 k = p <;> cases cnD D k <;> simp [h1, h2, h3]
def gC (D : Mem) (p kd : Int32) (i : Nat) : Int32 := if isD D p kd i = true then 1 else 0
def gN (D : Mem) (p kd : Int32) (i : Nat) : Int32 := if isD D p kd i = true then 1 - D 4 i else 0
def gS (D : Mem) (p kd : Int32) (i : Nat) : Int32 := if isD D p kd i = true then D 3 i else 0
def gF (D : Mem) (p kd : Int32) (j : Nat) (i : Nat) : Int32 := if isD D p kd i = true then (if D 3 i = nI j then 1 else 0) else 0
def gR (D : Mem) (p kd : Int32) (j : Nat) (i : Nat) : Int32 := if isD D p kd i = true then (if D 3 i = nI j then 1 - D 4 i else 0) else 0
theorem countOf_D {n : Nat} {D : Mem} (hn : n ≤ 60) (h0 : D 0 0 = nI n) (p kd : Int32) : f_X12_countOf p kd D = some (sm (gC D p kd) n) := by
  unfold f_X12_countOf
  refine up_FU (N := n) (by omega) (fun f a i => L_X12_countOf_5 p kd D (fun v => some v) f a i) (sm (gC D p kd)) _ (fun f => ?_) (fun f k hk => ?_)
  · show L_X12_countOf_5 p kd D _ (f + 1) _ (nI n) = _
    rw [L_X12_countOf_5, h0, if_pos (Int32.le_refl _)]
  · show L_X12_countOf_5 p kd D _ (f + 1) _ (nI k) = L_X12_countOf_5 p kd D _ f _ (nI (k + 1))
    rw [L_X12_countOf_5, h0, if_neg (by rw [le_nI (by omega) (by omega)]; omega), isOf_D D p kd (by omega), bnd_e]
    unfold B_X12_countOf_31 lt_
    simp only [sm, gC, nI_1]
    split <;> rfl
theorem sumOf_D {n : Nat} {D : Mem} (hn : n ≤ 60) (h0 : D 0 0 = nI n) (p kd : Int32) : f_X12_sumOf p kd D = some (sm (gS D p kd) n) := by
  unfold f_X12_sumOf
  refine up_FU (N := n) (by omega) (fun f a i => L_X12_sumOf_5 p kd D (fun v => some v) f a i) (sm (gS D p kd)) _ (fun f => ?_) (fun f k hk => ?_)
  · show L_X12_sumOf_5 p kd D _ (f + 1) _ (nI n) = _
    rw [L_X12_sumOf_5, h0, if_pos (Int32.le_refl _)]
  · show L_X12_sumOf_5 p kd D _ (f + 1) _ (nI k) = L_X12_sumOf_5 p kd D _ f _ (nI (k + 1))
    rw [L_X12_sumOf_5, h0, if_neg (by rw [le_nI (by omega) (by omega)]; omega), isOf_D D p kd (by omega), bnd_e]
    unfold B_X12_sumOf_37 lt_
    simp only [sm, gS, nI_1, gdn (show k < 60 by omega) (show 60 ≤ 1000000 by decide), cl_nI (show k ≤ 1000000 by omega)]
    split <;> rfl
theorem noesOf_D {n : Nat} {D : Mem} (hn : n ≤ 60) (h0 : D 0 0 = nI n) (p kd : Int32) : f_X12_noesOf p kd D = some (sm (gN D p kd) n) := by
  unfold f_X12_noesOf
  refine up_FU (N := n) (by omega) (fun f a i => L_X12_noesOf_5 p kd D (fun v => some v) f a i) (sm (gN D p kd)) _ (fun f => ?_) (fun f k hk => ?_)
  · show L_X12_noesOf_5 p kd D _ (f + 1) _ (nI n) = _
    rw [L_X12_noesOf_5, h0, if_pos (Int32.le_refl _)]
  · show L_X12_noesOf_5 p kd D _ (f + 1) _ (nI k) = L_X12_noesOf_5 p kd D _ f _ (nI (k + 1))
    rw [L_X12_noesOf_5, h0, if_neg (by rw [le_nI (by omega) (by omega)]; omega), isOf_D D p kd (by omega), bnd_e]
    unfold B_X12_noesOf_39 lt_
    simp only [sm, gN, nI_1, gdn (show k < 60 by omega) (show 60 ≤ 1000000 by decide), cl_nI (show k ≤ 1000000 by omega)]
    split <;> rfl
