/-! trees in both memories -/
def TN (M : Mem) (N : Nat) : Prop := ∀ i, i < N → (M 23 i = -1 ∨ ∃ p, p ≤ 2 ∧ M 23 i = nI p) ∧ (∃ c, c ≤ 4 ∧ M 26 i = nI c) ∧ ((i = 0 ∧ M 24 i = -1) ∨ ∃ j, j < i ∧ M 24 i = nI j ∧ ¬ M 23 j = -1) ∧ (M 23 i = -1 → ∀ c, c < 3 → ∃ x, x ≤ 9 ∧ M 27 (3 * i + c) = nI x)
def TH (M : Mem) (N : Nat) (ex : Option Nat) : Prop := ∀ i, i < N → (∀ e, ex = some e → i ≠ e) → ¬ M 23 i = -1 → ∃ j, i < j ∧ j < N ∧ M 24 j = nI i
def TE (M : Mem) (N : Nat) : Prop := M 22 12 = nI (ctn (fun i => decide (M 23 i = -1)) N)
def AG (M D : Mem) (N : Nat) : Prop := D 0 17 = nI N ∧ ∀ i, i < N → D 13 i = M 24 i ∧ (0 < i → D 14 i = M 25 i) ∧ D 15 i = M 26 i ∧ (M 23 i = -1 → D 12 i = 3) ∧ (∀ p, p ≤ 2 → M 23 i = nI p → D 12 i = nI p) ∧ (M 23 i = -1 → ∀ c, c < 3 → D 18 (3 * i + c) = M 27 (3 * i + c))
def OPc (M : Mem) (N : Nat) (op : Option Nat) : Prop := (op = none → N = 0) ∧ ∀ j, op = some j → j < N ∧ ¬ M 23 j = -1 ∧ ∃ c, c ≤ 3 ∧ M 26 j = nI c
theorem kd_N {f : Nat → Int32} {N : Nat} {op : Option Nat} (hop : ∀ j, op = some j → j < N) : kd f N op N = 0 := by
  cases op with
  | none => exact upd_s _ _ _
  | some j =>
    have := hop j rfl
    show upd (upd f N 0) j (f j + 1) N = 0
    rw [upd_n _ _ (by omega), upd_s]
theorem kd_i {f g : Nat → Int32} {N i : Nat} {op : Option Nat} (hi : i < N) (hop : ∀ j, op = some j → j < N) (hfg : ∀ i, i < N → f i = g i) : kd f N op i = kd g N op i := by
  cases op with
  | none =>
    show upd f N 0 i = upd g N 0 i
    rw [upd_n _ _ (by omega), upd_n _ _ (by omega), hfg i hi]
  | some j =>
    have := hop j rfl
    show upd (upd f N 0) j (f j + 1) i = upd (upd g N 0) j (g j + 1) i
    by_cases e : i = j
    · subst e; rw [upd_s, upd_s, hfg i hi]
    · rw [upd_n _ _ e, upd_n _ _ e, upd_n _ _ (by omega), upd_n _ _ (by omega), hfg i hi]
theorem kd_4 {M : Mem} {N i : Nat} {op : Option Nat} (hi : i < N) (hT : TN M N) (hO : OPc M N op) : ∃ c, c ≤ 4 ∧ kd (M 26) N op i = nI c := by
  obtain ⟨-, ⟨c, hc, e⟩, -⟩ := hT i hi
  cases op with
  | none =>
    refine ⟨c, hc, ?_⟩
    show upd (M 26) N 0 i = _
    rw [upd_n _ _ (by omega), e]
  | some j =>
    obtain ⟨hj, -, c', hc', e'⟩ := hO.2 j rfl
    by_cases q : i = j
    · subst q
      refine ⟨c' + 1, by omega, ?_⟩
      show upd (upd (M 26) N 0) i (M 26 i + 1) i = _
      rw [upd_s, e', nI_1]
    · refine ⟨c, hc, ?_⟩
      show upd (upd (M 26) N 0) j (M 26 j + 1) i = _
      rw [upd_n _ _ q, upd_n _ _ (by omega), e]
theorem tree_add {M D M1 D1 : Mem} {N : Nat} {op : Option Nat} {w dw : Int32} (hT : TN M N) (hH : TH M N op) (hE : TE M N) (hA : AG M D N) (hO : OPc M N op)
    (m22 : M1 22 12 = M 22 12 + (if w = -1 then 1 else 0)) (m23 : M1 23 = upd (M 23) N w) (m24 : M1 24 = upd (M 24) N (opI op)) (m25 : M1 25 = plc (M 25) (M 26) N op) (m26 : M1 26 = kd (M 26) N op) (m27 : ∀ i, i < 3 * N → M1 27 i = M 27 i)
    (d17 : D1 0 17 = nI (N + 1)) (d12 : D1 12 = upd (D 12) N dw) (d13 : D1 13 = upd (D 13) N (opI op)) (d14 : D1 14 = upd (D 14) N (pl (D 15) op)) (d15 : D1 15 = kd (D 15) N op) (d18 : ∀ i, i < 3 * N → D1 18 i = D 18 i)
    (hw : w = -1 ∨ ∃ p, p ≤ 2 ∧ w = nI p) (hf : w = -1 → dw = 3 ∧ ∀ c, c < 3 → ∃ x, x ≤ 9 ∧ M1 27 (3 * N + c) = nI x ∧ D1 18 (3 * N + c) = nI x) (hd : ∀ p, p ≤ 2 → w = nI p → dw = nI p) :
    TN M1 (N + 1) ∧ TH M1 (N + 1) (if w = -1 then none else some N) ∧ TE M1 (N + 1) ∧ AG M1 D1 (N + 1) := by
  have hop : ∀ j, op = some j → j < N := fun j hj => (hO.2 j hj).1
  refine ⟨fun i hi => ?_, fun i hi hx hl => ?_, ?_, d17, fun i hi => ?_⟩
  · rw [m23, m24, m26]
    by_cases q : i = N
    · subst q
      rw [upd_s, upd_s]
      refine ⟨hw, ⟨0, by decide, kd_N hop⟩, ?_, fun z c hc => ?_⟩
      · cases op with
        | none => exact Or.inl ⟨hO.1 rfl, rfl⟩
        | some j =>
          obtain ⟨h1, h2, -⟩ := hO.2 j rfl
          exact Or.inr ⟨j, h1, rfl, by rw [upd_n _ _ (by omega)]; exact h2⟩
      · obtain ⟨x, hx, e, -⟩ := (hf z).2 c hc
        exact ⟨x, hx, e⟩
    · obtain ⟨t1, t2, t3, t4⟩ := hT i (by omega)
      rw [upd_n _ _ q, upd_n _ _ q]
      refine ⟨t1, kd_4 (by omega) hT hO, ?_, fun z c hc => ?_⟩
      · rcases t3 with t3 | ⟨j, j1, j2, j3⟩
        · exact Or.inl t3
        · exact Or.inr ⟨j, j1, j2, by rw [upd_n _ _ (by omega)]; exact j3⟩
      · rw [m27 _ (by omega)]
        exact t4 z c hc
  · rw [m23] at hl
    rw [m24]
    by_cases q : i = N
    · subst q
      rw [upd_s] at hl
      exact absurd rfl (hx i (if_neg hl))
    · rw [upd_n _ _ q] at hl
      by_cases q2 : op = some i
      · exact ⟨N, by omega, by omega, by rw [upd_s, q2]; rfl⟩
      · obtain ⟨j, j1, j2, j3⟩ := hH i (by omega) (fun e he z => q2 (by rw [he, z])) hl
        exact ⟨j, j1, by omega, by rw [upd_n _ _ (by omega)]; exact j3⟩
  · unfold TE at hE ⊢
    rw [m22, hE, ctn_s, m23, upd_s]
    rw [ctn_congr (a := fun i => decide (upd (M 23) N w i = -1)) (b := fun i => decide (M 23 i = -1)) N (fun i hi => by rw [upd_n _ _ (by omega)])]
    by_cases q : w = -1
    · rw [if_pos q, if_pos (decide_eq_true q), nI_1]
    · rw [if_neg q, if_neg (by simpa using q), Int32.add_zero]
      rfl
  · rw [m23, m24, m25, m26, d12, d13, d14, d15]
    have hk : ∀ i, i < N → D 15 i = M 26 i := fun i hi => (hA.2 i hi).2.2.1
    by_cases q : i = N
    · subst q
      simp only [upd_s]
      refine ⟨trivial, ?_, by rw [kd_N hop, kd_N hop], fun z => (hf z).1, hd, fun z c hc => ?_⟩
      · cases op with
        | none => exact fun z => absurd (hO.1 rfl) (by omega)
        | some j =>
          intro _
          show _ = upd (M 25) i (M 26 j) i
          rw [upd_s]
          exact hk j (hop j rfl)
      · obtain ⟨x, -, e1, e2⟩ := (hf z).2 c hc
        rw [e1, e2]
    · obtain ⟨a1, a2, a3, a4, a5, a6⟩ := hA.2 i (by omega)
      simp only [upd_n _ _ q]
      refine ⟨a1, fun z => ?_, kd_i (by omega) hop hk, a4, a5, fun z c hc => ?_⟩
      · rw [a2 z]
        cases op with
        | none => rfl
        | some j => exact (upd_n _ _ q).symm
      · rw [m27 _ (by omega), d18 _ (by omega)]
        exact a6 z c hc
/-! running on -/
theorem run_ok {T : Nat → Int32} {M M' : Mem} {k : Nat} (hk : k < 60) (h7 : grun T M k 22 7 = nI k) (h8 : grun T M k 22 8 = -1) (hg : f_X2_goesOn (T k) (grun T M k) = some (true, M')) (h7' : M' 22 7 = nI k) : grun T M (k + 1) = st2 M' 22 7 (nI (k + 1)) := by
  rw [grun]
  unfold gstep
  rw [add_go hk h7 h8 hg h7']
  rfl
theorem bk_run {T : Nat → Int32} {M : Mem} (hM : g0 M) {k f : Nat} (hf : f < 60) (h8 : grun T M k 22 8 = nI f) : ∀ d, k + d ≤ 60 → grun T M (k + d) 22 8 = nI f
  | 0, _ => h8
  | d + 1, h => by
    have ih := bk_run hM hf h8 d (by omega)
    rw [← Nat.add_assoc, grun]
    unfold gstep
    rw [add_bk (T (k + d)) (show k + d < 60 by omega) hf (CL_run hM (k + d) (by omega)).1 ih]
    exact ih
theorem run_bad {T : Nat → Int32} {M : Mem} (hM : g0 M) {k n : Nat} (hn : n ≤ 60) (hk : k < n) (h7 : grun T M k 22 7 = nI k) (h8 : grun T M k 22 8 = -1) (hg : f_X2_goesOn (T k) (grun T M k) = some (false, grun T M k)) : f_X2_faultPlace (grun T M n) = nI k := by
  have e : grun T M (k + 1) 22 8 = nI k := by
    rw [grun]
    unfold gstep
    rw [add_go (by omega) h7 h8 hg h7]
    rfl
  obtain ⟨d, rfl⟩ : ∃ d, n = k + 1 + d := ⟨n - (k + 1), by omega⟩
  have := bk_run hM (show k < 60 by omega) e d hn
  unfold f_X2_faultPlace
  rw [this, if_neg (nI_n1 (by omega))]
theorem fl_ph {M : Mem} {n ph : Nat} (h7 : M 22 7 = nI n) (h8 : M 22 8 = -1) (h9 : M 22 9 = nI ph) (hp : ph < 4) : f_X2_faultPlace M = nI n := by
  unfold f_X2_faultPlace
  rw [h8, if_pos rfl, h9, if_neg (show ¬ nI ph = (4 : Int32) from fun q => by have := (eq_nI (b := 4) (by omega) (by decide)).mp q; omega), h7]
theorem fl_op {M : Mem} {n j : Nat} (hj : j ≤ 60) (h7 : M 22 7 = nI n) (h8 : M 22 8 = -1) (h9 : M 22 9 = 4) (h10 : M 22 10 = nI j) : f_X2_faultPlace M = nI n := by
  unfold f_X2_faultPlace
  rw [h8, if_pos rfl, h9, if_pos rfl, h10, if_neg (nI_n1 (by omega)), h7]
theorem byte_D {D : Mem} {n : Nat} (hn : n ≤ 60) (h15 : D 0 15 = nI n) (k : Nat) (hk : k ≤ 60) : f_X12_byteAt (nI k) D = some (if n ≤ k then -1 else D 11 k) := by
  unfold f_X12_byteAt
  rw [h15]
  by_cases q : n ≤ k
  · rw [if_pos ((le_nI (by omega) (by omega)).mpr q), if_pos q]
  · rw [if_neg (by rw [le_nI (by omega) (by omega)]; exact q), if_neg q, gdn (by omega) (by decide), cl_nI (by omega)]
