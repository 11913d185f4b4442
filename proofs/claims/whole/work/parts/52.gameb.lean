/-! a node more, in the class's memory and in the model's -/
def opI (op : Option Nat) : Int32 := match op with
  | none => -1
  | some j => nI j
def pl (f : Nat → Int32) (op : Option Nat) : Int32 := match op with
  | none => 0
  | some j => f j
def plc (f g : Nat → Int32) (N : Nat) (op : Option Nat) : Nat → Int32 := match op with
  | none => f
  | some j => upd f N (g j)
def kd (f : Nat → Int32) (N : Nat) (op : Option Nat) : Nat → Int32 := match op with
  | none => upd f N 0
  | some j => upd (upd f N 0) j (f j + 1)
theorem upd_upd (f : Nat → Int32) (k : Nat) (x y : Int32) : upd (upd f k x) k y = upd f k y := by
  funext j
  unfold upd
  split <;> rfl
theorem nI_n1 {j : Nat} (h : j ≤ 1000000) : ¬ nI j = -1 := fun q => by
  have := congrArg Int32.toInt q
  rw [nI_toInt (by omega)] at this
  have h2 : (-1 : Int32).toInt = -1 := by decide
  omega
theorem start_C {M : Mem} {N : Nat} {op : Option Nat} (hN : N < 60) (h11 : M 22 11 = nI N) (h10 : M 22 10 = opI op) (hop : ∀ j, op = some j → j < N) (w : Int32) : ∃ S, f_X2_startNode w M = some S ∧ S 22 = upd (M 22) 11 (nI (N + 1)) ∧ S 23 = upd (M 23) N w ∧ S 24 = upd (M 24) N (opI op) ∧ S 25 = plc (M 25) (M 26) N op ∧ S 26 = kd (M 26) N op ∧ S 27 = M 27 := by
  unfold f_X2_startNode B_X2_startNode_72
  simp only [sto_x]
  have a1 : ∀ (A : Mem) (i : Nat) (v : Int32), st2 A 23 i v 22 = A 22 := fun A i v => st2_n _ _ _ (by decide)
  have a2 : ∀ (A : Mem) (i : Nat) (v : Int32), st2 A 24 i v 22 = A 22 := fun A i v => st2_n _ _ _ (by decide)
  have a3 : ∀ (A : Mem) (i : Nat) (v : Int32), st2 A 25 i v 22 = A 22 := fun A i v => st2_n _ _ _ (by decide)
  have a4 : ∀ (A : Mem) (i : Nat) (v : Int32), st2 A 26 i v 22 = A 22 := fun A i v => st2_n _ _ _ (by decide)
  have a5 : ∀ (A : Mem) (i : Nat) (v : Int32), st2 A 25 i v 26 = A 26 := fun A i v => st2_n _ _ _ (by decide)
  have a6 : ∀ (A : Mem) (i : Nat) (v : Int32), st2 A 26 i v 26 = upd (A 26) i v := fun A i v => st2_s _ _ _ _
  have a7 : ∀ (A : Mem) (i : Nat) (v : Int32), st2 A 24 i v 26 = A 26 := fun A i v => st2_n _ _ _ (by decide)
  have a8 : ∀ (A : Mem) (i : Nat) (v : Int32), st2 A 23 i v 26 = A 26 := fun A i v => st2_n _ _ _ (by decide)
  simp only [a1, a2, a3, a4, a5, a6, a7, a8, h11, h10, gdn hN (show 60 ≤ 1000000 by decide), cl_nI (show N ≤ 1000000 by omega)]
  cases op with
  | none =>
    rw [if_pos (show opI none = -1 from rfl), nI_1]
    refine ⟨_, rfl, ?_, ?_, ?_, ?_, ?_, ?_⟩
    · rw [st2_s, a4, a2, a1]
    · rw [st2_n _ _ _ (by decide), st2_n _ _ _ (by decide), st2_n _ _ _ (by decide), st2_s]
    · rw [st2_n _ _ _ (by decide), st2_n _ _ _ (by decide), st2_s, st2_n _ _ _ (by decide)]
    · rw [st2_n _ _ _ (by decide), st2_n _ _ _ (by decide), st2_n _ _ _ (by decide), st2_n _ _ _ (by decide)]
      rfl
    · rw [st2_n _ _ _ (by decide), a6, a7, a8]
      rfl
    · rw [st2_n _ _ _ (by decide), st2_n _ _ _ (by decide), st2_n _ _ _ (by decide), st2_n _ _ _ (by decide)]
  | some j =>
    have hj := hop j rfl
    have ej : opI (some j) = nI j := rfl
    rw [ej, if_neg (nI_n1 (by omega))]
    simp only [gdn (show j < 60 by omega) (show 60 ≤ 1000000 by decide), cl_nI (show j ≤ 1000000 by omega), upd_n _ _ (show j ≠ N by omega), nI_1]
    refine ⟨_, rfl, ?_, ?_, ?_, ?_, ?_, ?_⟩
    · rw [st2_s, a4, a3, a4, a2, a1]
    · rw [st2_n _ _ _ (by decide), st2_n _ _ _ (by decide), st2_n _ _ _ (by decide), st2_n _ _ _ (by decide), st2_n _ _ _ (by decide), st2_s]
    · rw [st2_n _ _ _ (by decide), st2_n _ _ _ (by decide), st2_n _ _ _ (by decide), st2_n _ _ _ (by decide), st2_s, st2_n _ _ _ (by decide)]
    · rw [st2_n _ _ _ (by decide), st2_n _ _ _ (by decide), st2_s, st2_n _ _ _ (by decide), st2_n _ _ _ (by decide), st2_n _ _ _ (by decide)]
      rfl
    · rw [st2_n _ _ _ (by decide), a6, a5, a6, a7, a8]
      rfl
    · rw [st2_n _ _ _ (by decide), st2_n _ _ _ (by decide), st2_n _ _ _ (by decide), st2_n _ _ _ (by decide), st2_n _ _ _ (by decide), st2_n _ _ _ (by decide)]
theorem more_D {M : Mem} {N : Nat} {op : Option Nat} (hN : N < 60) (h17 : M 0 17 = nI N) (hop : ∀ j, op = some j → j < N) (w : Int32) : ∃ S, f_X12_nodeMore w (opI op) M = some S ∧ S 0 = upd (M 0) 17 (nI (N + 1)) ∧ S 12 = upd (M 12) N w ∧ S 13 = upd (M 13) N (opI op) ∧ S 14 = upd (M 14) N (pl (M 15) op) ∧ S 15 = kd (M 15) N op ∧ ∀ k, k ≠ 0 → ¬ (12 ≤ k ∧ k ≤ 15) → S k = M k := by
  unfold f_X12_nodeMore B_X12_nodeMore_53 B_X12_nodeMore_69
  simp only [sto_x]
  have a1 : ∀ (A : Mem) (i : Nat) (v : Int32), st2 A 12 i v 0 = A 0 := fun A i v => st2_n _ _ _ (by decide)
  have a2 : ∀ (A : Mem) (i : Nat) (v : Int32), st2 A 13 i v 0 = A 0 := fun A i v => st2_n _ _ _ (by decide)
  have a3 : ∀ (A : Mem) (i : Nat) (v : Int32), st2 A 14 i v 0 = A 0 := fun A i v => st2_n _ _ _ (by decide)
  have a4 : ∀ (A : Mem) (i : Nat) (v : Int32), st2 A 15 i v 0 = A 0 := fun A i v => st2_n _ _ _ (by decide)
  have a5 : ∀ (A : Mem) (i : Nat) (v : Int32), st2 A 14 i v 15 = A 15 := fun A i v => st2_n _ _ _ (by decide)
  have a6 : ∀ (A : Mem) (i : Nat) (v : Int32), st2 A 15 i v 15 = upd (A 15) i v := fun A i v => st2_s _ _ _ _
  have a7 : ∀ (A : Mem) (i : Nat) (v : Int32), st2 A 13 i v 15 = A 15 := fun A i v => st2_n _ _ _ (by decide)
  have a8 : ∀ (A : Mem) (i : Nat) (v : Int32), st2 A 12 i v 15 = A 15 := fun A i v => st2_n _ _ _ (by decide)
  simp only [a1, a2, a3, a4, a5, a6, a7, a8, h17, gdn hN (show 60 ≤ 1000000 by decide), cl_nI (show N ≤ 1000000 by omega)]
  cases op with
  | none =>
    rw [if_pos (show opI none = -1 from rfl), if_pos (show opI none = -1 from rfl), nI_1]
    refine ⟨_, rfl, ?_, ?_, ?_, ?_, ?_, ?_⟩
    · rw [st2_s, a3, a4, a2, a1]
    · rw [st2_n _ _ _ (by decide), st2_n _ _ _ (by decide), st2_n _ _ _ (by decide), st2_n _ _ _ (by decide), st2_s]
    · rw [st2_n _ _ _ (by decide), st2_n _ _ _ (by decide), st2_n _ _ _ (by decide), st2_s, st2_n _ _ _ (by decide)]
    · rw [st2_n _ _ _ (by decide), st2_s, st2_n _ _ _ (by decide), st2_n _ _ _ (by decide), st2_n _ _ _ (by decide)]
      rfl
    · rw [st2_n _ _ _ (by decide), a5, a6, a7, a8]
      rfl
    · intro k k0 k1
      rw [st2_n _ _ _ (by omega), st2_n _ _ _ (by omega), st2_n _ _ _ (by omega), st2_n _ _ _ (by omega), st2_n _ _ _ (by omega)]
  | some j =>
    have hj := hop j rfl
    have ej : opI (some j) = nI j := rfl
    rw [ej, if_neg (nI_n1 (by omega))]
    simp only [if_neg (nI_n1 (show j ≤ 1000000 by omega)), gdn (show j < 60 by omega) (show 60 ≤ 1000000 by decide), cl_nI (show j ≤ 1000000 by omega), upd_n _ _ (show j ≠ N by omega), nI_1]
    refine ⟨_, rfl, ?_, ?_, ?_, ?_, ?_, ?_⟩
    · rw [st2_s, a4, a3, a4, a2, a1]
    · rw [st2_n _ _ _ (by decide), st2_n _ _ _ (by decide), st2_n _ _ _ (by decide), st2_n _ _ _ (by decide), st2_n _ _ _ (by decide), st2_s]
    · rw [st2_n _ _ _ (by decide), st2_n _ _ _ (by decide), st2_n _ _ _ (by decide), st2_n _ _ _ (by decide), st2_s, st2_n _ _ _ (by decide)]
    · rw [st2_n _ _ _ (by decide), st2_n _ _ _ (by decide), st2_s, st2_n _ _ _ (by decide), st2_n _ _ _ (by decide), st2_n _ _ _ (by decide)]
      rfl
    · rw [st2_n _ _ _ (by decide), a6, a5, a6, a7, a8]
      rfl
    · intro k k0 k1
      rw [st2_n _ _ _ (by omega), st2_n _ _ _ (by omega), st2_n _ _ _ (by omega), st2_n _ _ _ (by omega), st2_n _ _ _ (by omega), st2_n _ _ _ (by omega)]
/-! a byte more -/
theorem add_go {M M' : Mem} {k : Nat} {b : Int32} {ok : Bool} (hk : k < 60) (h7 : M 22 7 = nI k) (h8 : M 22 8 = -1) (hg : f_X2_goesOn b M = some (ok, M')) (h7' : M' 22 7 = nI k) : f_X2_add b M = some (nI (k + 1), st2 (if ok = true then M' else st2 M' 22 8 (nI k)) 22 7 (nI (k + 1))) := by
  unfold f_X2_add B_X2_add_36
  rw [h7, if_pos (show nI k < (60 : Int32) from (lt_nI (b := 60) (by omega) (by decide)).mpr hk), if_pos h8, hg, bnd2_e]
  simp only [sto_x]
  cases ok
  · rw [if_neg (by decide), if_neg (by decide), h7', show st2 M' 22 8 (nI k) 22 7 = M' 22 7 from rfl, h7', nI_1]
    rfl
  · rw [if_pos rfl, if_pos rfl, h7', nI_1]
    rfl
theorem add_bk {M : Mem} {k f : Nat} (b : Int32) (hk : k < 60) (hf : f < 60) (h7 : M 22 7 = nI k) (h8 : M 22 8 = nI f) : f_X2_add b M = some (nI (k + 1), st2 M 22 7 (nI (k + 1))) := by
  unfold f_X2_add B_X2_add_36
  rw [h7, if_pos (show nI k < (60 : Int32) from (lt_nI (b := 60) (by omega) (by decide)).mpr hk), h8, if_neg (nI_n1 (by omega)), sto_x, nI_1]
  rfl
/-! what a byte does in each phase -/
theorem go0_let {M S : Mem} {b w : Int32} (h9 : M 22 9 = 0) (hw : f_X2_playerOf b = w) (hn : ¬ w = -1) (hS : f_X2_startNode w M = some S) : f_X2_goesOn b M = some (true, st2 S 22 9 1) := by
  unfold f_X2_goesOn f_X2_beginsNode B_X2_beginsNode_19
  rw [h9, if_pos rfl, bnd2_id, lt_x, hw, if_neg hn, hS, bnd_e, if_neg hn, sto_x]
theorem go0_fig {M S : Mem} {b : Int32} {N : Nat} (hN : N < 60) (h9 : M 22 9 = 0) (hw : f_X2_playerOf b = -1) (hf : f_X2_isFigure b = true) (hS : f_X2_startNode (-1) M = some S) (h11 : S 22 11 = nI (N + 1)) : f_X2_goesOn b M = some (true, st2 (st2 (st2 S 22 12 (S 22 12 + 1)) 27 (3 * N) (b - 48)) 22 9 2) := by
  unfold f_X2_goesOn f_X2_beginsNode B_X2_beginsNode_19 f_X2_isNextFigure
  have e : (st2 S 22 12 (S 22 12 + 1) 22 11 - 1) * 3 + 0 = nI (3 * N) := by
    rw [show st2 S 22 12 (S 22 12 + 1) 22 11 = S 22 11 from rfl, h11, nI_pred, show (3 : Int32) = nI 3 from rfl, pk_mul, Int32.add_zero, Nat.mul_comm]
  rw [h9, if_pos rfl, bnd2_id, lt_x, hw, if_pos rfl, if_pos hf, hS, bnd_e, if_pos rfl, sto_x, bnd2_id, if_pos hf, e, gdn (by omega) (by decide), cl_nI (by omega), sto_x, sto_x]
theorem go0_bad {M : Mem} {b : Int32} (h9 : M 22 9 = 0) (hw : f_X2_playerOf b = -1) (hf : ¬ f_X2_isFigure b = true) : f_X2_goesOn b M = some (false, M) := by
  unfold f_X2_goesOn f_X2_beginsNode
  rw [h9, if_pos rfl, bnd2_id, lt_x, hw, if_pos rfl, if_neg hf]
theorem go1 {M : Mem} (b : Int32) (h9 : M 22 9 = 1) : f_X2_goesOn b M = if b = 40 then some (true, st2 (st2 M 22 10 (M 22 11 - 1)) 22 9 0) else some (false, M) := by
  unfold f_X2_goesOn f_X2_opens
  rw [h9, if_neg (by decide), if_pos rfl, bnd2_id]
  simp only [sto_x]
theorem go_fig {M : Mem} {b a c : Int32} {N x : Nat} (hN : N < 60) (hx : x < 3) (h11 : M 22 11 = nI (N + 1)) (ha : a = nI x) : f_X2_isNextFigure b a c M = if f_X2_isFigure b = true then some (true, st2 (st2 M 27 (3 * N + x) (b - 48)) 22 9 c) else some (false, M) := by
  unfold f_X2_isNextFigure
  rw [h11, nI_pred, show (3 : Int32) = nI 3 from rfl, pk_mul, ha, nI_add, show N * 3 + x = 3 * N + x by omega, gdn (by omega) (by decide), cl_nI (by omega), sto_x, sto_x]
theorem go2 {M : Mem} {N : Nat} (b : Int32) (hN : N < 60) (h11 : M 22 11 = nI (N + 1)) (h9 : M 22 9 = 2) : f_X2_goesOn b M = if f_X2_isFigure b = true then some (true, st2 (st2 M 27 (3 * N + 1) (b - 48)) 22 9 3) else some (false, M) := by
  unfold f_X2_goesOn
  rw [h9, if_neg (by decide), if_neg (by decide), if_pos rfl, bnd2_id, go_fig (a := 1) hN (show 1 < 3 by decide) h11 rfl]
theorem go3 {M : Mem} {N : Nat} (b : Int32) (hN : N < 60) (h11 : M 22 11 = nI (N + 1)) (h9 : M 22 9 = 3) : f_X2_goesOn b M = if f_X2_isFigure b = true then some (true, st2 (st2 M 27 (3 * N + 2) (b - 48)) 22 9 4) else some (false, M) := by
  unfold f_X2_goesOn
  rw [h9, if_neg (by decide), if_neg (by decide), if_neg (by decide), if_pos rfl, bnd2_id, go_fig (a := 2) hN (show 2 < 3 by decide) h11 rfl]
theorem go4n {M : Mem} (b : Int32) (h9 : M 22 9 = 4) (h10 : M 22 10 = -1) : f_X2_goesOn b M = some (false, M) := by
  unfold f_X2_goesOn f_X2_followsNode
  rw [h9, if_neg (by decide), if_neg (by decide), if_neg (by decide), if_neg (by decide), bnd2_id, h10, if_pos rfl]
theorem go4s {M : Mem} {j : Nat} (b : Int32) (hj : j < 60) (h9 : M 22 9 = 4) (h10 : M 22 10 = nI j) : f_X2_goesOn b M = if b = 44 ∧ ¬ 4 ≤ M 26 j then some (true, st2 M 22 9 0) else if b = 41 then some (true, st2 M 22 10 (M 24 j)) else some (false, M) := by
  unfold f_X2_goesOn f_X2_followsNode B_X2_followsNode_36
  rw [h9, if_neg (by decide), if_neg (by decide), if_neg (by decide), if_neg (by decide), bnd2_id, h10, if_neg (nI_n1 (by omega)), gdn hj (by decide), gdn hj (by decide), cl_nI (by omega)]
  simp only [sto_x]
  by_cases h1 : b = 44
  · rw [if_pos h1]
    by_cases h2 : (4 : Int32) ≤ M 26 j
    · rw [if_pos h2, if_neg (c := b = 44 ∧ ¬ 4 ≤ M 26 j) (fun z => z.2 h2)]
    · rw [if_neg h2, if_pos (c := b = 44 ∧ ¬ 4 ≤ M 26 j) ⟨h1, h2⟩]
  · rw [if_neg h1, if_neg (c := b = 44 ∧ ¬ 4 ≤ M 26 j) (fun z => h1 z.1)]
/-- what holds of the class's game behind k bytes -/
def CU (k : Nat) (M : Mem) : Prop := ∃ N ph op, ph ≤ 4 ∧ M 22 9 = nI ph ∧ M 22 11 = nI N ∧ M 22 10 = opI op ∧ (∀ j, op = some j → j < N) ∧ (ph = 0 → 2 * N ≤ k) ∧ 2 * N ≤ k + 1 ∧ (1 ≤ ph → 1 ≤ N) ∧ ∀ i, i < N → ∃ o, M 24 i = opI o ∧ ∀ j, o = some j → j < N
def CL (k : Nat) (M : Mem) : Prop := M 22 7 = nI k ∧ ((∃ f, f < 60 ∧ M 22 8 = nI f) ∨ (M 22 8 = -1 ∧ CU k M))
theorem CU_bad {k : Nat} {M : Mem} (hk : k < 60) (h7 : M 22 7 = nI k) : CL (k + 1) (st2 (st2 M 22 8 (nI k)) 22 7 (nI (k + 1))) := ⟨rfl, Or.inl ⟨k, hk, rfl⟩⟩
theorem CU_ok {k : Nat} {M : Mem} (hb : M 22 8 = -1) (h : CU (k + 1) M) : CL (k + 1) (st2 M 22 7 (nI (k + 1))) := ⟨rfl, Or.inr ⟨hb, h⟩⟩
theorem CL_step {k : Nat} {M : Mem} (hk : k < 60) (h : CL k M) (b : Int32) : ∃ M', f_X2_add b M = some (nI (k + 1), M') ∧ CL (k + 1) M' := by
  obtain ⟨h7, ⟨f, hf, h8⟩ | ⟨h8, N, ph, op, hph, h9, h11, h10, hop, hN0, hN1, hN2, h24⟩⟩ := h
  · exact ⟨_, add_bk b hk hf h7 h8, rfl, Or.inl ⟨f, hf, h8⟩⟩
  · have bad : f_X2_goesOn b M = some (false, M) → ∃ M', f_X2_add b M = some (nI (k + 1), M') ∧ CL (k + 1) M' := fun e => ⟨_, add_go hk h7 h8 e h7, CU_bad hk h7⟩
    rcases (show ph = 0 ∨ ph = 1 ∨ ph = 2 ∨ ph = 3 ∨ ph = 4 by omega) with e | e | e | e | e
    · subst e
      have hN := hN0 rfl
      by_cases q1 : f_X2_playerOf b = -1
      · by_cases q2 : f_X2_isFigure b = true
        · obtain ⟨S, e1, s22, s23, s24, s25, s26, s27⟩ := start_C (show N < 60 by omega) h11 h10 hop (-1)
          have t11 : S 22 11 = nI (N + 1) := by rw [s22, upd_s]
          have t7 : S 22 7 = nI k := by rw [s22, upd_n _ _ (by decide)]; exact h7
          have t8 : S 22 8 = -1 := by rw [s22, upd_n _ _ (by decide)]; exact h8
          have t10 : S 22 10 = opI op := by rw [s22, upd_n _ _ (by decide)]; exact h10
          refine ⟨_, add_go hk h7 h8 (go0_fig (show N < 60 by omega) h9 q1 q2 e1 t11) t7, CU_ok t8 ⟨N + 1, 2, op, by decide, rfl, t11, t10, fun j hj => by have := hop j hj; omega, fun z => by omega, by omega, fun _ => by omega, fun i hi => ?_⟩⟩
          show ∃ o, S 24 i = opI o ∧ _
          rw [s24]
          by_cases q : i = N
          · subst q; rw [upd_s]; exact ⟨op, rfl, fun j hj => by have := hop j hj; omega⟩
          · rw [upd_n _ _ q]
            obtain ⟨o, o1, o2⟩ := h24 i (by omega)
            exact ⟨o, o1, fun j hj => by have := o2 j hj; omega⟩
        · exact bad (go0_bad h9 q1 q2)
      · obtain ⟨S, e1, s22, s23, s24, s25, s26, s27⟩ := start_C (show N < 60 by omega) h11 h10 hop (f_X2_playerOf b)
        have t11 : S 22 11 = nI (N + 1) := by rw [s22, upd_s]
        have t7 : S 22 7 = nI k := by rw [s22, upd_n _ _ (by decide)]; exact h7
        have t8 : S 22 8 = -1 := by rw [s22, upd_n _ _ (by decide)]; exact h8
        have t10 : S 22 10 = opI op := by rw [s22, upd_n _ _ (by decide)]; exact h10
        refine ⟨_, add_go hk h7 h8 (go0_let h9 rfl q1 e1) t7, CU_ok t8 ⟨N + 1, 1, op, by decide, rfl, t11, t10, fun j hj => by have := hop j hj; omega, fun z => by omega, by omega, fun _ => by omega, fun i hi => ?_⟩⟩
        show ∃ o, S 24 i = opI o ∧ _
        rw [s24]
        by_cases q : i = N
        · subst q; rw [upd_s]; exact ⟨op, rfl, fun j hj => by have := hop j hj; omega⟩
        · rw [upd_n _ _ q]
          obtain ⟨o, o1, o2⟩ := h24 i (by omega)
          exact ⟨o, o1, fun j hj => by have := o2 j hj; omega⟩
    · subst e
      have hN := hN2 (by decide)
      by_cases q : b = 40
      · have eg := go1 b h9
        rw [if_pos q, h11] at eg
        refine ⟨_, add_go hk h7 h8 eg h7, CU_ok h8 ⟨N, 0, some (N - 1), by decide, rfl, h11, ?_, fun j hj => by cases hj; omega, fun _ => by omega, by omega, fun z => by omega, h24⟩⟩
        show nI N - 1 = nI (N - 1)
        rw [show (1 : Int32) = nI 1 from rfl, pk_sub hN]
      · have eg := go1 b h9
        rw [if_neg q] at eg
        exact bad eg
    · subst e
      have hN := hN2 (by decide)
      obtain ⟨N', rfl⟩ : ∃ N', N = N' + 1 := ⟨N - 1, by omega⟩
      have eg := go2 b (show N' < 60 by omega) h11 h9
      by_cases q : f_X2_isFigure b = true
      · rw [if_pos q] at eg
        exact ⟨_, add_go hk h7 h8 eg h7, CU_ok h8 ⟨N' + 1, 3, op, by decide, rfl, h11, h10, hop, fun z => by omega, by omega, fun _ => by omega, h24⟩⟩
      · rw [if_neg q] at eg
        exact bad eg
    · subst e
      have hN := hN2 (by decide)
      obtain ⟨N', rfl⟩ : ∃ N', N = N' + 1 := ⟨N - 1, by omega⟩
      have eg := go3 b (show N' < 60 by omega) h11 h9
      by_cases q : f_X2_isFigure b = true
      · rw [if_pos q] at eg
        exact ⟨_, add_go hk h7 h8 eg h7, CU_ok h8 ⟨N' + 1, 4, op, by decide, rfl, h11, h10, hop, fun z => by omega, by omega, fun _ => by omega, h24⟩⟩
      · rw [if_neg q] at eg
        exact bad eg
    · subst e
      have hN := hN2 (by decide)
      cases op with
      | none => exact bad (go4n b h9 h10)
      | some j =>
        have hj := hop j rfl
        have eg := go4s b (show j < 60 by omega) h9 h10
        by_cases q : b = 44 ∧ ¬ 4 ≤ M 26 j
        · rw [if_pos q] at eg
          exact ⟨_, add_go hk h7 h8 eg h7, CU_ok h8 ⟨N, 0, some j, by decide, rfl, h11, h10, hop, fun z => by omega, by omega, fun _ => by omega, h24⟩⟩
        · rw [if_neg q] at eg
          by_cases q2 : b = 41
          · rw [if_pos q2] at eg
            obtain ⟨o, o1, o2⟩ := h24 j hj
            exact ⟨_, add_go hk h7 h8 eg h7, CU_ok h8 ⟨N, 4, o, by decide, h9, h11, o1, o2, fun z => by omega, by omega, fun _ => by omega, h24⟩⟩
          · rw [if_neg q2] at eg
            exact bad eg
theorem CL_0 {M : Mem} (h : g0 M) : CL 0 M := by
  obtain ⟨h7, h8, h9, h10, h11, h12⟩ := h
  exact ⟨h7, Or.inr ⟨h8, 0, 0, none, by decide, h9, h11, h10, (fun j hj => by cases hj), fun _ => by omega, by omega, fun z => by omega, fun i hi => absurd hi (Nat.not_lt_zero i)⟩⟩
theorem CL_run {T : Nat → Int32} {M : Mem} (h : g0 M) : ∀ k, k ≤ 60 → CL k (grun T M k)
  | 0, _ => CL_0 h
  | k + 1, hk => by
    obtain ⟨M', e, hM⟩ := CL_step (show k < 60 by omega) (CL_run h k (by omega)) (T k)
    rw [grun]
    unfold gstep
    rw [e]
    exact hM
theorem run_s {T : Nat → Int32} {M : Mem} (h : g0 M) {k : Nat} (hk : k < 60) (b : Int32) : f_X2_add b (grun T M k) = some (nI (k + 1), gstep b (grun T M k)) := by
  obtain ⟨M', e, -⟩ := CL_step hk (CL_run h k (by omega)) b
  unfold gstep
  rw [e]
theorem grun_congr {T T' : Nat → Int32} (M : Mem) : ∀ n, (∀ k, k < n → T k = T' k) → grun T M n = grun T' M n
  | 0, _ => rfl
  | n + 1, h => by rw [grun, grun, grun_congr M n (fun k hk => h k (by omega)), h n (by omega)]
theorem len_G {C D : Mem} (h : RG C D) : C 22 7 = D 0 15 := by
  obtain ⟨n, M, hn, d15, -, hg, hc⟩ := h
  rw [d15, hc 22 (by decide) (by decide)]
  exact (CL_run hg n hn).1
theorem ok_type {C D : Mem} (hI : Inv C D) (a1 : Int32) : ∃ (r : Int32) (C1 : Mem) (D1 : Mem), f_X11_type a1 C = some (r, C1) ∧ f_X12_type a1 D = some (r, D1) ∧ Inv C1 D1 := by
  obtain ⟨n, M, hn, d15, hx, hg, hc⟩ := hI.2.2.2.2.2.2.2
  unfold f_X11_type f_X12_type
  rw [wi_in, bnd2_id]
  by_cases h1 : f_X12_in a1 0 255 = true
  · rw [if_pos h1, if_pos h1]
    obtain ⟨x, hx255, rfl⟩ := in_nI (n := 255) rfl (by decide) h1
    by_cases hf : n = 60
    · subst hf
      have h7 : C 22 7 = nI 60 := by rw [hc 22 (by decide) (by decide)]; exact (CL_run hg 60 (by decide)).1
      refine ⟨-4, C, D, ?_, by rw [d15, if_pos (show nI 60 = (60 : Int32) from rfl)], hI⟩
      unfold f_X2_add
      rw [h7, if_neg (by decide)]
    · have hlt : n < 60 := by omega
      have e1 : f_X2_add (nI x) C = some (nI (n + 1), ov C (gstep (nI x) (grun (D 11) M n))) := by
        have := ov_add C (grun (D 11) M n) (nI x)
        rw [← ov_eq hc, run_s hg hlt] at this
        exact this
      rw [e1, d15, if_neg (show ¬ nI n = (60 : Int32) from fun q => hf ((eq_nI (b := 60) (by omega) (by decide)).mp q)), gdn hlt (by decide), cl_nI (by omega), sto_x, sto_x, show st2 D 11 n (nI x) 0 15 = D 0 15 from rfl, d15, nI_1]
      refine ⟨nI (n + 1), _, _, rfl, rfl, ?_⟩
      · obtain ⟨h1, h2, h3, h5, h6, h7, h8, h9⟩ := hI
        refine ⟨keepP h1 rfl rfl rfl rfl rfl rfl rfl rfl rfl rfl rfl rfl rfl rfl rfl rfl, keepW h2 rfl rfl rfl rfl rfl rfl, keepB h3 rfl rfl rfl rfl rfl rfl, keepT h5 rfl rfl rfl rfl, keepS h6 rfl rfl, keepR h7 rfl rfl rfl rfl rfl rfl, keepH h8 rfl rfl rfl rfl rfl rfl rfl rfl rfl, ⟨n + 1, M, hlt, rfl, fun j hj => ?_, hg, fun c a b => ?_⟩⟩
        · show ∃ y, y ≤ 255 ∧ upd (D 11) n (nI x) j = nI y
          by_cases q : j = n
          · subst q; rw [upd_s]; exact ⟨x, hx255, rfl⟩
          · rw [upd_n _ _ q]; exact hx j (by omega)
        · show ov C _ c = grun (upd (D 11) n (nI x)) M (n + 1) c
          rw [grun, upd_s, grun_congr (T' := D 11) M n (fun k hk => upd_n _ _ (by omega))]
          unfold ov
          rw [if_pos ⟨a, b⟩]
  · exact ⟨-2, C, D, by rw [if_neg h1], by rw [if_neg h1], hI⟩
theorem ok_wipe {C D : Mem} (hI : Inv C D) : ∃ (r : Int32) (C1 : Mem) (D1 : Mem), f_X11_wipe C = some (r, C1) ∧ f_X12_wipe D = some (r, D1) ∧ Inv C1 D1 := by
  have h7 := len_G hI.2.2.2.2.2.2.2
  unfold f_X11_wipe f_X12_wipe f_X2_clear
  simp only [lt_x, sto_x, bnd2_e]
  refine ⟨D 0 15, _, _, by rw [h7], rfl, ?_⟩
  obtain ⟨h1, h2, h3, h5, h6, h7, h8, h9⟩ := hI
  exact ⟨keepP h1 rfl rfl rfl rfl rfl rfl rfl rfl rfl rfl rfl rfl rfl rfl rfl rfl, keepW h2 rfl rfl rfl rfl rfl rfl, keepB h3 rfl rfl rfl rfl rfl rfl, keepT h5 rfl rfl rfl rfl, keepS h6 rfl rfl, keepR h7 rfl rfl rfl rfl rfl rfl, keepH h8 rfl rfl rfl rfl rfl rfl rfl rfl rfl, ⟨0, _, by decide, rfl, fun j hj => absurd hj (Nat.not_lt_zero j), ⟨rfl, rfl, rfl, rfl, rfl, rfl⟩, fun c a b => rfl⟩⟩
theorem ok_count {C D : Mem} (hI : Inv C D) (a1 : Int32) : ∃ (r : Int32), f_X11_count a1 C = some r ∧ f_X12_count a1 D = some r ∧ Inv C D := by
  obtain ⟨n, hP⟩ := hI.1
  obtain ⟨nw, -, w1, w2, -⟩ := hI.2.1
  obtain ⟨⟨nb, -, b1, b2, -⟩, -⟩ := hI.2.2.1
  obtain ⟨nt, -, t1, t2, -⟩ := hI.2.2.2.1
  obtain ⟨nr, -, r1, r2, -⟩ := hI.2.2.2.2.2.1
  have h43 := hI.2.2.2.2.2.2.1.2.2
  have h7 := len_G hI.2.2.2.2.2.2.2
  obtain ⟨z, -, z1, z2⟩ := hP.2.2.2.1
  unfold f_X11_count f_X12_count
  rw [known_C hP, known_D hP.1 hP.2.2.1, bnd_id, hP.2.1, hP.2.2.1, w1, w2, b1, b2, t1, t2, r1, r2, h43, h7, z1, z2]
  split
  · exact ⟨_, rfl, rfl, hI⟩
  split
  · exact ⟨_, rfl, rfl, hI⟩
  split
  · exact ⟨_, rfl, rfl, hI⟩
  split
  · exact ⟨_, rfl, rfl, hI⟩
  split
  · exact ⟨_, rfl, rfl, hI⟩
  split
  · exact ⟨_, rfl, rfl, hI⟩
  split
  · exact ⟨_, rfl, rfl, hI⟩
  split
  · exact ⟨_, rfl, rfl, hI⟩
  split
  · exact ⟨_, rfl, rfl, hI⟩
  · exact ⟨_, rfl, rfl, hI⟩
