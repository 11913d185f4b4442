/-! the game's cells laid over a memory -/
def ov (C M : Mem) : Mem := fun k => if 22 ≤ k ∧ k ≤ 27 then M k else C k
theorem ov22 (C M : Mem) : ov C M 22 = M 22 := if_pos ⟨by decide, by decide⟩
theorem ov23 (C M : Mem) : ov C M 23 = M 23 := if_pos ⟨by decide, by decide⟩
theorem ov24 (C M : Mem) : ov C M 24 = M 24 := if_pos ⟨by decide, by decide⟩
theorem ov25 (C M : Mem) : ov C M 25 = M 25 := if_pos ⟨by decide, by decide⟩
theorem ov26 (C M : Mem) : ov C M 26 = M 26 := if_pos ⟨by decide, by decide⟩
theorem ov27 (C M : Mem) : ov C M 27 = M 27 := if_pos ⟨by decide, by decide⟩
theorem ov_st (C M : Mem) {k : Nat} (h : 22 ≤ k ∧ k ≤ 27) (i : Nat) (v : Int32) : st2 (ov C M) k i v = ov C (st2 M k i v) := by
  funext j
  unfold st2 up2 ov
  by_cases e : j = k
  · subst e
    simp [h]
  · simp [e]
theorem sto_x {α : Type} (C : Mem) (k i : Nat) (v : Int32) (f : Mem → α) : sto C k i v f = f (st2 C k i v) := by rw [sto]
theorem lt_x {α β : Type} (x : α) (f : α → β) : lt_ x f = f x := by rw [lt_]
def mp1 (C : Mem) (x : Option Mem) : Option Mem := x.map (ov C)
def mp2 {α : Type} (C : Mem) (x : Option (α × Mem)) : Option (α × Mem) := x.map (fun q => (q.1, ov C q.2))
theorem mp1_s (C M : Mem) : mp1 C (some M) = some (ov C M) := rfl
theorem mp2_s {α : Type} (C M : Mem) (a : α) : mp2 C (some (a, M)) = some (a, ov C M) := rfl
theorem mp1_gd (C : Mem) (b : Bool) (x : Option Mem) : mp1 C (gd b x) = gd b (mp1 C x) := by unfold gd; split <;> rfl
theorem mp2_gd {α : Type} (C : Mem) (b : Bool) (x : Option (α × Mem)) : mp2 C (gd b x) = gd b (mp2 C x) := by unfold gd; split <;> rfl
theorem mp1_if (C : Mem) (c : Prop) [Decidable c] (x y : Option Mem) : mp1 C (if c then x else y) = if c then mp1 C x else mp1 C y := by split <;> rfl
theorem mp2_if {α : Type} (C : Mem) (c : Prop) [Decidable c] (x y : Option (α × Mem)) : mp2 C (if c then x else y) = if c then mp2 C x else mp2 C y := by split <;> rfl
theorem mp2_b {α : Type} (C : Mem) (x : Option Mem) (f : Mem → Option (α × Mem)) : mp2 C (Option.bind x f) = Option.bind x (fun m => mp2 C (f m)) := by cases x <;> rfl
theorem mp2_b2 {α β : Type} (C : Mem) (x : Option (α × Mem)) (f : α → Mem → Option (β × Mem)) : mp2 C (bnd2 x f) = bnd2 x (fun a m => mp2 C (f a m)) := by cases x <;> rfl
theorem b_mp1 {α : Type} (C : Mem) (x : Option Mem) (f : Mem → Option α) : Option.bind (mp1 C x) f = Option.bind x (fun m => f (ov C m)) := by cases x <;> rfl
theorem b_mp2 {α β : Type} (C : Mem) (x : Option (α × Mem)) (f : α → Mem → Option β) : bnd2 (mp2 C x) f = bnd2 x (fun a m => f a (ov C m)) := by cases x <;> rfl
theorem ov_start (C M : Mem) (v : Int32) : f_X2_startNode v (ov C M) = mp1 C (f_X2_startNode v M) := by
  unfold f_X2_startNode B_X2_startNode_72
  simp only [sto_x, ov22, ov26, ov_st C _ (show 22 ≤ 22 ∧ 22 ≤ 27 by decide), ov_st C _ (show 22 ≤ 23 ∧ 23 ≤ 27 by decide), ov_st C _ (show 22 ≤ 24 ∧ 24 ≤ 27 by decide), ov_st C _ (show 22 ≤ 25 ∧ 25 ≤ 27 by decide), ov_st C _ (show 22 ≤ 26 ∧ 26 ≤ 27 by decide), mp1_gd, mp1_if, mp1_s]
theorem ov_next (C M : Mem) (a b c : Int32) : f_X2_isNextFigure a b c (ov C M) = mp2 C (f_X2_isNextFigure a b c M) := by
  unfold f_X2_isNextFigure
  simp only [sto_x, ov22, ov_st C _ (show 22 ≤ 22 ∧ 22 ≤ 27 by decide), ov_st C _ (show 22 ≤ 27 ∧ 27 ≤ 27 by decide), mp2_gd, mp2_if, mp2_s]
theorem ov_begins (C M : Mem) (a : Int32) : f_X2_beginsNode a (ov C M) = mp2 C (f_X2_beginsNode a M) := by
  unfold f_X2_beginsNode B_X2_beginsNode_19
  simp only [sto_x, lt_x, bnd2_id, ov_start, ov_next, b_mp1, ov22, ov_st C _ (show 22 ≤ 22 ∧ 22 ≤ 27 by decide), mp2_if, mp2_s, mp2_b]
theorem ov_opens (C M : Mem) (a : Int32) : f_X2_opens a (ov C M) = mp2 C (f_X2_opens a M) := by
  unfold f_X2_opens
  simp only [sto_x, ov22, ov_st C _ (show 22 ≤ 22 ∧ 22 ≤ 27 by decide), mp2_if, mp2_s]
theorem ov_follows (C M : Mem) (a : Int32) : f_X2_followsNode a (ov C M) = mp2 C (f_X2_followsNode a M) := by
  unfold f_X2_followsNode B_X2_followsNode_36
  simp only [sto_x, ov22, ov24, ov26, ov_st C _ (show 22 ≤ 22 ∧ 22 ≤ 27 by decide), mp2_if, mp2_s, mp2_gd]
theorem ov_goes (C M : Mem) (a : Int32) : f_X2_goesOn a (ov C M) = mp2 C (f_X2_goesOn a M) := by
  unfold f_X2_goesOn
  simp only [bnd2_id, ov22, ov_begins, ov_opens, ov_next, ov_follows, mp2_if]
theorem ov_add (C M : Mem) (a : Int32) : f_X2_add a (ov C M) = mp2 C (f_X2_add a M) := by
  unfold f_X2_add B_X2_add_36
  simp only [sto_x, ov22, ov_goes, b_mp2, ov_st C _ (show 22 ≤ 22 ∧ 22 ≤ 27 by decide), mp2_if, mp2_s, mp2_b2]
theorem ov_eq {C M : Mem} (h : ∀ c, 22 ≤ c → c ≤ 27 → C c = M c) : C = ov C M := by
  funext k
  unfold ov
  by_cases e : 22 ≤ k ∧ k ≤ 27
  · rw [if_pos e]; exact h k e.1 e.2
  · rw [if_neg e]
