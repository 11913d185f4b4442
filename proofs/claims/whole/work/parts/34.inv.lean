/-! the relation between the class's memory C and the model's memory D -/
def RW (C D : Mem) : Prop := ∃ n, n ≤ 12 ∧ C 14 3 = nI n ∧ D 0 9 = nI n ∧ ∀ k, k < n → C 15 k = D 7 k ∧ C 16 k = D 8 k ∧ ∃ b, b < 2048 ∧ D 8 k = nI b
def RB (C D : Mem) : Prop := (∃ n, n ≤ 8 ∧ C 18 3 = nI n ∧ D 0 12 = nI n ∧ ∀ k, k < n → C 19 k = D 9 k) ∧ ∀ k, k < 88 → C 20 k = D 10 k
def RT (C D : Mem) : Prop := ∃ n, n ≤ 6 ∧ C 36 1 = nI n ∧ D 0 26 = nI n ∧ ∀ k, k < 4 * n → C 37 k = D 20 k ∧ ∃ j, j ≤ 99 ∧ D 20 k = nI j
def RS (C D : Mem) : Prop := ∀ k, k < 9 → C 39 k = D 23 k ∧ ∃ j, 1 ≤ j ∧ j ≤ 15 ∧ D 23 k = nI j
def RR (C D : Mem) : Prop := ∃ n, n ≤ 24 ∧ C 40 2 = nI n ∧ D 0 32 = nI n ∧ ∀ k, k < n → C 41 k = D 24 k ∧ C 42 k = D 25 k ∧ (∃ j, j ≤ 10 ∧ D 24 k = nI j) ∧ (D 25 k = 0 ∨ D 25 k = 1)
def RH (C D : Mem) : Prop := (∀ s, s < 4 → (∃ z, z ≤ 48 ∧ C 45 s = nI z ∧ D 28 s = nI z) ∧ ((C 44 s = -1 ∧ D 26 s = 0) ∨ ∃ f, f ≤ 2 ∧ C 44 s = nI f ∧ D 27 s = nI f ∧ D 26 s = 1)) ∧ (∀ k, k < 192 → C 46 k = D 29 k) ∧ C 43 3 = D 0 40
/-! the class's game: the memory behind a byte -/
def gstep (b : Int32) (M : Mem) : Mem := match f_X2_add b M with
  | some q => q.2
  | none => M
def grun (T : Nat → Int32) (M : Mem) : Nat → Mem
  | 0 => M
  | n + 1 => gstep (T n) (grun T M n)
def g0 (M : Mem) : Prop := M 22 7 = 0 ∧ M 22 8 = -1 ∧ M 22 9 = 0 ∧ M 22 10 = -1 ∧ M 22 11 = 0 ∧ M 22 12 = 0
def RG (C D : Mem) : Prop := ∃ n M, n ≤ 60 ∧ D 0 15 = nI n ∧ (∀ j, j < n → ∃ x, x ≤ 255 ∧ D 11 j = nI x) ∧ g0 M ∧ ∀ c, 22 ≤ c → c ≤ 27 → C c = grun (D 11) M n c
def Inv (C D : Mem) : Prop := (∃ n, RP n C D) ∧ RW C D ∧ RB C D ∧ RT C D ∧ RS C D ∧ RR C D ∧ RH C D ∧ RG C D
/-! what each part rests on -/
theorem keepP {C D C' D' : Mem} (h : ∃ n, RP n C D) (c1 : C' 1 = C 1) (c2 : C' 2 = C 2) (c3 : C' 3 = C 3) (c4 : C' 4 = C 4) (c5 : C' 5 = C 5) (c6 : C' 6 = C 6) (c7 : C' 7 = C 7) (d0 : D' 0 0 = D 0 0) (d7 : D' 0 7 = D 0 7) (d8 : D' 0 8 = D 0 8) (d1 : D' 1 = D 1) (d2 : D' 2 = D 2) (d3 : D' 3 = D 3) (d4 : D' 4 = D 4) (d5 : D' 5 = D 5) (d6 : D' 6 = D 6) : ∃ n, RP n C' D' := by
  obtain ⟨n, h⟩ := h
  refine ⟨n, ?_⟩
  unfold RP at h ⊢
  rw [c1, c2, c3, c4, c5, c6, c7, d0, d7, d8, d1, d2, d3, d4, d5, d6]
  exact h
theorem keepW {C D C' D' : Mem} (h : RW C D) (c1 : C' 14 3 = C 14 3) (c2 : C' 15 = C 15) (c3 : C' 16 = C 16) (d0 : D' 0 9 = D 0 9) (d1 : D' 7 = D 7) (d2 : D' 8 = D 8) : RW C' D' := by
  unfold RW at h ⊢
  rw [c1, c2, c3, d0, d1, d2]
  exact h
theorem keepB {C D C' D' : Mem} (h : RB C D) (c1 : C' 18 3 = C 18 3) (c2 : C' 19 = C 19) (c3 : C' 20 = C 20) (d0 : D' 0 12 = D 0 12) (d1 : D' 9 = D 9) (d2 : D' 10 = D 10) : RB C' D' := by
  unfold RB at h ⊢
  rw [c1, c2, c3, d0, d1, d2]
  exact h
theorem keepT {C D C' D' : Mem} (h : RT C D) (c1 : C' 36 1 = C 36 1) (c2 : C' 37 = C 37) (d0 : D' 0 26 = D 0 26) (d1 : D' 20 = D 20) : RT C' D' := by
  unfold RT at h ⊢
  rw [c1, c2, d0, d1]
  exact h
theorem keepS {C D C' D' : Mem} (h : RS C D) (c1 : C' 39 = C 39) (d1 : D' 23 = D 23) : RS C' D' := by
  unfold RS at h ⊢
  rw [c1, d1]
  exact h
theorem keepR {C D C' D' : Mem} (h : RR C D) (c1 : C' 40 2 = C 40 2) (c2 : C' 41 = C 41) (c3 : C' 42 = C 42) (d0 : D' 0 32 = D 0 32) (d1 : D' 24 = D 24) (d2 : D' 25 = D 25) : RR C' D' := by
  unfold RR at h ⊢
  rw [c1, c2, c3, d0, d1, d2]
  exact h
theorem keepH {C D C' D' : Mem} (h : RH C D) (c1 : C' 43 3 = C 43 3) (c2 : C' 44 = C 44) (c3 : C' 45 = C 45) (c4 : C' 46 = C 46) (d0 : D' 0 40 = D 0 40) (d1 : D' 26 = D 26) (d2 : D' 27 = D 27) (d3 : D' 28 = D 28) (d4 : D' 29 = D 29) : RH C' D' := by
  unfold RH at h ⊢
  rw [c1, c2, c3, c4, d0, d1, d2, d3, d4]
  exact h
theorem keepG {C D C' D' : Mem} (h : RG C D) (c1 : ∀ c, 22 ≤ c → c ≤ 27 → C' c = C c) (d0 : D' 0 15 = D 0 15) (d1 : D' 11 = D 11) : RG C' D' := by
  obtain ⟨n, M, h1, h2, h3, h4, h5⟩ := h
  refine ⟨n, M, h1, by rw [d0]; exact h2, by rw [d1]; exact h3, h4, fun c a b => ?_⟩
  rw [c1 c a b, d1]
  exact h5 c a b
/-- what a question may leave changed: nothing that lasts -/
def per (k : Nat) : Bool := decide ((1 ≤ k ∧ k ≤ 7) ∨ k = 15 ∨ k = 16 ∨ (18 ≤ k ∧ k ≤ 20) ∨ (22 ≤ k ∧ k ≤ 27) ∨ k = 36 ∨ k = 37 ∨ k = 39 ∨ (41 ≤ k ∧ k ≤ 46))
def Kp (C C' : Mem) : Prop := (∀ k, per k = true → C' k = C k) ∧ C' 14 3 = C 14 3 ∧ C' 40 2 = C 40 2
theorem Kp.rf (C : Mem) : Kp C C := ⟨fun _ _ => rfl, rfl, rfl⟩
theorem Kp.tr {A B C : Mem} (h : Kp A B) (h2 : Kp B C) : Kp A C := ⟨fun k hk => (h2.1 k hk).trans (h.1 k hk), h2.2.1.trans h.2.1, h2.2.2.trans h.2.2⟩
theorem Kp.up {C : Mem} {k : Nat} (f : Nat → Int32) (hk : per k = false) (h1 : k ≠ 14) (h2 : k ≠ 40) : Kp C (up2 C k f) := ⟨fun j hj => up2_n _ _ (fun e => by rw [e, hk] at hj; cases hj), by rw [up2_n _ _ (Ne.symm h1)], by rw [up2_n _ _ (Ne.symm h2)]⟩
theorem per8 {t : Nat} (ht : 8 ≤ t) (h2 : t ≤ 13) : per t = false ∧ t ≠ 14 ∧ t ≠ 40 := by
  refine ⟨?_, by omega, by omega⟩
  unfold per
  exact decide_eq_false (by omega)
theorem Kp.TM {C : Mem} {t : Nat} (ht : 8 ≤ t) (h2 : t ≤ 11) (o f r : Nat → Int32) : Kp C (TM C t o f r) := by
  show Kp C (up2 (up2 (up2 C (t + 1) f) (t + 2) r) t o)
  refine ((Kp.up f (per8 (t := t + 1) (by omega) (by omega)).1 (by omega) (by omega)).tr (Kp.up r (per8 (t := t + 2) (by omega) (by omega)).1 (by omega) (by omega))).tr (Kp.up o (per8 ht (by omega)).1 (by omega) (by omega))
/-- the model's likewise -/
def perM (k : Nat) : Bool := decide ((1 ≤ k ∧ k ≤ 11) ∨ k = 20 ∨ (23 ≤ k ∧ k ≤ 29))
def Km (D D' : Mem) : Prop := (∀ k, perM k = true → D' k = D k) ∧ ∀ j, j ≠ 17 → j ≠ 30 → D' 0 j = D 0 j
theorem Km.rf (D : Mem) : Km D D := ⟨fun _ _ => rfl, fun _ _ _ => rfl⟩
theorem Km.tr {A B C : Mem} (h : Km A B) (h2 : Km B C) : Km A C := ⟨fun k hk => (h2.1 k hk).trans (h.1 k hk), fun j a b => (h2.2 j a b).trans (h.2 j a b)⟩
theorem Km.up {D : Mem} {k : Nat} (f : Nat → Int32) (hk : perM k = false) (h0 : k ≠ 0) : Km D (up2 D k f) := ⟨fun j hj => up2_n _ _ (fun e => by rw [e, hk] at hj; cases hj), fun j _ _ => by rw [up2_n _ _ (Ne.symm h0)]⟩
theorem Km.st {D : Mem} {k i : Nat} (v : Int32) (hk : perM k = false) (h0 : k ≠ 0) : Km D (st2 D k i v) := Km.up _ hk h0
theorem Km.st0 {D : Mem} {i : Nat} (v : Int32) (hi : i = 17 ∨ i = 30) : Km D (st2 D 0 i v) := ⟨fun j hj => st2_n _ _ _ (fun e => by rw [e] at hj; cases hj), fun j h1 h2 => by rw [st2_s, upd_n _ _ (by rcases hi with rfl | rfl <;> assumption)]⟩
theorem Inv.keep {C D C' D' : Mem} (h : Inv C D) (hc : Kp C C') (hd : Km D D') : Inv C' D' := by
  obtain ⟨h1, h2, h3, h4, h5, h6, h7, h8⟩ := h
  have c := hc.1
  have d := hd.1
  have e := hd.2
  exact ⟨keepP h1 (c 1 rfl) (c 2 rfl) (c 3 rfl) (c 4 rfl) (c 5 rfl) (c 6 rfl) (c 7 rfl) (e 0 (by decide) (by decide)) (e 7 (by decide) (by decide)) (e 8 (by decide) (by decide)) (d 1 rfl) (d 2 rfl) (d 3 rfl) (d 4 rfl) (d 5 rfl) (d 6 rfl),
    keepW h2 hc.2.1 (c 15 rfl) (c 16 rfl) (e 9 (by decide) (by decide)) (d 7 rfl) (d 8 rfl),
    keepB h3 (congrFun (c 18 rfl) 3) (c 19 rfl) (c 20 rfl) (e 12 (by decide) (by decide)) (d 9 rfl) (d 10 rfl),
    keepT h4 (congrFun (c 36 rfl) 1) (c 37 rfl) (e 26 (by decide) (by decide)) (d 20 rfl),
    keepS h5 (c 39 rfl) (d 23 rfl),
    keepR h6 hc.2.2 (c 41 rfl) (c 42 rfl) (e 32 (by decide) (by decide)) (d 24 rfl) (d 25 rfl),
    keepH h7 (congrFun (c 43 rfl) 3) (c 44 rfl) (c 45 rfl) (c 46 rfl) (e 40 (by decide) (by decide)) (d 26 rfl) (d 27 rfl) (d 28 rfl) (d 29 rfl),
    keepG h8 (fun k a b => c k (by unfold per; exact decide_eq_true (by omega))) (e 15 (by decide) (by decide)) (d 11 rfl)⟩
theorem Inv.keepC {C D C' : Mem} (h : Inv C D) (hc : Kp C C') : Inv C' D := h.keep hc (Km.rf D)
theorem Kp.TS {C D : Mem} {t : Nat} (ht : 8 ≤ t) (h2 : t ≤ 11) (p kd : Int32) (n : Nat) : Kp C (TS C D t p kd n) := Kp.TM ht h2 _ _ _
