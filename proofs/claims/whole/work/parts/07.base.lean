/-! the memory as the developers' class (C) and the model (D) have it: cell, place -> int -/
abbrev Mem : Type := Nat → Nat → Int32
def up2 (C : Mem) (k : Nat) (f : Nat → Int32) : Mem := fun j => if j = k then f else C j
def st2 (C : Mem) (k i : Nat) (v : Int32) : Mem := up2 C k (upd (C k) i v)
def inb (i : Int32) (n : Nat) : Bool := !(decide (i < 0)) && decide (i.toNatClampNeg < n)
theorem inb_in {i : Int32} {n : Nat} (h : inb i n = true) : vp_in i n := by
  unfold inb at h
  simp only [Bool.and_eq_true, Bool.not_eq_true', decide_eq_false_iff_not, decide_eq_true_eq] at h
  exact fun q => q.elim h.1 (fun z => absurd h.2 (Nat.not_lt.mpr z))
def gd {α : Type} (b : Bool) (x : Option α) : Option α := if b = true then x else none
theorem gd_s {α : Type} {b : Bool} {x : Option α} {r : α} (h : gd b x = some r) : b = true ∧ x = some r := by
  unfold gd at h
  by_cases hb : b = true
  · rw [if_pos hb] at h; exact ⟨hb, h⟩
  · rw [if_neg hb] at h; cases h
theorem bnd_s {α β : Type} {a : Option α} {f : α → Option β} {r : β} (h : Option.bind a f = some r) : ∃ q, a = some q ∧ f q = some r := by
  cases a with
  | none => cases h
  | some q => exact ⟨q, rfl, h⟩
def lt_ {α β : Type} (a : α) (f : α → β) : β := f a
theorem lt_s_ {α β : Type} {a : α} {f : α → β} {r : β} (h : lt_ a f = r) : ∃ v, v = a ∧ f v = r := ⟨a, rfl, h⟩
def sto {β : Type} (C : Mem) (k i : Nat) (v : Int32) (f : Mem → β) : β := f (st2 C k i v)
theorem sto_s {β : Type} {C : Mem} {k i : Nat} {v : Int32} {f : Mem → β} {r : β} (h : sto C k i v f = r) : ∃ C', C' = st2 C k i v ∧ f C' = r := ⟨_, rfl, h⟩
theorem itp {c : Prop} {_h : Decidable c} {α : Type} {x y r : α} (hc : c) (h : (if c then x else y) = r) : x = r := by rwa [if_pos hc] at h
theorem itn {c : Prop} {_h : Decidable c} {α : Type} {x y r : α} (hc : ¬ c) (h : (if c then x else y) = r) : y = r := by rwa [if_neg hc] at h
def b2i (b : Bool) : Int32 := if b = true then 1 else 0
theorem b2i_nar (b : Bool) : narrow .boolean (.int (b2i b)) = .int (b2i b) := by cases b <;> rfl
def jmax (x y : Int32) : Int32 := if x < y then y else x
def jmin (x y : Int32) : Int32 := if y < x then y else x
def jabs (x : Int32) : Int32 := if 0 ≤ x then x else 0 - x
def FU : Nat := 200000
/-! the tables' words: those that stay good for a callee, and those of nest mates -/
def wk : List Cond := lw_tbl.filter goodWord
def isNst : Cond → Bool
  | .methodLinkNest _ _ _ _ => true
  | .fieldLinkNest _ _ _ _ _ _ => true
  | _ => false
def nk : List Cond := lw_tbl.filter isNst
theorem wk_of {w : Cond} (h : w ∈ lw_tbl) (hg : goodWord w = true) : w ∈ wk := List.mem_filter.mpr ⟨h, hg⟩
theorem nk_of {w : Cond} (h : w ∈ lw_tbl) (hg : isNst w = true) : w ∈ nk := List.mem_filter.mpr ⟨h, hg⟩
theorem nk_tab {w : Cond} (h : w ∈ nk) : w.onTables = true := by
  have h2 := (List.mem_filter.mp h).2
  cases w <;> first | rfl | cases h2
theorem nk_same {u U : State} (hv : u.vm = U.vm) (h : ∀ w ∈ nk, va_Nw w u) : ∀ w ∈ nk, va_Nw w U := fun w hw => va_Nw.same (nk_tab hw) hv (h w hw)
theorem nk_warm {s U : State} (hW : s.WarmedH U.vm) (h : ∀ w ∈ nk, va_Nw w s) : ∀ w ∈ nk, va_Nw w U := by
  intro w hw
  have h2 := (List.mem_filter.mp hw).2
  have h3 := h w hw
  cases w <;> first | exact va_Nw.warmF hW h3 | exact va_Nw.warmM hW h3 | cases h2
theorem wk_good {w : Cond} (h : w ∈ wk) : (w.onTables && w.keeps) = true ∨ ∃ ty, w = .arrayClass ty := good_of_word (List.mem_filter.mp h).2
theorem wk_in {y : MethodName} {bytes : ByteArray} {maxL : Nat} {ret : Option FieldType} (h : Cond.code y bytes maxL ret ∈ wk) : GoodIn wk (.code y bytes maxL ret :: wk) := fun w hw => by
  rcases List.mem_cons.mp hw with e | e
  · rw [e]; exact ⟨h, wk_good h⟩
  · exact ⟨e, wk_good e⟩
/-! the worlds -/
def cellC (ad : Nat → Nat) (cI : ClassId) (k : Nat) (f : Nat → Int32) : va_E := match k with
  | 0 => .inr (11, [.ref (ad 1), .ref (ad 8), .ref (ad 11), .ref (ad 14), .ref (ad 18), .ref (ad 22), .ref (ad 30), .ref (ad 32), .ref (ad 36), .ref (ad 38), .ref (ad 40), .ref (ad 43)])
  | 1 => .inr (4, [.ref (ad 2), .ref (ad 3), .ref (ad 4), .ref (ad 5), .ref (ad 6), .ref (ad 7), .int (f 6), .int (f 7), .int (f 8)])
  | 2 => .inl (cI, 60, .inl f)
  | 3 => .inl (cI, 60, .inl f)
  | 4 => .inl (cI, 60, .inl f)
  | 5 => .inl (cI, 60, .inl f)
  | 6 => .inl (cI, 60, .inl f)
  | 7 => .inl (cI, 60, .inl f)
  | 8 => .inr (9, [.ref (ad 9), .ref (ad 10), .int (f 2), .int (f 3), .int (f 4)])
  | 9 => .inl (cI, 11, .inl f)
  | 10 => .inl (cI, 11, .inl f)
  | 11 => .inr (9, [.ref (ad 12), .ref (ad 13), .int (f 2), .int (f 3), .int (f 4)])
  | 12 => .inl (cI, 11, .inl f)
  | 13 => .inl (cI, 11, .inl f)
  | 14 => .inr (6, [.ref (ad 15), .ref (ad 16), .ref (ad 17), .int (f 3), .int (f 4), .int (f 5), .int (f 6)])
  | 15 => .inl (cI, 12, .inl f)
  | 16 => .inl (cI, 12, .inl f)
  | 17 => .inl (cI, 11, .inl f)
  | 18 => .inr (0, [.ref (ad 19), .ref (ad 20), .ref (ad 21), .int (f 3)])
  | 19 => .inl (cI, 8, .inl f)
  | 20 => .inl (cI, 88, .inl f)
  | 21 => .inl (cI, 11, .inl f)
  | 22 => .inr (2, [.ref (ad 23), .ref (ad 24), .ref (ad 25), .ref (ad 26), .ref (ad 27), .ref (ad 28), .ref (ad 29), .int (f 7), .int (f 8), .int (f 9), .int (f 10), .int (f 11), .int (f 12)])
  | 23 => .inl (cI, 60, .inl f)
  | 24 => .inl (cI, 60, .inl f)
  | 25 => .inl (cI, 60, .inl f)
  | 26 => .inl (cI, 60, .inl f)
  | 27 => .inl (cI, 180, .inl f)
  | 28 => .inl (cI, 60, .inl f)
  | 29 => .inl (cI, 60, .inl f)
  | 30 => .inr (1, [.ref (ad 31), .int (f 1), .int (f 2)])
  | 31 => .inl (cI, 568, .inl f)
  | 32 => .inr (3, [.ref (ad 33), .ref (ad 34), .ref (ad 35), .int (f 3)])
  | 33 => .inl (cI, 4, .inl f)
  | 34 => .inl (cI, 4, .inl f)
  | 35 => .inl (cI, 4, .inl f)
  | 36 => .inr (10, [.ref (ad 37), .int (f 1)])
  | 37 => .inl (cI, 24, .inl f)
  | 38 => .inr (8, [.ref (ad 39)])
  | 39 => .inl (cI, 9, .inl f)
  | 40 => .inr (5, [.ref (ad 41), .ref (ad 42), .int (f 2), .int (f 3), .int (f 4), .int (f 5)])
  | 41 => .inl (cI, 24, .inl f)
  | 42 => .inl (cI, 24, .inl f)
  | 43 => .inr (7, [.ref (ad 44), .ref (ad 45), .ref (ad 46), .int (f 3)])
  | 44 => .inl (cI, 4, .inl f)
  | 45 => .inl (cI, 4, .inl f)
  | _ => .inl (cI, 192, .inl f)
def cellM (bd : Nat → Nat) (cI cZ : ClassId) (k : Nat) (f : Nat → Int32) : va_E := match k with
  | 0 => .inr (12, [.int (f 0), .ref (bd 1), .ref (bd 2), .ref (bd 3), .ref (bd 4), .ref (bd 5), .ref (bd 6), .int (f 7), .int (f 8), .int (f 9), .ref (bd 7), .ref (bd 8), .int (f 12), .ref (bd 9), .ref (bd 10), .int (f 15), .ref (bd 11), .int (f 17), .ref (bd 12), .ref (bd 13), .ref (bd 14), .ref (bd 15), .ref (bd 16), .ref (bd 17), .ref (bd 18), .ref (bd 19), .int (f 26), .ref (bd 20), .ref (bd 21), .ref (bd 22), .int (f 30), .ref (bd 23), .int (f 32), .ref (bd 24), .ref (bd 25), .ref (bd 26), .ref (bd 27), .ref (bd 28), .ref (bd 29), .ref (bd 30), .int (f 40)])
  | 1 => .inl (cI, 60, .inl f)
  | 2 => .inl (cI, 60, .inl f)
  | 3 => .inl (cI, 60, .inl f)
  | 4 => .inl (cI, 60, .inl f)
  | 5 => .inl (cI, 60, .inl f)
  | 6 => .inl (cI, 60, .inl f)
  | 7 => .inl (cI, 12, .inl f)
  | 8 => .inl (cI, 12, .inl f)
  | 9 => .inl (cI, 8, .inl f)
  | 10 => .inl (cI, 88, .inl f)
  | 11 => .inl (cI, 60, .inl f)
  | 12 => .inl (cI, 60, .inl f)
  | 13 => .inl (cI, 60, .inl f)
  | 14 => .inl (cI, 60, .inl f)
  | 15 => .inl (cI, 60, .inl f)
  | 16 => .inl (cI, 60, .inl f)
  | 17 => .inl (cI, 60, .inl f)
  | 18 => .inl (cI, 180, .inl f)
  | 19 => .inl (cI, 14, .inl f)
  | 20 => .inl (cI, 24, .inl f)
  | 21 => .inl (cI, 4, .inl f)
  | 22 => .inl (cI, 4, .inl f)
  | 23 => .inl (cI, 9, .inl f)
  | 24 => .inl (cI, 24, .inl f)
  | 25 => .inl (cI, 24, .inl f)
  | 26 => .inl (cZ, 4, .inl f)
  | 27 => .inl (cI, 4, .inl f)
  | 28 => .inl (cI, 4, .inl f)
  | 29 => .inl (cI, 192, .inl f)
  | _ => .inl (cI, 48, .inl f)
def wl (ad bd : Nat → Nat) (cI cZ : ClassId) (C D : Mem) : va_W := (List.range 47).map (fun k => (ad k, cellC ad cI k (C k))) ++ (List.range 31).map (fun k => (bd k, cellM bd cI cZ k (D k)))
theorem wl_c (ad bd : Nat → Nat) (cI cZ : ClassId) (C D : Mem) {k : Nat} (hk : k < 47) : (wl ad bd cI cZ C D)[k]? = some (ad k, cellC ad cI k (C k)) := by
  unfold wl
  rw [List.getElem?_append_left (by simpa using hk)]
  simp [hk]
theorem wl_m (ad bd : Nat → Nat) (cI cZ : ClassId) (C D : Mem) {k : Nat} (hk : k < 31) : (wl ad bd cI cZ C D)[47 + k]? = some (bd k, cellM bd cI cZ k (D k)) := by
  unfold wl
  rw [List.getElem?_append_right (by simp)]
  simp [hk]
theorem wl_n (ad bd : Nat → Nat) (cI cZ : ClassId) (C D : Mem) {k : Nat} (hk : 78 ≤ k) : (wl ad bd cI cZ C D)[k]? = none := by
  unfold wl
  rw [List.getElem?_eq_none]
  simp
  omega
theorem wl_sc (ad bd : Nat → Nat) (cI cZ : ClassId) (C D : Mem) {k : Nat} (hk : k < 47) (f : Nat → Int32) : (wl ad bd cI cZ C D).set k (ad k, cellC ad cI k f) = wl ad bd cI cZ (up2 C k f) D := by
  apply List.ext_getElem?
  intro j
  rw [List.getElem?_set]
  by_cases hj : j < 47
  · rw [wl_c ad bd cI cZ C D hj, wl_c ad bd cI cZ _ D hj]
    by_cases e : k = j
    · subst e
      have : k < (wl ad bd cI cZ C D).length := (List.getElem?_eq_some_iff.mp (wl_c ad bd cI cZ C D hk)).1
      simp [this, up2]
    · have e2 : ¬ j = k := fun q => e q.symm
      simp [e, e2, up2]
  · have e : ¬ k = j := by omega
    rw [if_neg e]
    by_cases hj2 : j < 78
    · obtain ⟨i, rfl⟩ : ∃ i, j = 47 + i := ⟨j - 47, by omega⟩
      rw [wl_m ad bd cI cZ C D (by omega), wl_m ad bd cI cZ _ D (by omega)]
    · rw [wl_n ad bd cI cZ C D (by omega), wl_n ad bd cI cZ _ D (by omega)]
theorem wl_sm (ad bd : Nat → Nat) (cI cZ : ClassId) (C D : Mem) {k : Nat} (hk : k < 31) (f : Nat → Int32) : (wl ad bd cI cZ C D).set (47 + k) (bd k, cellM bd cI cZ k f) = wl ad bd cI cZ C (up2 D k f) := by
  apply List.ext_getElem?
  intro j
  rw [List.getElem?_set]
  by_cases hj : j < 47
  · have e : ¬ 47 + k = j := by omega
    rw [if_neg e, wl_c ad bd cI cZ C D hj, wl_c ad bd cI cZ C _ hj]
  · by_cases hj2 : j < 78
    · obtain ⟨i, rfl⟩ : ∃ i, j = 47 + i := ⟨j - 47, by omega⟩
      rw [wl_m ad bd cI cZ C D (by omega), wl_m ad bd cI cZ C _ (by omega)]
      by_cases e : k = i
      · subst e
        have : 47 + k < (wl ad bd cI cZ C D).length := (List.getElem?_eq_some_iff.mp (wl_m ad bd cI cZ C D hk)).1
        simp [this, up2]
      · have e2 : ¬ i = k := fun q => e q.symm
        simp [e, e2, up2]
    · have e : ¬ 47 + k = j := by omega
      rw [if_neg e, wl_n ad bd cI cZ C D (by omega), wl_n ad bd cI cZ C _ (by omega)]
def Ok2 (ad bd : Nat → Nat) : Prop := (∀ i j, i < 47 → j < 47 → ad i = ad j → i = j) ∧ (∀ i j, i < 31 → j < 31 → bd i = bd j → i = j) ∧ ∀ i j, i < 47 → j < 31 → ad i ≠ bd j
def AD (ad bd : Nat → Nat) (q : Nat) : Prop := (∃ k, k < 47 ∧ q = ad k) ∨ ∃ k, k < 31 ∧ q = bd k
theorem wl_D {ad bd : Nat → Nat} (cI cZ : ClassId) (C D : Mem) (h : Ok2 ad bd) : va_D (AD ad bd) (wl ad bd cI cZ C D) := by
  have key : ∀ (i : Nat) (p : Nat × va_E), (wl ad bd cI cZ C D)[i]? = some p → (i < 47 ∧ p.1 = ad i) ∨ (∃ j, i = 47 + j ∧ j < 31 ∧ p.1 = bd j) := by
    intro i p hp
    by_cases hi : i < 47
    · rw [wl_c ad bd cI cZ C D hi] at hp
      cases hp
      exact Or.inl ⟨hi, rfl⟩
    · by_cases hi2 : i < 78
      · obtain ⟨j, rfl⟩ : ∃ j, i = 47 + j := ⟨i - 47, by omega⟩
        rw [wl_m ad bd cI cZ C D (by omega)] at hp
        cases hp
        exact Or.inr ⟨j, rfl, by omega, rfl⟩
      · rw [wl_n ad bd cI cZ C D (by omega)] at hp
        cases hp
  refine ⟨fun i j x y hx hy e => ?_, fun k q hq => ?_⟩
  · rcases key i x hx with ⟨h1, h2⟩ | ⟨i', h1, h1', h2⟩ <;> rcases key j y hy with ⟨h3, h4⟩ | ⟨j', h3, h3', h4⟩
    · exact h.1 i j h1 h3 (by rw [← h2, ← h4]; exact e)
    · exact absurd (by rw [← h2, ← h4]; exact e) (h.2.2 i j' h1 h3')
    · exact absurd (by rw [← h2, ← h4]; exact e.symm) (h.2.2 j i' h3 h1')
    · have := h.2.1 i' j' h1' h3' (by rw [← h2, ← h4]; exact e)
      omega
  · rcases key k q hq with ⟨h1, h2⟩ | ⟨j, h1, h1', h2⟩
    · exact Or.inl ⟨k, h1, h2⟩
    · exact Or.inr ⟨j, h1', h2⟩
def Wd (dC : Nat → ClassId) (dI : Nat → Nat → Nat) (ad bd : Nat → Nat) (cI cZ : ClassId) (C D : Mem) (U : State) : Prop := va_P (dC, dI) vwCl (wl ad bd cI cZ C D) U.heap ∧ va_K (dC, dI) vwCl [(cI, .int), (cZ, .boolean)] U ∧ Ok2 ad bd ∧ ∀ w ∈ nk, va_Nw w U
def QC (rv : Option Value) (dC : Nat → ClassId) (dI : Nat → Nat → Nat) (ad bd : Nat → Nat) (cI cZ : ClassId) (C D : Mem) : Array Value → State → Outcome → State → Prop := fun _ st oc t => oc = .returned rv ∧ va_P (dC, dI) vwCl (wl ad bd cI cZ C D) t.heap ∧ va_F (AD ad bd) st t
def Ct (l : Launch) (dC : Nat → ClassId) (dI : Nat → Nat → Nat) (ad bd : Nat → Nat) (cI cZ : ClassId) (y : MethodName) (cc : ByteArray) (nL : Nat) (ret : Option FieldType) (rm : Room) (av : List Value) (C D : Mem) (rv : Option Value) (C' D' : Mem) : Prop :=
  Met l y (.code y cc nL ret :: wk) rm (va_Pc av (Wd dC dI ad bd cI cZ C D)) (QC rv dC dI ad bd cI cZ C' D') 0 0 (AD ad bd)
def Cx (p : Program) (s : State) (m : MethodId) (args : Array Value) (meth : Method) (c : Code) (cc : ByteArray) (own : String) (nL : Nat) (ret : Option FieldType) (dC : Nat → ClassId) (dI : Nat → Nat → Nat) (ad bd : Nat → Nat) (cI cZ : ClassId) : Prop :=
  p.tables.exec = Jvm.exec ∧ c.code = cc ∧ c.maxLocals = nL ∧ s.vm.findClass own = some m.cls ∧ (∀ w ∈ wk, w.before args s = true) ∧ meth.sig.returnType = ret ∧ meth.locks = false ∧ va_K (dC, dI) vwCl [(cI, .int), (cZ, .boolean)] s ∧ Ok2 ad bd ∧ ∀ w ∈ nk, va_Nw w s
def Ys (s : State) (dC : Nat → ClassId) (dI : Nat → Nat → Nat) (ad bd : Nat → Nat) (cI cZ : ClassId) (C D : Mem) (H : Heap) (locs : List Loc) : Prop := va_P (dC, dI) vwCl (wl ad bd cI cZ C D) H ∧ va_S (AD ad bd) s.heap H locs
def isA (ad : Nat → Nat) (cI : ClassId) (k n : Nat) : Prop := k < 47 ∧ ∀ f, cellC ad cI k f = .inl (cI, n, .inl f)
def isB (bd : Nat → Nat) (cI cZ : ClassId) (k n : Nat) : Prop := k < 31 ∧ ∀ f, cellM bd cI cZ k f = .inl (cI, n, .inl f)
def isZ (bd : Nat → Nat) (cI cZ : ClassId) (k n : Nat) : Prop := k < 31 ∧ ∀ f, cellM bd cI cZ k f = .inl (cZ, n, .inl f)
def tl (t : Nat) : Prop := t = 8 ∨ t = 11
theorem tl8 : tl 8 := Or.inl rfl
theorem tl11 : tl 11 := Or.inr rfl
theorem tl_lt {t : Nat} (h : tl t) : t < 47 := by rcases h with rfl | rfl <;> decide
theorem tl_cell {t : Nat} (h : tl t) (ad : Nat → Nat) (cI : ClassId) (f : Nat → Int32) : cellC ad cI t f = .inr (9, [.ref (ad (t + 1)), .ref (ad (t + 2)), .int (f 2), .int (f 3), .int (f 4)]) := by rcases h with rfl | rfl <;> rfl
theorem tl_a1 {t : Nat} (h : tl t) (ad : Nat → Nat) (cI : ClassId) : isA ad cI (t + 1) 11 := by rcases h with rfl | rfl <;> exact ⟨by decide, fun _ => rfl⟩
theorem tl_a2 {t : Nat} (h : tl t) (ad : Nat → Nat) (cI : ClassId) : isA ad cI (t + 2) 11 := by rcases h with rfl | rfl <;> exact ⟨by decide, fun _ => rfl⟩
theorem ca_2 (ad : Nat → Nat) (cI : ClassId) : isA ad cI 2 60 := ⟨by decide, fun _ => rfl⟩
theorem ca_3 (ad : Nat → Nat) (cI : ClassId) : isA ad cI 3 60 := ⟨by decide, fun _ => rfl⟩
theorem ca_4 (ad : Nat → Nat) (cI : ClassId) : isA ad cI 4 60 := ⟨by decide, fun _ => rfl⟩
theorem ca_5 (ad : Nat → Nat) (cI : ClassId) : isA ad cI 5 60 := ⟨by decide, fun _ => rfl⟩
theorem ca_6 (ad : Nat → Nat) (cI : ClassId) : isA ad cI 6 60 := ⟨by decide, fun _ => rfl⟩
theorem ca_7 (ad : Nat → Nat) (cI : ClassId) : isA ad cI 7 60 := ⟨by decide, fun _ => rfl⟩
theorem ca_9 (ad : Nat → Nat) (cI : ClassId) : isA ad cI 9 11 := ⟨by decide, fun _ => rfl⟩
theorem ca_10 (ad : Nat → Nat) (cI : ClassId) : isA ad cI 10 11 := ⟨by decide, fun _ => rfl⟩
theorem ca_12 (ad : Nat → Nat) (cI : ClassId) : isA ad cI 12 11 := ⟨by decide, fun _ => rfl⟩
theorem ca_13 (ad : Nat → Nat) (cI : ClassId) : isA ad cI 13 11 := ⟨by decide, fun _ => rfl⟩
theorem ca_15 (ad : Nat → Nat) (cI : ClassId) : isA ad cI 15 12 := ⟨by decide, fun _ => rfl⟩
theorem ca_16 (ad : Nat → Nat) (cI : ClassId) : isA ad cI 16 12 := ⟨by decide, fun _ => rfl⟩
theorem ca_17 (ad : Nat → Nat) (cI : ClassId) : isA ad cI 17 11 := ⟨by decide, fun _ => rfl⟩
theorem ca_19 (ad : Nat → Nat) (cI : ClassId) : isA ad cI 19 8 := ⟨by decide, fun _ => rfl⟩
theorem ca_20 (ad : Nat → Nat) (cI : ClassId) : isA ad cI 20 88 := ⟨by decide, fun _ => rfl⟩
theorem ca_21 (ad : Nat → Nat) (cI : ClassId) : isA ad cI 21 11 := ⟨by decide, fun _ => rfl⟩
theorem ca_23 (ad : Nat → Nat) (cI : ClassId) : isA ad cI 23 60 := ⟨by decide, fun _ => rfl⟩
theorem ca_24 (ad : Nat → Nat) (cI : ClassId) : isA ad cI 24 60 := ⟨by decide, fun _ => rfl⟩
theorem ca_25 (ad : Nat → Nat) (cI : ClassId) : isA ad cI 25 60 := ⟨by decide, fun _ => rfl⟩
theorem ca_26 (ad : Nat → Nat) (cI : ClassId) : isA ad cI 26 60 := ⟨by decide, fun _ => rfl⟩
theorem ca_27 (ad : Nat → Nat) (cI : ClassId) : isA ad cI 27 180 := ⟨by decide, fun _ => rfl⟩
theorem ca_28 (ad : Nat → Nat) (cI : ClassId) : isA ad cI 28 60 := ⟨by decide, fun _ => rfl⟩
theorem ca_29 (ad : Nat → Nat) (cI : ClassId) : isA ad cI 29 60 := ⟨by decide, fun _ => rfl⟩
theorem ca_31 (ad : Nat → Nat) (cI : ClassId) : isA ad cI 31 568 := ⟨by decide, fun _ => rfl⟩
theorem ca_33 (ad : Nat → Nat) (cI : ClassId) : isA ad cI 33 4 := ⟨by decide, fun _ => rfl⟩
theorem ca_34 (ad : Nat → Nat) (cI : ClassId) : isA ad cI 34 4 := ⟨by decide, fun _ => rfl⟩
theorem ca_35 (ad : Nat → Nat) (cI : ClassId) : isA ad cI 35 4 := ⟨by decide, fun _ => rfl⟩
theorem ca_37 (ad : Nat → Nat) (cI : ClassId) : isA ad cI 37 24 := ⟨by decide, fun _ => rfl⟩
theorem ca_39 (ad : Nat → Nat) (cI : ClassId) : isA ad cI 39 9 := ⟨by decide, fun _ => rfl⟩
theorem ca_41 (ad : Nat → Nat) (cI : ClassId) : isA ad cI 41 24 := ⟨by decide, fun _ => rfl⟩
theorem ca_42 (ad : Nat → Nat) (cI : ClassId) : isA ad cI 42 24 := ⟨by decide, fun _ => rfl⟩
theorem ca_44 (ad : Nat → Nat) (cI : ClassId) : isA ad cI 44 4 := ⟨by decide, fun _ => rfl⟩
theorem ca_45 (ad : Nat → Nat) (cI : ClassId) : isA ad cI 45 4 := ⟨by decide, fun _ => rfl⟩
theorem ca_46 (ad : Nat → Nat) (cI : ClassId) : isA ad cI 46 192 := ⟨by decide, fun _ => rfl⟩
theorem cm_1 (bd : Nat → Nat) (cI cZ : ClassId) : isB bd cI cZ 1 60 := ⟨by decide, fun _ => rfl⟩
theorem cm_2 (bd : Nat → Nat) (cI cZ : ClassId) : isB bd cI cZ 2 60 := ⟨by decide, fun _ => rfl⟩
theorem cm_3 (bd : Nat → Nat) (cI cZ : ClassId) : isB bd cI cZ 3 60 := ⟨by decide, fun _ => rfl⟩
theorem cm_4 (bd : Nat → Nat) (cI cZ : ClassId) : isB bd cI cZ 4 60 := ⟨by decide, fun _ => rfl⟩
theorem cm_5 (bd : Nat → Nat) (cI cZ : ClassId) : isB bd cI cZ 5 60 := ⟨by decide, fun _ => rfl⟩
theorem cm_6 (bd : Nat → Nat) (cI cZ : ClassId) : isB bd cI cZ 6 60 := ⟨by decide, fun _ => rfl⟩
theorem cm_7 (bd : Nat → Nat) (cI cZ : ClassId) : isB bd cI cZ 7 12 := ⟨by decide, fun _ => rfl⟩
theorem cm_8 (bd : Nat → Nat) (cI cZ : ClassId) : isB bd cI cZ 8 12 := ⟨by decide, fun _ => rfl⟩
theorem cm_9 (bd : Nat → Nat) (cI cZ : ClassId) : isB bd cI cZ 9 8 := ⟨by decide, fun _ => rfl⟩
theorem cm_10 (bd : Nat → Nat) (cI cZ : ClassId) : isB bd cI cZ 10 88 := ⟨by decide, fun _ => rfl⟩
theorem cm_11 (bd : Nat → Nat) (cI cZ : ClassId) : isB bd cI cZ 11 60 := ⟨by decide, fun _ => rfl⟩
theorem cm_12 (bd : Nat → Nat) (cI cZ : ClassId) : isB bd cI cZ 12 60 := ⟨by decide, fun _ => rfl⟩
theorem cm_13 (bd : Nat → Nat) (cI cZ : ClassId) : isB bd cI cZ 13 60 := ⟨by decide, fun _ => rfl⟩
theorem cm_14 (bd : Nat → Nat) (cI cZ : ClassId) : isB bd cI cZ 14 60 := ⟨by decide, fun _ => rfl⟩
theorem cm_15 (bd : Nat → Nat) (cI cZ : ClassId) : isB bd cI cZ 15 60 := ⟨by decide, fun _ => rfl⟩
theorem cm_16 (bd : Nat → Nat) (cI cZ : ClassId) : isB bd cI cZ 16 60 := ⟨by decide, fun _ => rfl⟩
theorem cm_17 (bd : Nat → Nat) (cI cZ : ClassId) : isB bd cI cZ 17 60 := ⟨by decide, fun _ => rfl⟩
theorem cm_18 (bd : Nat → Nat) (cI cZ : ClassId) : isB bd cI cZ 18 180 := ⟨by decide, fun _ => rfl⟩
theorem cm_19 (bd : Nat → Nat) (cI cZ : ClassId) : isB bd cI cZ 19 14 := ⟨by decide, fun _ => rfl⟩
theorem cm_20 (bd : Nat → Nat) (cI cZ : ClassId) : isB bd cI cZ 20 24 := ⟨by decide, fun _ => rfl⟩
theorem cm_21 (bd : Nat → Nat) (cI cZ : ClassId) : isB bd cI cZ 21 4 := ⟨by decide, fun _ => rfl⟩
theorem cm_22 (bd : Nat → Nat) (cI cZ : ClassId) : isB bd cI cZ 22 4 := ⟨by decide, fun _ => rfl⟩
theorem cm_23 (bd : Nat → Nat) (cI cZ : ClassId) : isB bd cI cZ 23 9 := ⟨by decide, fun _ => rfl⟩
theorem cm_24 (bd : Nat → Nat) (cI cZ : ClassId) : isB bd cI cZ 24 24 := ⟨by decide, fun _ => rfl⟩
theorem cm_25 (bd : Nat → Nat) (cI cZ : ClassId) : isB bd cI cZ 25 24 := ⟨by decide, fun _ => rfl⟩
theorem cm_26 (bd : Nat → Nat) (cI cZ : ClassId) : isZ bd cI cZ 26 4 := ⟨by decide, fun _ => rfl⟩
theorem cm_27 (bd : Nat → Nat) (cI cZ : ClassId) : isB bd cI cZ 27 4 := ⟨by decide, fun _ => rfl⟩
theorem cm_28 (bd : Nat → Nat) (cI cZ : ClassId) : isB bd cI cZ 28 4 := ⟨by decide, fun _ => rfl⟩
theorem cm_29 (bd : Nat → Nat) (cI cZ : ClassId) : isB bd cI cZ 29 192 := ⟨by decide, fun _ => rfl⟩
theorem cm_30 (bd : Nat → Nat) (cI cZ : ClassId) : isB bd cI cZ 30 48 := ⟨by decide, fun _ => rfl⟩
section base
variable {p : Program} {l : Launch} {e : Env} {R : Room} {s : State} {m : MethodId} {args : Array Value} {below : List Frame} {meth : Method} {c : Code} {H : Heap} {locs : List Loc} {Q : State → Prop} {cc : ByteArray} {own : String} {nL : Nat} {ret : Option FieldType} {dC : Nat → ClassId} {dI : Nat → Nat → Nat} {ad bd : Nat → Nat} {cI cZ : ClassId} {C D C' D' : Mem} {pc : Nat} {ls : Array Slot} {rest : List Value}
theorem Ct.intro {y : MethodName} {av : List Value} {rm : Room} {rv : Option Value} (hy : plainName y.cls = true) (hcls : y.cls = own) (hlen : (lg_sl av).length ≤ nL)
    (body : ∀ (p : Program) (e : Env) (s : State) (m : MethodId) (args : Array Value) (below : List Frame) (meth : Method) (c : Code) (H : Heap) (locs : List Loc) (ls : Array Slot), Cx p s m args meth c cc own nL ret dC dI ad bd cI cZ → Ys s dC dI ad bd cI cZ C D H locs → lv_has ls nL (lv_args 0 av) → W p l e rm s m args below meth c H locs 0 0 (MQ below (QC rv dC dI ad bd cI cZ C' D') args s 0 0 (AD ad bd)) (F0 m 0 ls [])) : Ct l dC dI ad bd cI cZ y cc nL ret rm av C D rv C' D' := by
  refine Met.ofW (cc := cc) (maxL := nL) (ret := ret) hy rfl ?_
  intro p e s m args below meth c s₁ B hml hv
  obtain ⟨rfl, hP, hK, hO, hN⟩ := hv
  have hts := atoms_spec (ws := .code y cc nL ret :: wk) B.pre
  have hown : s.vm.findClass y.cls = some m.cls := findClass_of_methodNamed B.named
  rw [hcls] at hown
  rw [lg_entry_eq]
  exact body p e s m _ below meth c s.heap [] _ ⟨B.exec, B.bytes, hml, hown, fun w hw => hts w (List.mem_cons_of_mem _ hw), B.returns, B.notSynchronized, hK, hO, hN⟩ ⟨hP, va_S.rf⟩ (lv_entry av hlen)
theorem fin_i {x r : Int32} (X : Cx p s m args meth c cc own nL ret dC dI ad bd cI cZ) (hr0 : ret = some .int) (Y : Ys s dC dI ad bd cI cZ C D H locs) (hv : x = r) (hC : C = C') (hD : D = D') (hdg : decode cc pc = .ok (.ireturn, 1)) : W p l e R s m args below meth c H locs 0 0 (MQ below (QC (some (.int r)) dC dI ad bd cI cZ C' D') args s 0 0 (AD ad bd)) (F0 m pc ls [.int x]) := by
  subst hv; subst hC; subst hD; subst hr0
  exact W.iret X.1 X.2.1 X.2.2.2.2.2.1 (fun t ht hW => ⟨rfl, by rw [ht]; exact Y.1, Y.2.F ht⟩) Y.2.2.2 hdg X.2.2.2.2.2.2.1
theorem fin_l {x r : Int64} (X : Cx p s m args meth c cc own nL ret dC dI ad bd cI cZ) (hr0 : ret = some .long) (Y : Ys s dC dI ad bd cI cZ C D H locs) (hv : x = r) (hC : C = C') (hD : D = D') (hdg : decode cc pc = .ok (.lreturn, 1)) : W p l e R s m args below meth c H locs 0 0 (MQ below (QC (some (.long r)) dC dI ad bd cI cZ C' D') args s 0 0 (AD ad bd)) (F0 m pc ls [.long x]) := by
  subst hv; subst hC; subst hD; subst hr0
  exact W.lret X.1 X.2.1 X.2.2.2.2.2.1 (fun t ht hW => ⟨rfl, by rw [ht]; exact Y.1, Y.2.F ht⟩) Y.2.2.2 hdg X.2.2.2.2.2.2.1
theorem fin_z {b r : Bool} {x : Int32} (X : Cx p s m args meth c cc own nL ret dC dI ad bd cI cZ) (hr0 : ret = some .boolean) (Y : Ys s dC dI ad bd cI cZ C D H locs) (hx : x = b2i b) (hv : b = r) (hC : C = C') (hD : D = D') (hdg : decode cc pc = .ok (.ireturn, 1)) : W p l e R s m args below meth c H locs 0 0 (MQ below (QC (some (.int (b2i r))) dC dI ad bd cI cZ C' D') args s 0 0 (AD ad bd)) (F0 m pc ls [.int x]) := by
  subst hv; subst hC; subst hD; subst hr0; subst hx
  exact W.zret X.1 X.2.1 X.2.2.2.2.2.1 (b2i_nar b) (fun t ht hW => ⟨rfl, by rw [ht]; exact Y.1, Y.2.F ht⟩) Y.2.2.2 hdg X.2.2.2.2.2.2.1
theorem fin_v (X : Cx p s m args meth c cc own nL ret dC dI ad bd cI cZ) (hr0 : ret = none) (Y : Ys s dC dI ad bd cI cZ C D H locs) (hC : C = C') (hD : D = D') (hdg : decode cc pc = .ok (.return_, 1)) : W p l e R s m args below meth c H locs 0 0 (MQ below (QC none dC dI ad bd cI cZ C' D') args s 0 0 (AD ad bd)) (F0 m pc ls []) := by
  subst hC; subst hD; subst hr0
  exact W.vret X.1 X.2.1 X.2.2.2.2.2.1 (fun t ht hW => ⟨rfl, by rw [ht]; exact Y.1, Y.2.F ht⟩) Y.2.2.2 hdg X.2.2.2.2.2.2.1
theorem r_getc {Cn ref host : String} {T : u_T} {N ci k j index : Nat} {fs : List Value} {v : Value} (X : Cx p s m args meth c cc own nL ret dC dI ad bd cI cZ) (Y : Ys s dC dI ad bd cI cZ C D H locs) (hk : k < 47) (he : cellC ad cI k (C k) = .inr (ci, fs)) (hc : vwCl[ci]? = some (Cn, T, N)) (hj : j < N) (hin : ∀ w ∈ u_ws Cn T N, w ∈ wk) (hl : Cond.fieldLink own index ref (T j).2.1 (T j).2.2.1 ∈ wk) (href : ref = (T j).1) (hv : fs[j]? = some v) (hdg : decode cc pc = .ok (.getfield index, 3)) (kk : W p l e R s m args below meth c H locs 0 0 Q (F0 m (pc + 3) ls (v :: rest))) : W p l e R s m args below meth c H locs 0 0 Q (F0 m pc ls (.ref (ad k) :: rest)) :=
  va_get X.1 X.2.1 X.2.2.2.2.1 hin X.2.2.2.1 X.2.2.2.2.2.2.2.1 Y.1 k (by rw [wl_c ad bd cI cZ C D hk, he]) hc j hj (X.2.2.2.2.1 _ hl) (fun x h => by rw [href]; exact h) hv hdg kk
theorem r_putc {Cn ref host : String} {T : u_T} {N ci k j index : Nat} {fs : List Value} {v : Int32} {C1 : Mem} (ty0 : Nat → FieldType) (X : Cx p s m args meth c cc own nL ret dC dI ad bd cI cZ) (Y : Ys s dC dI ad bd cI cZ C D H locs) (hk : k < 47) (he : cellC ad cI k (C k) = .inr (ci, fs)) (he2 : .inr (ci, fs.set j (.int v)) = cellC ad cI k (upd (C k) j v)) (hc : vwCl[ci]? = some (Cn, T, N)) (hj : j < N) (hin : ∀ w ∈ u_ws Cn T N, w ∈ wk) (hty : ∀ k, k < N → parseFieldDescriptor (T k).2.2.1 = some (ty0 k)) (hnm : ∀ a, a < N → ∀ b, b < N → a ≠ b → (T a).2.1 ≠ (T b).2.1) (hl : Cond.fieldLink own index ref (T j).2.1 (T j).2.2.1 ∈ wk) (href : ref = (T j).1) (hfin : (T j).2.2.2 = false) (hd : parseFieldDescriptor (T j).2.2.1 = some .int) (hlen : j < fs.length) (hC : C1 = st2 C k j v) (hdg : decode cc pc = .ok (.putfield index, 3)) (kk : ∀ (H1 : Heap) (locs1 : List Loc), Ys s dC dI ad bd cI cZ C1 D H1 locs1 → W p l e R s m args below meth c H1 locs1 0 0 Q (F0 m (pc + 3) ls rest)) : W p l e R s m args below meth c H locs 0 0 Q (F0 m pc ls (.int v :: .ref (ad k) :: rest)) := by
  refine va_put X.1 X.2.1 X.2.2.2.2.1 hin ty0 hty hnm X.2.2.2.1 X.2.2.2.2.2.2.2.1 Y.1 (wl_D cI cZ C D X.2.2.2.2.2.2.2.2.1) Y.2 k (by rw [wl_c ad bd cI cZ C D hk, he]) hc j hj (X.2.2.2.2.1 _ hl) (fun x h => by rw [href]; exact h) hfin hd rfl rfl hlen hdg (fun H1 locs1 hP _ hS => kk H1 locs1 ⟨?_, hS⟩)
  rw [he2, wl_sc ad bd cI cZ C D hk] at hP
  rw [hC]; exact hP
theorem r_getcN {Cn ref host : String} {T : u_T} {N ci k j index : Nat} {fs : List Value} {v : Value} (X : Cx p s m args meth c cc own nL ret dC dI ad bd cI cZ) (Y : Ys s dC dI ad bd cI cZ C D H locs) (hk : k < 47) (he : cellC ad cI k (C k) = .inr (ci, fs)) (hc : vwCl[ci]? = some (Cn, T, N)) (hj : j < N) (hin : ∀ w ∈ u_ws Cn T N, w ∈ wk) (hl : Cond.fieldLinkNest own index ref (T j).2.1 (T j).2.2.1 host ∈ nk) (href : ref = (T j).1) (hv : fs[j]? = some v) (hdg : decode cc pc = .ok (.getfield index, 3)) (kk : W p l e R s m args below meth c H locs 0 0 Q (F0 m (pc + 3) ls (v :: rest))) : W p l e R s m args below meth c H locs 0 0 Q (F0 m pc ls (.ref (ad k) :: rest)) :=
  va_getN X.1 X.2.1 X.2.2.2.2.1 hin X.2.2.2.1 X.2.2.2.2.2.2.2.1 Y.1 k (by rw [wl_c ad bd cI cZ C D hk, he]) hc j hj (va_Nw.use rfl (X.2.2.2.2.2.2.2.2.2 _ hl)) (fun x h => by rw [href]; exact h) hv hdg kk
theorem r_putcN {Cn ref host : String} {T : u_T} {N ci k j index : Nat} {fs : List Value} {v : Int32} {C1 : Mem} (ty0 : Nat → FieldType) (X : Cx p s m args meth c cc own nL ret dC dI ad bd cI cZ) (Y : Ys s dC dI ad bd cI cZ C D H locs) (hk : k < 47) (he : cellC ad cI k (C k) = .inr (ci, fs)) (he2 : .inr (ci, fs.set j (.int v)) = cellC ad cI k (upd (C k) j v)) (hc : vwCl[ci]? = some (Cn, T, N)) (hj : j < N) (hin : ∀ w ∈ u_ws Cn T N, w ∈ wk) (hty : ∀ k, k < N → parseFieldDescriptor (T k).2.2.1 = some (ty0 k)) (hnm : ∀ a, a < N → ∀ b, b < N → a ≠ b → (T a).2.1 ≠ (T b).2.1) (hl : Cond.fieldLinkNest own index ref (T j).2.1 (T j).2.2.1 host ∈ nk) (href : ref = (T j).1) (hfin : (T j).2.2.2 = false) (hd : parseFieldDescriptor (T j).2.2.1 = some .int) (hlen : j < fs.length) (hC : C1 = st2 C k j v) (hdg : decode cc pc = .ok (.putfield index, 3)) (kk : ∀ (H1 : Heap) (locs1 : List Loc), Ys s dC dI ad bd cI cZ C1 D H1 locs1 → W p l e R s m args below meth c H1 locs1 0 0 Q (F0 m (pc + 3) ls rest)) : W p l e R s m args below meth c H locs 0 0 Q (F0 m pc ls (.int v :: .ref (ad k) :: rest)) := by
  refine va_putN X.1 X.2.1 X.2.2.2.2.1 hin ty0 hty hnm X.2.2.2.1 X.2.2.2.2.2.2.2.1 Y.1 (wl_D cI cZ C D X.2.2.2.2.2.2.2.2.1) Y.2 k (by rw [wl_c ad bd cI cZ C D hk, he]) hc j hj (va_Nw.use rfl (X.2.2.2.2.2.2.2.2.2 _ hl)) (fun x h => by rw [href]; exact h) hfin hd rfl rfl hlen hdg (fun H1 locs1 hP _ hS => kk H1 locs1 ⟨?_, hS⟩)
  rw [he2, wl_sc ad bd cI cZ C D hk] at hP
  rw [hC]; exact hP
theorem r_ialdc {k n : Nat} {i : Int32} (X : Cx p s m args meth c cc own nL ret dC dI ad bd cI cZ) (Y : Ys s dC dI ad bd cI cZ C D H locs) (hA : isA ad cI k n) (hin : inb i n = true) (hdg : decode cc pc = .ok (.iaload, 1)) (kk : W p l e R s m args below meth c H locs 0 0 Q (F0 m (pc + 1) ls (.int (C k i.toNatClampNeg) :: rest))) : W p l e R s m args below meth c H locs 0 0 Q (F0 m pc ls (.int i :: .ref (ad k) :: rest)) :=
  va_iald X.1 X.2.1 X.2.2.2.2.2.2.2.1 Y.1 k 0 (by rw [wl_c ad bd cI cZ C D hA.1, hA.2]) rfl (inb_in hin) hdg kk
theorem r_iastc {k n : Nat} {i v : Int32} {C1 : Mem} (X : Cx p s m args meth c cc own nL ret dC dI ad bd cI cZ) (Y : Ys s dC dI ad bd cI cZ C D H locs) (hA : isA ad cI k n) (hin : inb i n = true) (hC : C1 = st2 C k i.toNatClampNeg (v)) (hdg : decode cc pc = .ok (.iastore, 1)) (kk : ∀ (H1 : Heap) (locs1 : List Loc), Ys s dC dI ad bd cI cZ C1 D H1 locs1 → W p l e R s m args below meth c H1 locs1 0 0 Q (F0 m (pc + 1) ls rest)) : W p l e R s m args below meth c H locs 0 0 Q (F0 m pc ls (.int v :: .int i :: .ref (ad k) :: rest)) := by
  refine va_iast X.1 X.2.1 X.2.2.2.2.2.2.2.1 Y.1 (wl_D cI cZ C D X.2.2.2.2.2.2.2.2.1) Y.2 k 0 (by rw [wl_c ad bd cI cZ C D hA.1, hA.2]) rfl (inb_in hin) hdg (fun H1 locs1 hP _ hS => kk H1 locs1 ⟨?_, hS⟩)
  rw [← hA.2, wl_sc ad bd cI cZ C D hA.1] at hP
  rw [hC]; exact hP
theorem r_alenc {k n : Nat} (X : Cx p s m args meth c cc own nL ret dC dI ad bd cI cZ) (Y : Ys s dC dI ad bd cI cZ C D H locs) (hA : isA ad cI k n) (hdg : decode cc pc = .ok (.arraylength, 1)) (kk : W p l e R s m args below meth c H locs 0 0 Q (F0 m (pc + 1) ls (.int (nI n) :: rest))) : W p l e R s m args below meth c H locs 0 0 Q (F0 m pc ls (.ref (ad k) :: rest)) :=
  va_alen X.1 X.2.1 X.2.2.2.2.2.2.2.1 Y.1 k 0 (x := (n, .inl (C k))) (by rw [wl_c ad bd cI cZ C D hA.1, hA.2]) rfl rfl hdg kk
theorem r_recvc {Cn : String} {T : u_T} {N ci k : Nat} {fs : List Value} (X : Cx p s m args meth c cc own nL ret dC dI ad bd cI cZ) (Y : Ys s dC dI ad bd cI cZ C D H locs) (hk : k < 47) (he : cellC ad cI k (C k) = .inr (ci, fs)) (hc : vwCl[ci]? = some (Cn, T, N)) : ∃ cell : Cell, H[ad k]? = some cell ∧ cell.vm.isStatics = false ∧ s.vm.findClass Cn = some cell.cls :=
  va_recv X.2.2.2.2.2.2.2.1 Y.1 hc (q0 := k) (ci := ci) (fs := fs) (by rw [wl_c ad bd cI cZ C D hk, he])
theorem r_getm {Cn ref host : String} {T : u_T} {N ci k j index : Nat} {fs : List Value} {v : Value} (X : Cx p s m args meth c cc own nL ret dC dI ad bd cI cZ) (Y : Ys s dC dI ad bd cI cZ C D H locs) (hk : k < 31) (he : cellM bd cI cZ k (D k) = .inr (ci, fs)) (hc : vwCl[ci]? = some (Cn, T, N)) (hj : j < N) (hin : ∀ w ∈ u_ws Cn T N, w ∈ wk) (hl : Cond.fieldLink own index ref (T j).2.1 (T j).2.2.1 ∈ wk) (href : ref = (T j).1) (hv : fs[j]? = some v) (hdg : decode cc pc = .ok (.getfield index, 3)) (kk : W p l e R s m args below meth c H locs 0 0 Q (F0 m (pc + 3) ls (v :: rest))) : W p l e R s m args below meth c H locs 0 0 Q (F0 m pc ls (.ref (bd k) :: rest)) :=
  va_get X.1 X.2.1 X.2.2.2.2.1 hin X.2.2.2.1 X.2.2.2.2.2.2.2.1 Y.1 (47 + k) (by rw [wl_m ad bd cI cZ C D hk, he]) hc j hj (X.2.2.2.2.1 _ hl) (fun x h => by rw [href]; exact h) hv hdg kk
theorem r_putm {Cn ref host : String} {T : u_T} {N ci k j index : Nat} {fs : List Value} {v : Int32} {D1 : Mem} (ty0 : Nat → FieldType) (X : Cx p s m args meth c cc own nL ret dC dI ad bd cI cZ) (Y : Ys s dC dI ad bd cI cZ C D H locs) (hk : k < 31) (he : cellM bd cI cZ k (D k) = .inr (ci, fs)) (he2 : .inr (ci, fs.set j (.int v)) = cellM bd cI cZ k (upd (D k) j v)) (hc : vwCl[ci]? = some (Cn, T, N)) (hj : j < N) (hin : ∀ w ∈ u_ws Cn T N, w ∈ wk) (hty : ∀ k, k < N → parseFieldDescriptor (T k).2.2.1 = some (ty0 k)) (hnm : ∀ a, a < N → ∀ b, b < N → a ≠ b → (T a).2.1 ≠ (T b).2.1) (hl : Cond.fieldLink own index ref (T j).2.1 (T j).2.2.1 ∈ wk) (href : ref = (T j).1) (hfin : (T j).2.2.2 = false) (hd : parseFieldDescriptor (T j).2.2.1 = some .int) (hlen : j < fs.length) (hC : D1 = st2 D k j v) (hdg : decode cc pc = .ok (.putfield index, 3)) (kk : ∀ (H1 : Heap) (locs1 : List Loc), Ys s dC dI ad bd cI cZ C D1 H1 locs1 → W p l e R s m args below meth c H1 locs1 0 0 Q (F0 m (pc + 3) ls rest)) : W p l e R s m args below meth c H locs 0 0 Q (F0 m pc ls (.int v :: .ref (bd k) :: rest)) := by
  refine va_put X.1 X.2.1 X.2.2.2.2.1 hin ty0 hty hnm X.2.2.2.1 X.2.2.2.2.2.2.2.1 Y.1 (wl_D cI cZ C D X.2.2.2.2.2.2.2.2.1) Y.2 (47 + k) (by rw [wl_m ad bd cI cZ C D hk, he]) hc j hj (X.2.2.2.2.1 _ hl) (fun x h => by rw [href]; exact h) hfin hd rfl rfl hlen hdg (fun H1 locs1 hP _ hS => kk H1 locs1 ⟨?_, hS⟩)
  rw [he2, wl_sm ad bd cI cZ C D hk] at hP
  rw [hC]; exact hP
theorem r_getmN {Cn ref host : String} {T : u_T} {N ci k j index : Nat} {fs : List Value} {v : Value} (X : Cx p s m args meth c cc own nL ret dC dI ad bd cI cZ) (Y : Ys s dC dI ad bd cI cZ C D H locs) (hk : k < 31) (he : cellM bd cI cZ k (D k) = .inr (ci, fs)) (hc : vwCl[ci]? = some (Cn, T, N)) (hj : j < N) (hin : ∀ w ∈ u_ws Cn T N, w ∈ wk) (hl : Cond.fieldLinkNest own index ref (T j).2.1 (T j).2.2.1 host ∈ nk) (href : ref = (T j).1) (hv : fs[j]? = some v) (hdg : decode cc pc = .ok (.getfield index, 3)) (kk : W p l e R s m args below meth c H locs 0 0 Q (F0 m (pc + 3) ls (v :: rest))) : W p l e R s m args below meth c H locs 0 0 Q (F0 m pc ls (.ref (bd k) :: rest)) :=
  va_getN X.1 X.2.1 X.2.2.2.2.1 hin X.2.2.2.1 X.2.2.2.2.2.2.2.1 Y.1 (47 + k) (by rw [wl_m ad bd cI cZ C D hk, he]) hc j hj (va_Nw.use rfl (X.2.2.2.2.2.2.2.2.2 _ hl)) (fun x h => by rw [href]; exact h) hv hdg kk
theorem r_putmN {Cn ref host : String} {T : u_T} {N ci k j index : Nat} {fs : List Value} {v : Int32} {D1 : Mem} (ty0 : Nat → FieldType) (X : Cx p s m args meth c cc own nL ret dC dI ad bd cI cZ) (Y : Ys s dC dI ad bd cI cZ C D H locs) (hk : k < 31) (he : cellM bd cI cZ k (D k) = .inr (ci, fs)) (he2 : .inr (ci, fs.set j (.int v)) = cellM bd cI cZ k (upd (D k) j v)) (hc : vwCl[ci]? = some (Cn, T, N)) (hj : j < N) (hin : ∀ w ∈ u_ws Cn T N, w ∈ wk) (hty : ∀ k, k < N → parseFieldDescriptor (T k).2.2.1 = some (ty0 k)) (hnm : ∀ a, a < N → ∀ b, b < N → a ≠ b → (T a).2.1 ≠ (T b).2.1) (hl : Cond.fieldLinkNest own index ref (T j).2.1 (T j).2.2.1 host ∈ nk) (href : ref = (T j).1) (hfin : (T j).2.2.2 = false) (hd : parseFieldDescriptor (T j).2.2.1 = some .int) (hlen : j < fs.length) (hC : D1 = st2 D k j v) (hdg : decode cc pc = .ok (.putfield index, 3)) (kk : ∀ (H1 : Heap) (locs1 : List Loc), Ys s dC dI ad bd cI cZ C D1 H1 locs1 → W p l e R s m args below meth c H1 locs1 0 0 Q (F0 m (pc + 3) ls rest)) : W p l e R s m args below meth c H locs 0 0 Q (F0 m pc ls (.int v :: .ref (bd k) :: rest)) := by
  refine va_putN X.1 X.2.1 X.2.2.2.2.1 hin ty0 hty hnm X.2.2.2.1 X.2.2.2.2.2.2.2.1 Y.1 (wl_D cI cZ C D X.2.2.2.2.2.2.2.2.1) Y.2 (47 + k) (by rw [wl_m ad bd cI cZ C D hk, he]) hc j hj (va_Nw.use rfl (X.2.2.2.2.2.2.2.2.2 _ hl)) (fun x h => by rw [href]; exact h) hfin hd rfl rfl hlen hdg (fun H1 locs1 hP _ hS => kk H1 locs1 ⟨?_, hS⟩)
  rw [he2, wl_sm ad bd cI cZ C D hk] at hP
  rw [hC]; exact hP
theorem r_ialdm {k n : Nat} {i : Int32} (X : Cx p s m args meth c cc own nL ret dC dI ad bd cI cZ) (Y : Ys s dC dI ad bd cI cZ C D H locs) (hA : isB bd cI cZ k n) (hin : inb i n = true) (hdg : decode cc pc = .ok (.iaload, 1)) (kk : W p l e R s m args below meth c H locs 0 0 Q (F0 m (pc + 1) ls (.int (D k i.toNatClampNeg) :: rest))) : W p l e R s m args below meth c H locs 0 0 Q (F0 m pc ls (.int i :: .ref (bd k) :: rest)) :=
  va_iald X.1 X.2.1 X.2.2.2.2.2.2.2.1 Y.1 (47 + k) 0 (by rw [wl_m ad bd cI cZ C D hA.1, hA.2]) rfl (inb_in hin) hdg kk
theorem r_iastm {k n : Nat} {i v : Int32} {D1 : Mem} (X : Cx p s m args meth c cc own nL ret dC dI ad bd cI cZ) (Y : Ys s dC dI ad bd cI cZ C D H locs) (hA : isB bd cI cZ k n) (hin : inb i n = true) (hC : D1 = st2 D k i.toNatClampNeg (v)) (hdg : decode cc pc = .ok (.iastore, 1)) (kk : ∀ (H1 : Heap) (locs1 : List Loc), Ys s dC dI ad bd cI cZ C D1 H1 locs1 → W p l e R s m args below meth c H1 locs1 0 0 Q (F0 m (pc + 1) ls rest)) : W p l e R s m args below meth c H locs 0 0 Q (F0 m pc ls (.int v :: .int i :: .ref (bd k) :: rest)) := by
  refine va_iast X.1 X.2.1 X.2.2.2.2.2.2.2.1 Y.1 (wl_D cI cZ C D X.2.2.2.2.2.2.2.2.1) Y.2 (47 + k) 0 (by rw [wl_m ad bd cI cZ C D hA.1, hA.2]) rfl (inb_in hin) hdg (fun H1 locs1 hP _ hS => kk H1 locs1 ⟨?_, hS⟩)
  rw [← hA.2, wl_sm ad bd cI cZ C D hA.1] at hP
  rw [hC]; exact hP
theorem r_zaldm {k n : Nat} {i : Int32} (X : Cx p s m args meth c cc own nL ret dC dI ad bd cI cZ) (Y : Ys s dC dI ad bd cI cZ C D H locs) (hA : isZ bd cI cZ k n) (hin : inb i n = true) (hdg : decode cc pc = .ok (.baload, 1)) (kk : W p l e R s m args below meth c H locs 0 0 Q (F0 m (pc + 1) ls (.int (D k i.toNatClampNeg) :: rest))) : W p l e R s m args below meth c H locs 0 0 Q (F0 m pc ls (.int i :: .ref (bd k) :: rest)) :=
  va_zald X.1 X.2.1 X.2.2.2.2.2.2.2.1 Y.1 (47 + k) 1 (by rw [wl_m ad bd cI cZ C D hA.1, hA.2]) rfl (inb_in hin) hdg kk
theorem r_zastm {k n : Nat} {i v : Int32} {D1 : Mem} (X : Cx p s m args meth c cc own nL ret dC dI ad bd cI cZ) (Y : Ys s dC dI ad bd cI cZ C D H locs) (hA : isZ bd cI cZ k n) (hin : inb i n = true) (hC : D1 = st2 D k i.toNatClampNeg (vp_nar .boolean v)) (hdg : decode cc pc = .ok (.bastore, 1)) (kk : ∀ (H1 : Heap) (locs1 : List Loc), Ys s dC dI ad bd cI cZ C D1 H1 locs1 → W p l e R s m args below meth c H1 locs1 0 0 Q (F0 m (pc + 1) ls rest)) : W p l e R s m args below meth c H locs 0 0 Q (F0 m pc ls (.int v :: .int i :: .ref (bd k) :: rest)) := by
  refine va_zast X.1 X.2.1 X.2.2.2.2.2.2.2.1 Y.1 (wl_D cI cZ C D X.2.2.2.2.2.2.2.2.1) Y.2 (47 + k) 1 (by rw [wl_m ad bd cI cZ C D hA.1, hA.2]) rfl (inb_in hin) hdg (fun H1 locs1 hP _ hS => kk H1 locs1 ⟨?_, hS⟩)
  rw [← hA.2, wl_sm ad bd cI cZ C D hA.1] at hP
  rw [hC]; exact hP
theorem r_alenm {k n : Nat} (X : Cx p s m args meth c cc own nL ret dC dI ad bd cI cZ) (Y : Ys s dC dI ad bd cI cZ C D H locs) (hA : isB bd cI cZ k n) (hdg : decode cc pc = .ok (.arraylength, 1)) (kk : W p l e R s m args below meth c H locs 0 0 Q (F0 m (pc + 1) ls (.int (nI n) :: rest))) : W p l e R s m args below meth c H locs 0 0 Q (F0 m pc ls (.ref (bd k) :: rest)) :=
  va_alen X.1 X.2.1 X.2.2.2.2.2.2.2.1 Y.1 (47 + k) 0 (x := (n, .inl (D k))) (by rw [wl_m ad bd cI cZ C D hA.1, hA.2]) rfl rfl hdg kk
theorem r_recvm {Cn : String} {T : u_T} {N ci k : Nat} {fs : List Value} (X : Cx p s m args meth c cc own nL ret dC dI ad bd cI cZ) (Y : Ys s dC dI ad bd cI cZ C D H locs) (hk : k < 31) (he : cellM bd cI cZ k (D k) = .inr (ci, fs)) (hc : vwCl[ci]? = some (Cn, T, N)) : ∃ cell : Cell, H[bd k]? = some cell ∧ cell.vm.isStatics = false ∧ s.vm.findClass Cn = some cell.cls :=
  va_recv X.2.2.2.2.2.2.2.1 Y.1 hc (q0 := (47 + k)) (ci := ci) (fs := fs) (by rw [wl_m ad bd cI cZ C D hk, he])
theorem callQ {a : Array Value} {st0 : List Value} {rv : Option Value} (hr : va_Run p l e R s m args below meth c H locs 0 0 0 0 (F0 m pc ls st0) rest (QC rv dC dI ad bd cI cZ C' D' a) (AD ad bd)) (Y : Ys s dC dI ad bd cI cZ C D H locs)
    (kk : ∀ (H1 : Heap) (locs1 : List Loc), Ys s dC dI ad bd cI cZ C' D' H1 locs1 → W p l e R s m args below meth c H1 locs1 0 0 Q (F0 m (pc + 3) ls (rv.toList ++ rest))) : W p l e R s m args below meth c H locs 0 0 Q (F0 m pc ls st0) := by
  intro T hT X
  obtain ⟨v, st₀, t, T', L, h0, X', hL, e1, e2, ⟨hv, hb, hz, hk⟩, st⟩ := hr T hT X
  cases hv
  rw [h0] at hz hk
  have hS := Y.2
  obtain ⟨t2, a1, b1⟩ := kk T'.heap (locs ++ L) ⟨by rw [e1]; exact hb,
    ⟨Nat.le_trans hS.1 (by rw [e1]; exact hz), fun q h1 h2 => by rw [e1, hk q (Nat.lt_of_lt_of_le h1 hS.1) h2]; exact hS.2.1 q h1 h2, fun q hq => by
      rcases List.mem_append.mp hq with h | h
      · exact hS.2.2 q h
      · exact hL q h⟩⟩ T' rfl X'
  exact ⟨t2, st t2 a1, b1⟩
theorem wd_blind {av : List Value} : FrameBlind (va_Pc av (Wd dC dI ad bd cI cZ C D)) := fun a U g mk q => ⟨q.1, q.2.1, va_K.moved (u := U) (U := U.calling g mk a) (Vm.Alike.refl U.vm) q.2.2.1, q.2.2.2.1, nk_same (u := U) (U := U.calling g mk a) rfl q.2.2.2.2⟩
theorem wd_pre (X : Cx p s m args meth c cc own nL ret dC dI ad bd cI cZ) (Y : Ys s dC dI ad bd cI cZ C D H locs) (av : List Value) : ∀ U : State, U.heap = H → s.WarmedH U.vm → va_Pc av (Wd dC dI ad bd cI cZ C D) av.toArray U := fun U hU hW => ⟨rfl, by rw [hU]; exact Y.1, va_K.moved hW.alike X.2.2.2.2.2.2.2.1, X.2.2.2.2.2.2.2.2.1, nk_warm hW X.2.2.2.2.2.2.2.2.2⟩
def ySig (y : MethodName) (n : Nat) : Prop := y.cls ≠ "java/lang/invoke/MethodHandle" ∧ y.cls ≠ "java/lang/invoke/VarHandle" ∧ (parseMethodDescriptor y.desc).map (fun d => d.parameters.length) = some n
def SwS (own : String) (index : Nat) (y : MethodName) (bytes : ByteArray) (maxL : Nat) (ret : Option FieldType) (n : Nat) : Prop := Cond.methodLink own index y ∈ wk ∧ Cond.code y bytes maxL ret ∈ wk ∧ Cond.initialized y.cls ∈ wk ∧ Cond.static y ∈ wk ∧ ySig y n
def SwSN (own : String) (index : Nat) (y : MethodName) (bytes : ByteArray) (maxL : Nat) (ret : Option FieldType) (n : Nat) (host : String) : Prop := Cond.methodLinkNest own index y host ∈ nk ∧ Cond.code y bytes maxL ret ∈ wk ∧ Cond.initialized y.cls ∈ wk ∧ Cond.static y ∈ wk ∧ ySig y n
def SwV (own : String) (index : Nat) (y : MethodName) (bytes : ByteArray) (maxL : Nat) (ret : Option FieldType) (n : Nat) : Prop := Cond.methodLink own index y ∈ wk ∧ Cond.code y bytes maxL ret ∈ wk ∧ Cond.initialized y.cls ∈ wk ∧ Cond.instanceMethod y ∈ wk ∧ Cond.selects y.cls y y ∈ wk ∧ ySig y n
def SwVN (own : String) (index : Nat) (y : MethodName) (bytes : ByteArray) (maxL : Nat) (ret : Option FieldType) (n : Nat) (host : String) : Prop := Cond.methodLinkNest own index y host ∈ nk ∧ Cond.code y bytes maxL ret ∈ wk ∧ Cond.initialized y.cls ∈ wk ∧ Cond.instanceMethod y ∈ wk ∧ Cond.selects y.cls y y ∈ wk ∧ ySig y n
def RmOk (rm R : Room) (maxL : Nat) : Prop := rm.cells = 0 ∧ rm.slots = 0 ∧ rm.frames + 1 ≤ R.frames ∧ 8 + (maxL + 11) + rm.locals ≤ R.locals
theorem cellsOk {rm R : Room} {maxL : Nat} (h : RmOk rm R maxL) : 0 + 0 ≤ R.cells ∧ 0 + 0 ≤ R.slots := ⟨Nat.zero_le _, Nat.zero_le _⟩
theorem call_si {y : MethodName} {bytes : ByteArray} {maxL n index : Nat} {rt : Option FieldType} {rm : Room} {r : Int32} {lvl : List (Nat × Value)}  (As : List Value) (X : Cx p s m args meth c cc own nL ret dC dI ad bd cI cZ) (Y : Ys s dC dI ad bd cI cZ C D H locs) (hM : Ct l dC dI ad bd cI cZ y bytes maxL rt rm As C D (some (.int r)) C' D') (sw : SwS own index y bytes maxL rt n) (hn : As.length = n) (hR : RmOk rm R maxL) (hl : lv_has ls nL lvl) {st0 : List Value} (hst : st0 = As.reverse ++ rest) (hW : (rest.map fun v => v.category).sum ≤ 8) (hdg : decode cc pc = .ok (.invokestatic index, 3)) (kk : ∀ (H1 : Heap) (locs1 : List Loc), Ys s dC dI ad bd cI cZ C' D' H1 locs1 → W p l e R s m args below meth c H1 locs1 0 0 Q (F0 m (pc + 3) ls (.int r :: rest))) : W p l e R s m args below meth c H locs 0 0 Q (F0 m pc ls st0) := by
  subst hst
  exact callQ (va_runS (As := As) (rest := rest) ⟨X.1, X.2.1, X.2.2.1, X.2.2.2.1, X.2.2.2.2.1⟩ hM ⟨callB_of (ws := .code y bytes maxL rt :: wk) n X.2.2.2.2.1 (wk_in sw.2.1) rfl hR.1 hR.2.1 (X.2.2.2.2.1 _ sw.2.2.1) (X.2.2.2.2.1 _ sw.1) sw.2.2.2.2 ⟨hR.2.2.1, hR.2.2.2⟩, (X.2.2.2.2.1 _ sw.2.2.2.1)⟩ ⟨wd_blind, wd_pre X Y As⟩ rfl hn hl.1 rfl (lv_room hW) hdg (cellsOk hR)) Y kk
theorem call_vi {y : MethodName} {bytes : ByteArray} {maxL n index : Nat} {rt : Option FieldType} {rm : Room} {r : Int32} {lvl : List (Nat × Value)}  {b : Nat} (As : List Value) (X : Cx p s m args meth c cc own nL ret dC dI ad bd cI cZ) (Y : Ys s dC dI ad bd cI cZ C D H locs) (hM : Ct l dC dI ad bd cI cZ y bytes maxL rt rm (.ref b :: As) C D (some (.int r)) C' D') (sw : SwV own index y bytes maxL rt n) (hrc : ∃ cell : Cell, H[b]? = some cell ∧ cell.vm.isStatics = false ∧ s.vm.findClass y.cls = some cell.cls) (hn : As.length = n) (hR : RmOk rm R maxL) (hl : lv_has ls nL lvl) {st0 : List Value} (hst : st0 = As.reverse ++ .ref b :: rest) (hW : (rest.map fun v => v.category).sum ≤ 8) (hdg : decode cc pc = .ok (.invokevirtual index, 3)) (kk : ∀ (H1 : Heap) (locs1 : List Loc), Ys s dC dI ad bd cI cZ C' D' H1 locs1 → W p l e R s m args below meth c H1 locs1 0 0 Q (F0 m (pc + 3) ls (.int r :: rest))) : W p l e R s m args below meth c H locs 0 0 Q (F0 m pc ls st0) := by
  subst hst
  exact callQ (va_runV (As := As) (rest := rest) ⟨X.1, X.2.1, X.2.2.1, X.2.2.2.1, X.2.2.2.2.1⟩ hM ⟨callB_of (ws := .code y bytes maxL rt :: wk) n X.2.2.2.2.1 (wk_in sw.2.1) rfl hR.1 hR.2.1 (X.2.2.2.2.1 _ sw.2.2.1) (X.2.2.2.2.1 _ sw.1) sw.2.2.2.2.2 ⟨hR.2.2.1, hR.2.2.2⟩, (X.2.2.2.2.1 _ sw.2.2.2.1), (X.2.2.2.2.1 _ sw.2.2.2.2.1)⟩ ⟨wd_blind, hrc, wd_pre X Y (.ref b :: As)⟩ rfl hn hl.1 rfl (lv_room hW) hdg (cellsOk hR)) Y kk
theorem call_sNi {y : MethodName} {bytes : ByteArray} {maxL n index : Nat} {rt : Option FieldType} {rm : Room} {r : Int32} {lvl : List (Nat × Value)} {host : String} (As : List Value) (X : Cx p s m args meth c cc own nL ret dC dI ad bd cI cZ) (Y : Ys s dC dI ad bd cI cZ C D H locs) (hM : Ct l dC dI ad bd cI cZ y bytes maxL rt rm As C D (some (.int r)) C' D') (sw : SwSN own index y bytes maxL rt n host) (hn : As.length = n) (hR : RmOk rm R maxL) (hl : lv_has ls nL lvl) {st0 : List Value} (hst : st0 = As.reverse ++ rest) (hW : (rest.map fun v => v.category).sum ≤ 8) (hdg : decode cc pc = .ok (.invokestatic index, 3)) (kk : ∀ (H1 : Heap) (locs1 : List Loc), Ys s dC dI ad bd cI cZ C' D' H1 locs1 → W p l e R s m args below meth c H1 locs1 0 0 Q (F0 m (pc + 3) ls (.int r :: rest))) : W p l e R s m args below meth c H locs 0 0 Q (F0 m pc ls st0) := by
  subst hst
  exact callQ (va_runSN (As := As) (rest := rest) ⟨X.1, X.2.1, X.2.2.1, X.2.2.2.1, X.2.2.2.2.1⟩ hM ⟨va_cnB (ws := .code y bytes maxL rt :: wk) n X.2.2.2.2.1 (wk_in sw.2.1) rfl hR.1 hR.2.1 (X.2.2.2.2.2.2.2.2.2 _ sw.1) (X.2.2.2.2.1 _ sw.2.2.1) sw.2.2.2.2 ⟨hR.2.2.1, hR.2.2.2⟩, (X.2.2.2.2.1 _ sw.2.2.2.1), trivial⟩ ⟨wd_blind, wd_pre X Y As⟩ rfl hn hl.1 rfl (lv_room hW) hdg (cellsOk hR)) Y kk
theorem call_vNi {y : MethodName} {bytes : ByteArray} {maxL n index : Nat} {rt : Option FieldType} {rm : Room} {r : Int32} {lvl : List (Nat × Value)} {host : String} {b : Nat} (As : List Value) (X : Cx p s m args meth c cc own nL ret dC dI ad bd cI cZ) (Y : Ys s dC dI ad bd cI cZ C D H locs) (hM : Ct l dC dI ad bd cI cZ y bytes maxL rt rm (.ref b :: As) C D (some (.int r)) C' D') (sw : SwVN own index y bytes maxL rt n host) (hrc : ∃ cell : Cell, H[b]? = some cell ∧ cell.vm.isStatics = false ∧ s.vm.findClass y.cls = some cell.cls) (hn : As.length = n) (hR : RmOk rm R maxL) (hl : lv_has ls nL lvl) {st0 : List Value} (hst : st0 = As.reverse ++ .ref b :: rest) (hW : (rest.map fun v => v.category).sum ≤ 8) (hdg : decode cc pc = .ok (.invokevirtual index, 3)) (kk : ∀ (H1 : Heap) (locs1 : List Loc), Ys s dC dI ad bd cI cZ C' D' H1 locs1 → W p l e R s m args below meth c H1 locs1 0 0 Q (F0 m (pc + 3) ls (.int r :: rest))) : W p l e R s m args below meth c H locs 0 0 Q (F0 m pc ls st0) := by
  subst hst
  exact callQ (va_runVN (As := As) (rest := rest) ⟨X.1, X.2.1, X.2.2.1, X.2.2.2.1, X.2.2.2.2.1⟩ hM ⟨va_cnB (ws := .code y bytes maxL rt :: wk) n X.2.2.2.2.1 (wk_in sw.2.1) rfl hR.1 hR.2.1 (X.2.2.2.2.2.2.2.2.2 _ sw.1) (X.2.2.2.2.1 _ sw.2.2.1) sw.2.2.2.2.2 ⟨hR.2.2.1, hR.2.2.2⟩, (X.2.2.2.2.1 _ sw.2.2.2.1), (X.2.2.2.2.1 _ sw.2.2.2.2.1)⟩ ⟨wd_blind, hrc, wd_pre X Y (.ref b :: As)⟩ rfl hn hl.1 rfl (lv_room hW) hdg (cellsOk hR)) Y kk
theorem call_sl {y : MethodName} {bytes : ByteArray} {maxL n index : Nat} {rt : Option FieldType} {rm : Room} {r : Int64} {lvl : List (Nat × Value)}  (As : List Value) (X : Cx p s m args meth c cc own nL ret dC dI ad bd cI cZ) (Y : Ys s dC dI ad bd cI cZ C D H locs) (hM : Ct l dC dI ad bd cI cZ y bytes maxL rt rm As C D (some (.long r)) C' D') (sw : SwS own index y bytes maxL rt n) (hn : As.length = n) (hR : RmOk rm R maxL) (hl : lv_has ls nL lvl) {st0 : List Value} (hst : st0 = As.reverse ++ rest) (hW : (rest.map fun v => v.category).sum ≤ 8) (hdg : decode cc pc = .ok (.invokestatic index, 3)) (kk : ∀ (H1 : Heap) (locs1 : List Loc), Ys s dC dI ad bd cI cZ C' D' H1 locs1 → W p l e R s m args below meth c H1 locs1 0 0 Q (F0 m (pc + 3) ls (.long r :: rest))) : W p l e R s m args below meth c H locs 0 0 Q (F0 m pc ls st0) := by
  subst hst
  exact callQ (va_runS (As := As) (rest := rest) ⟨X.1, X.2.1, X.2.2.1, X.2.2.2.1, X.2.2.2.2.1⟩ hM ⟨callB_of (ws := .code y bytes maxL rt :: wk) n X.2.2.2.2.1 (wk_in sw.2.1) rfl hR.1 hR.2.1 (X.2.2.2.2.1 _ sw.2.2.1) (X.2.2.2.2.1 _ sw.1) sw.2.2.2.2 ⟨hR.2.2.1, hR.2.2.2⟩, (X.2.2.2.2.1 _ sw.2.2.2.1)⟩ ⟨wd_blind, wd_pre X Y As⟩ rfl hn hl.1 rfl (lv_room hW) hdg (cellsOk hR)) Y kk
theorem call_vl {y : MethodName} {bytes : ByteArray} {maxL n index : Nat} {rt : Option FieldType} {rm : Room} {r : Int64} {lvl : List (Nat × Value)}  {b : Nat} (As : List Value) (X : Cx p s m args meth c cc own nL ret dC dI ad bd cI cZ) (Y : Ys s dC dI ad bd cI cZ C D H locs) (hM : Ct l dC dI ad bd cI cZ y bytes maxL rt rm (.ref b :: As) C D (some (.long r)) C' D') (sw : SwV own index y bytes maxL rt n) (hrc : ∃ cell : Cell, H[b]? = some cell ∧ cell.vm.isStatics = false ∧ s.vm.findClass y.cls = some cell.cls) (hn : As.length = n) (hR : RmOk rm R maxL) (hl : lv_has ls nL lvl) {st0 : List Value} (hst : st0 = As.reverse ++ .ref b :: rest) (hW : (rest.map fun v => v.category).sum ≤ 8) (hdg : decode cc pc = .ok (.invokevirtual index, 3)) (kk : ∀ (H1 : Heap) (locs1 : List Loc), Ys s dC dI ad bd cI cZ C' D' H1 locs1 → W p l e R s m args below meth c H1 locs1 0 0 Q (F0 m (pc + 3) ls (.long r :: rest))) : W p l e R s m args below meth c H locs 0 0 Q (F0 m pc ls st0) := by
  subst hst
  exact callQ (va_runV (As := As) (rest := rest) ⟨X.1, X.2.1, X.2.2.1, X.2.2.2.1, X.2.2.2.2.1⟩ hM ⟨callB_of (ws := .code y bytes maxL rt :: wk) n X.2.2.2.2.1 (wk_in sw.2.1) rfl hR.1 hR.2.1 (X.2.2.2.2.1 _ sw.2.2.1) (X.2.2.2.2.1 _ sw.1) sw.2.2.2.2.2 ⟨hR.2.2.1, hR.2.2.2⟩, (X.2.2.2.2.1 _ sw.2.2.2.1), (X.2.2.2.2.1 _ sw.2.2.2.2.1)⟩ ⟨wd_blind, hrc, wd_pre X Y (.ref b :: As)⟩ rfl hn hl.1 rfl (lv_room hW) hdg (cellsOk hR)) Y kk
theorem call_sNl {y : MethodName} {bytes : ByteArray} {maxL n index : Nat} {rt : Option FieldType} {rm : Room} {r : Int64} {lvl : List (Nat × Value)} {host : String} (As : List Value) (X : Cx p s m args meth c cc own nL ret dC dI ad bd cI cZ) (Y : Ys s dC dI ad bd cI cZ C D H locs) (hM : Ct l dC dI ad bd cI cZ y bytes maxL rt rm As C D (some (.long r)) C' D') (sw : SwSN own index y bytes maxL rt n host) (hn : As.length = n) (hR : RmOk rm R maxL) (hl : lv_has ls nL lvl) {st0 : List Value} (hst : st0 = As.reverse ++ rest) (hW : (rest.map fun v => v.category).sum ≤ 8) (hdg : decode cc pc = .ok (.invokestatic index, 3)) (kk : ∀ (H1 : Heap) (locs1 : List Loc), Ys s dC dI ad bd cI cZ C' D' H1 locs1 → W p l e R s m args below meth c H1 locs1 0 0 Q (F0 m (pc + 3) ls (.long r :: rest))) : W p l e R s m args below meth c H locs 0 0 Q (F0 m pc ls st0) := by
  subst hst
  exact callQ (va_runSN (As := As) (rest := rest) ⟨X.1, X.2.1, X.2.2.1, X.2.2.2.1, X.2.2.2.2.1⟩ hM ⟨va_cnB (ws := .code y bytes maxL rt :: wk) n X.2.2.2.2.1 (wk_in sw.2.1) rfl hR.1 hR.2.1 (X.2.2.2.2.2.2.2.2.2 _ sw.1) (X.2.2.2.2.1 _ sw.2.2.1) sw.2.2.2.2 ⟨hR.2.2.1, hR.2.2.2⟩, (X.2.2.2.2.1 _ sw.2.2.2.1), trivial⟩ ⟨wd_blind, wd_pre X Y As⟩ rfl hn hl.1 rfl (lv_room hW) hdg (cellsOk hR)) Y kk
theorem call_vNl {y : MethodName} {bytes : ByteArray} {maxL n index : Nat} {rt : Option FieldType} {rm : Room} {r : Int64} {lvl : List (Nat × Value)} {host : String} {b : Nat} (As : List Value) (X : Cx p s m args meth c cc own nL ret dC dI ad bd cI cZ) (Y : Ys s dC dI ad bd cI cZ C D H locs) (hM : Ct l dC dI ad bd cI cZ y bytes maxL rt rm (.ref b :: As) C D (some (.long r)) C' D') (sw : SwVN own index y bytes maxL rt n host) (hrc : ∃ cell : Cell, H[b]? = some cell ∧ cell.vm.isStatics = false ∧ s.vm.findClass y.cls = some cell.cls) (hn : As.length = n) (hR : RmOk rm R maxL) (hl : lv_has ls nL lvl) {st0 : List Value} (hst : st0 = As.reverse ++ .ref b :: rest) (hW : (rest.map fun v => v.category).sum ≤ 8) (hdg : decode cc pc = .ok (.invokevirtual index, 3)) (kk : ∀ (H1 : Heap) (locs1 : List Loc), Ys s dC dI ad bd cI cZ C' D' H1 locs1 → W p l e R s m args below meth c H1 locs1 0 0 Q (F0 m (pc + 3) ls (.long r :: rest))) : W p l e R s m args below meth c H locs 0 0 Q (F0 m pc ls st0) := by
  subst hst
  exact callQ (va_runVN (As := As) (rest := rest) ⟨X.1, X.2.1, X.2.2.1, X.2.2.2.1, X.2.2.2.2.1⟩ hM ⟨va_cnB (ws := .code y bytes maxL rt :: wk) n X.2.2.2.2.1 (wk_in sw.2.1) rfl hR.1 hR.2.1 (X.2.2.2.2.2.2.2.2.2 _ sw.1) (X.2.2.2.2.1 _ sw.2.2.1) sw.2.2.2.2.2 ⟨hR.2.2.1, hR.2.2.2⟩, (X.2.2.2.2.1 _ sw.2.2.2.1), (X.2.2.2.2.1 _ sw.2.2.2.2.1)⟩ ⟨wd_blind, hrc, wd_pre X Y (.ref b :: As)⟩ rfl hn hl.1 rfl (lv_room hW) hdg (cellsOk hR)) Y kk
theorem call_sv {y : MethodName} {bytes : ByteArray} {maxL n index : Nat} {rt : Option FieldType} {rm : Room}  {lvl : List (Nat × Value)}  (As : List Value) (X : Cx p s m args meth c cc own nL ret dC dI ad bd cI cZ) (Y : Ys s dC dI ad bd cI cZ C D H locs) (hM : Ct l dC dI ad bd cI cZ y bytes maxL rt rm As C D (none) C' D') (sw : SwS own index y bytes maxL rt n) (hn : As.length = n) (hR : RmOk rm R maxL) (hl : lv_has ls nL lvl) {st0 : List Value} (hst : st0 = As.reverse ++ rest) (hW : (rest.map fun v => v.category).sum ≤ 8) (hdg : decode cc pc = .ok (.invokestatic index, 3)) (kk : ∀ (H1 : Heap) (locs1 : List Loc), Ys s dC dI ad bd cI cZ C' D' H1 locs1 → W p l e R s m args below meth c H1 locs1 0 0 Q (F0 m (pc + 3) ls (rest))) : W p l e R s m args below meth c H locs 0 0 Q (F0 m pc ls st0) := by
  subst hst
  exact callQ (va_runS (As := As) (rest := rest) ⟨X.1, X.2.1, X.2.2.1, X.2.2.2.1, X.2.2.2.2.1⟩ hM ⟨callB_of (ws := .code y bytes maxL rt :: wk) n X.2.2.2.2.1 (wk_in sw.2.1) rfl hR.1 hR.2.1 (X.2.2.2.2.1 _ sw.2.2.1) (X.2.2.2.2.1 _ sw.1) sw.2.2.2.2 ⟨hR.2.2.1, hR.2.2.2⟩, (X.2.2.2.2.1 _ sw.2.2.2.1)⟩ ⟨wd_blind, wd_pre X Y As⟩ rfl hn hl.1 rfl (lv_room hW) hdg (cellsOk hR)) Y kk
theorem call_vv {y : MethodName} {bytes : ByteArray} {maxL n index : Nat} {rt : Option FieldType} {rm : Room}  {lvl : List (Nat × Value)}  {b : Nat} (As : List Value) (X : Cx p s m args meth c cc own nL ret dC dI ad bd cI cZ) (Y : Ys s dC dI ad bd cI cZ C D H locs) (hM : Ct l dC dI ad bd cI cZ y bytes maxL rt rm (.ref b :: As) C D (none) C' D') (sw : SwV own index y bytes maxL rt n) (hrc : ∃ cell : Cell, H[b]? = some cell ∧ cell.vm.isStatics = false ∧ s.vm.findClass y.cls = some cell.cls) (hn : As.length = n) (hR : RmOk rm R maxL) (hl : lv_has ls nL lvl) {st0 : List Value} (hst : st0 = As.reverse ++ .ref b :: rest) (hW : (rest.map fun v => v.category).sum ≤ 8) (hdg : decode cc pc = .ok (.invokevirtual index, 3)) (kk : ∀ (H1 : Heap) (locs1 : List Loc), Ys s dC dI ad bd cI cZ C' D' H1 locs1 → W p l e R s m args below meth c H1 locs1 0 0 Q (F0 m (pc + 3) ls (rest))) : W p l e R s m args below meth c H locs 0 0 Q (F0 m pc ls st0) := by
  subst hst
  exact callQ (va_runV (As := As) (rest := rest) ⟨X.1, X.2.1, X.2.2.1, X.2.2.2.1, X.2.2.2.2.1⟩ hM ⟨callB_of (ws := .code y bytes maxL rt :: wk) n X.2.2.2.2.1 (wk_in sw.2.1) rfl hR.1 hR.2.1 (X.2.2.2.2.1 _ sw.2.2.1) (X.2.2.2.2.1 _ sw.1) sw.2.2.2.2.2 ⟨hR.2.2.1, hR.2.2.2⟩, (X.2.2.2.2.1 _ sw.2.2.2.1), (X.2.2.2.2.1 _ sw.2.2.2.2.1)⟩ ⟨wd_blind, hrc, wd_pre X Y (.ref b :: As)⟩ rfl hn hl.1 rfl (lv_room hW) hdg (cellsOk hR)) Y kk
theorem call_sNv {y : MethodName} {bytes : ByteArray} {maxL n index : Nat} {rt : Option FieldType} {rm : Room}  {lvl : List (Nat × Value)} {host : String} (As : List Value) (X : Cx p s m args meth c cc own nL ret dC dI ad bd cI cZ) (Y : Ys s dC dI ad bd cI cZ C D H locs) (hM : Ct l dC dI ad bd cI cZ y bytes maxL rt rm As C D (none) C' D') (sw : SwSN own index y bytes maxL rt n host) (hn : As.length = n) (hR : RmOk rm R maxL) (hl : lv_has ls nL lvl) {st0 : List Value} (hst : st0 = As.reverse ++ rest) (hW : (rest.map fun v => v.category).sum ≤ 8) (hdg : decode cc pc = .ok (.invokestatic index, 3)) (kk : ∀ (H1 : Heap) (locs1 : List Loc), Ys s dC dI ad bd cI cZ C' D' H1 locs1 → W p l e R s m args below meth c H1 locs1 0 0 Q (F0 m (pc + 3) ls (rest))) : W p l e R s m args below meth c H locs 0 0 Q (F0 m pc ls st0) := by
  subst hst
  exact callQ (va_runSN (As := As) (rest := rest) ⟨X.1, X.2.1, X.2.2.1, X.2.2.2.1, X.2.2.2.2.1⟩ hM ⟨va_cnB (ws := .code y bytes maxL rt :: wk) n X.2.2.2.2.1 (wk_in sw.2.1) rfl hR.1 hR.2.1 (X.2.2.2.2.2.2.2.2.2 _ sw.1) (X.2.2.2.2.1 _ sw.2.2.1) sw.2.2.2.2 ⟨hR.2.2.1, hR.2.2.2⟩, (X.2.2.2.2.1 _ sw.2.2.2.1), trivial⟩ ⟨wd_blind, wd_pre X Y As⟩ rfl hn hl.1 rfl (lv_room hW) hdg (cellsOk hR)) Y kk
theorem call_vNv {y : MethodName} {bytes : ByteArray} {maxL n index : Nat} {rt : Option FieldType} {rm : Room}  {lvl : List (Nat × Value)} {host : String} {b : Nat} (As : List Value) (X : Cx p s m args meth c cc own nL ret dC dI ad bd cI cZ) (Y : Ys s dC dI ad bd cI cZ C D H locs) (hM : Ct l dC dI ad bd cI cZ y bytes maxL rt rm (.ref b :: As) C D (none) C' D') (sw : SwVN own index y bytes maxL rt n host) (hrc : ∃ cell : Cell, H[b]? = some cell ∧ cell.vm.isStatics = false ∧ s.vm.findClass y.cls = some cell.cls) (hn : As.length = n) (hR : RmOk rm R maxL) (hl : lv_has ls nL lvl) {st0 : List Value} (hst : st0 = As.reverse ++ .ref b :: rest) (hW : (rest.map fun v => v.category).sum ≤ 8) (hdg : decode cc pc = .ok (.invokevirtual index, 3)) (kk : ∀ (H1 : Heap) (locs1 : List Loc), Ys s dC dI ad bd cI cZ C' D' H1 locs1 → W p l e R s m args below meth c H1 locs1 0 0 Q (F0 m (pc + 3) ls (rest))) : W p l e R s m args below meth c H locs 0 0 Q (F0 m pc ls st0) := by
  subst hst
  exact callQ (va_runVN (As := As) (rest := rest) ⟨X.1, X.2.1, X.2.2.1, X.2.2.2.1, X.2.2.2.2.1⟩ hM ⟨va_cnB (ws := .code y bytes maxL rt :: wk) n X.2.2.2.2.1 (wk_in sw.2.1) rfl hR.1 hR.2.1 (X.2.2.2.2.2.2.2.2.2 _ sw.1) (X.2.2.2.2.1 _ sw.2.2.1) sw.2.2.2.2.2 ⟨hR.2.2.1, hR.2.2.2⟩, (X.2.2.2.2.1 _ sw.2.2.2.1), (X.2.2.2.2.1 _ sw.2.2.2.2.1)⟩ ⟨wd_blind, hrc, wd_pre X Y (.ref b :: As)⟩ rfl hn hl.1 rfl (lv_room hW) hdg (cellsOk hR)) Y kk
end base
