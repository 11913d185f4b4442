/-! the memories that the constructors leave -/
def C0m : Mem := fun k => match k with
  | 1 => upd (fun _ => 0) 8 999
  | 22 => upd (upd (upd (fun _ => 0) 8 (-1)) 9 0) 10 (-1)
  | 39 => (upd (upd (upd (upd (upd (upd (upd (upd (upd (fun _ => 0) 0 8) 1 8) 2 8) 3 8) 4 8) 5 8) 6 8) 7 8) 8 8)
  | 44 => (upd (upd (upd (upd (fun _ => 0) 0 (-1)) 1 (-1)) 2 (-1)) 3 (-1))
  | _ => fun _ => 0
def D0m : Mem := fun k => match k with
  | 0 => upd (fun _ => 0) 8 999
  | 23 => (upd (upd (upd (upd (upd (upd (upd (upd (upd (fun _ => 0) 0 8) 1 8) 2 8) 3 8) 4 8) 5 8) 6 8) 7 8) 8 8)
  | _ => fun _ => 0
def adO (h0 : Nat) (q : Nat → Nat) : Nat → Nat := fun k => match k with
  | 0 => h0
  | k + 1 => q (k + 1)
set_option maxRecDepth 100000 in
theorem fin_C (cI cZ : ClassId) (h0 : Nat) (q : Nat → Nat) : fin_X11_init cI cZ h0 q = (List.range 47).map (fun k => (adO h0 q k, cellC (adO h0 q) cI k (C0m k))) := rfl
set_option maxRecDepth 100000 in
theorem fin_D (cI cZ : ClassId) (h0 : Nat) (q : Nat → Nat) : fin_X12_init cI cZ h0 q = (List.range 31).map (fun k => (adO h0 q k, cellM (adO h0 q) cI cZ k (D0m k))) := rfl
theorem fin_wl (cI cZ : ClassId) (h0 h1 : Nat) (q q1 : Nat → Nat) : fin_X11_init cI cZ h0 q ++ fin_X12_init cI cZ h1 q1 = wl (adO h0 q) (adO h1 q1) cI cZ C0m D0m := by rw [fin_C, fin_D]; rfl
theorem ok2_of {ad bd : Nat → Nat} {cI cZ : ClassId} {C D : Mem} {A : Nat → Prop} (h : va_D A (wl ad bd cI cZ C D)) : Ok2 ad bd ∧ ∀ q, AD ad bd q → A q := by
  refine ⟨⟨fun i j hi hj e => ?_, fun i j hi hj e => ?_, fun i j hi hj e => ?_⟩, fun q hq => ?_⟩
  · exact h.1 i j _ _ (wl_c ad bd cI cZ C D hi) (wl_c ad bd cI cZ C D hj) e
  · have := h.1 (47 + i) (47 + j) _ _ (wl_m ad bd cI cZ C D hi) (wl_m ad bd cI cZ C D hj) e
    omega
  · have := h.1 i (47 + j) _ _ (wl_c ad bd cI cZ C D hi) (wl_m ad bd cI cZ C D hj) e
    omega
  · rcases hq with ⟨k, hk, rfl⟩ | ⟨k, hk, rfl⟩
    · exact h.2 k _ (wl_c ad bd cI cZ C D hk)
    · exact h.2 (47 + k) _ (wl_m ad bd cI cZ C D hk)
def R_law : String := "TenCoinsLaw"
def lw_P (b : Addr) (xs : List Int32) (args : Array Value) (s : State) : Prop := args = #[.ref b] ∧ s.IntsAt b xs ∧ xs.length ≤ 3072 ∧ (Jvm.Cond.and given_1 narrow_1).before args s = true
def lw_Q (_ : Array Value) (s : State) (o : Outcome) (t : State) : Prop := o = .returned (some (.int 1)) ∧ Framed s o t [] 78 3498
def lw_Z (below : List Frame) (a : Array Value) (s : State) : State → Prop := fun t => ∃ o, t.status = .running ∧ Ended t below o ∧ lw_Q a s o t
/-- the law's own end, with 1 on the stack, nothing written that was there before, its room as the claim has it -/
theorem lw_ret {p : Program} {l : Launch} {e : Env} {s : State} {m : MethodId} {below : List Frame} {meth : Method} {c : Code} {b : Nat} (hx : p.tables.exec = Jvm.exec) (hb : c.code = code) (hr : meth.sig.returnType = ret) (hlocks : meth.locks = false) {pc : Nat} {H : Heap} {ls : Array Slot} (hdg : decode code pc = .ok (.ireturn, 1)) : W p l e room_1 s m #[Value.ref b] below meth c H [] 78 3498 (lw_Z below #[Value.ref b] s) (F0 m pc ls [.int 1]) := by
  intro T hT X
  obtain ⟨fs, hret, hrun, hended, hW, hframe⟩ := X.leave (v := some (.int 1)) (hlocks := hlocks) (fun h => by rw [hr] at h; cases h)
  have hmeth' : T.vm.method? m = some meth := X.method'
  refine ⟨T.setFrames fs, ?_, .returned (some (.int 1)), hrun, hended, rfl, ⟨_, rfl⟩, hW, hframe⟩
  jvm_step X.here [X.here.top, hx, hb, hdg, hmeth', hr, ret, narrow_b1]
  (try refine ⟨rfl, ?_⟩); (try refine ⟨rfl, ?_⟩)
  first | (intro acts; rw [hret _ acts rfl rfl rfl]) | rw [hret _ _ rfl rfl rfl]
  exact Steps.refl _
/-- what holds at the law's entry: the machine, the code, the tables' words (any of lw_tbl by 'hts w (by decide +kernel)'), the script of L ints xs at the cell b, what the Statement gives of the start (any of its parts by flat_of_before) -/
def lw_At (p : Program) (s : State) (m : MethodId) (meth : Method) (c : Code) (b L : Nat) (xs : Nat → Int32) : Prop :=
  p.tables.exec = Jvm.exec ∧ c.code = code ∧ meth.sig.returnType = ret ∧ c.maxLocals = 4 ∧ s.vm.findClass R_law = some m.cls ∧ (∀ w ∈ lw_tbl, w.before #[Value.ref b] s = true) ∧ va_X b L xs s s.heap ∧ b < s.heap.size ∧ meth.locks = false ∧ (Jvm.Cond.and given_1 narrow_1).before #[Value.ref b] s = true
