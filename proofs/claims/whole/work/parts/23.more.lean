section walk
variable {p : Program} {l : Launch} {e : Env} {R : Room} {s : State} {m : MethodId} {args : Array Value} {below : List Frame} {meth : Method} {c : Code} {H : Heap} {locs : List Loc} {Q : State → Prop} {cc : ByteArray} {own : String} {nL : Nat} {ret : Option FieldType} {dC : Nat → ClassId} {dI : Nat → Nat → Nat} {ad bd : Nat → Nat} {cI cZ : ClassId} {C D C' D' : Mem} {pc : Nat} {ls : Array Slot} {rest : List Value}
abbrev rm_X1_clear : Room := { frames := 1, cells := 0, slots := 0, locals := 23 }
set_option maxHeartbeats 4000000 in
set_option maxRecDepth 100000 in
theorem c_X1_clear {C9 : Mem} (h : f_X1_clear C = some C9) : Ct l dC dI ad bd cI cZ yX1_clear cX1_clear 1 (none) rm_X1_clear [.ref (ad 30)] C D (none) C9 D := by
  unfold f_X1_clear at h
  refine Ct.intro (own := RX1) (by decide) rfl (Nat.le_of_ble_eq_true rfl) ?_
  intro p e s m args below meth c H locs ls X Y hl
  have hx := X.1
  have hb := X.2.1
  have hl : lv_has ls 1 [(0, .ref (ad 30))] := hl
  refine lv_aload_n (pc := 0) hx hb dX1_clear_0 rfl (lv_at hl 0 rfl) ?_
  refine gf_X1_11 (pc := 1) X Y dX1_clear_1 ?_
  refine lv_iconst (pc := 4) (v := 0) hx hb dX1_clear_4 (by decide) ?_
  obtain ⟨C_5, e_5, h⟩ := bnd_s h
  refine call_sv (pc := 5) (rest := []) [.ref (ad 31), .int 0] X Y (c_J7_fill_53178 31 568 0 (ca_31 ad cI) e_5) sw_X1_15 rfl ⟨rfl, rfl, Nat.le_of_ble_eq_true rfl, Nat.le_of_ble_eq_true rfl⟩ hl rfl (Nat.le_of_ble_eq_true rfl) dX1_clear_5 (fun H locs Y => ?_)
  refine lv_aload_n (pc := 8) hx hb dX1_clear_8 rfl (lv_at hl 0 rfl) ?_
  refine gf_X1_11 (pc := 9) X Y dX1_clear_9 ?_
  refine lv_iconst (pc := 12) (v := 0) hx hb dX1_clear_12 (by decide) ?_
  refine lv_iconst (pc := 13) (v := 1) hx hb dX1_clear_13 (by decide) ?_
  obtain ⟨g_14, h⟩ := gd_s h
  obtain ⟨C_14, hC_14, h⟩ := sto_s h
  refine r_iastc (pc := 14) X Y (ca_31 ad cI) g_14 hC_14 dX1_clear_14 (fun H locs Y => ?_)
  refine lv_aload_n (pc := 15) hx hb dX1_clear_15 rfl (lv_at hl 0 rfl) ?_
  refine lv_iconst (pc := 16) (v := 0) hx hb dX1_clear_16 (by decide) ?_
  obtain ⟨C_17, hC_17, h⟩ := sto_s h
  refine pf_X1_21 (pc := 17) X Y hC_17 dX1_clear_17 (fun H locs Y => ?_)
  refine lv_aload_n (pc := 20) hx hb dX1_clear_20 rfl (lv_at hl 0 rfl) ?_
  refine lv_iconst (pc := 21) (v := 0) hx hb dX1_clear_21 (by decide) ?_
  obtain ⟨C_22, hC_22, h⟩ := sto_s h
  refine pf_X1_25 (pc := 22) X Y hC_22 dX1_clear_22 (fun H locs Y => ?_)
  have hm9 := ret_v h
  exact fin_v (pc := 25) X rfl Y hm9 rfl dX1_clear_25
abbrev rm_X1_poolOne : Room := { frames := 0, cells := 0, slots := 0, locals := 0 }
set_option maxHeartbeats 4000000 in
set_option maxRecDepth 100000 in
theorem WL_X1_poolOne_9 {C9 : Mem} (v1 : Int32) (v2 : Int32) (X : Cx p s m args meth c cX1_poolOne RX1 4 (none) dC dI ad bd cI cZ) {kx : Mem → Option Mem} (hkx : ∀ (C' : Mem) (H : Heap) (locs : List Loc) (ls : Array Slot), Ys s dC dI ad bd cI cZ C' D H locs → lv_has ls 4 [(0, .ref (ad 30)), (1, .int v1), (2, .int v2)] → kx C' = some C9 → W p l e rm_X1_poolOne s m args below meth c H locs 0 0 (MQ below (QC (none) dC dI ad bd cI cZ C9 D) args s 0 0 (AD ad bd)) (F0 m 50 ls [])) : ∀ (n_ : Nat) (v3 : Int32) (C : Mem) (H : Heap) (locs : List Loc) (ls : Array Slot), Ys s dC dI ad bd cI cZ C D H locs → lv_has ls 4 [(0, .ref (ad 30)), (1, .int v1), (2, .int v2), (3, .int v3)] → L_X1_poolOne_9 v1 v2 kx n_ v3 C = some C9 → W p l e rm_X1_poolOne s m args below meth c H locs 0 0 (MQ below (QC (none) dC dI ad bd cI cZ C9 D) args s 0 0 (AD ad bd)) (F0 m 9 ls []) := by
  have hx := X.1
  have hb := X.2.1
  intro n_
  induction n_ with
  | zero =>
    intro v3 C H locs ls Y hl h
    cases h
  | succ n_ ih =>
    intro v3 C H locs ls Y hl h
    unfold L_X1_poolOne_9 at h
    refine lv_iload_n (pc := 9) hx hb dX1_poolOne_9 rfl (lv_at hl 3 rfl) ?_
    refine lv_bipush (pc := 10) (v := 71) hx hb dX1_poolOne_10 (by decide) ?_
    refine lv_icmp_ge (pc := 12) (tgt := 50) hx hb dX1_poolOne_12 (by decide) (fun c_12 => ?_) (fun c_12 => ?_)
    · have h := itp c_12 h
      exact hkx C H locs ls Y (lv_sub hl [0, 1, 2] rfl) h
    · have h := itn c_12 h
      refine lv_aload_n (pc := 15) hx hb dX1_poolOne_15 rfl (lv_at hl 0 rfl) ?_
      refine gf_X1_11 (pc := 16) X Y dX1_poolOne_16 ?_
      refine lv_iload_n (pc := 19) hx hb dX1_poolOne_19 rfl (lv_at hl 2 rfl) ?_
      refine lv_bipush (pc := 20) (v := 71) hx hb dX1_poolOne_20 (by decide) ?_
      refine lv_imul (pc := 22) hx hb dX1_poolOne_22 ?_
      refine lv_iload_n (pc := 23) hx hb dX1_poolOne_23 rfl (lv_at hl 3 rfl) ?_
      refine lv_iadd (pc := 24) hx hb dX1_poolOne_24 ?_
      refine lv_dup2_11 (pc := 25) hx hb dX1_poolOne_25 rfl rfl ?_
      obtain ⟨g_26, h⟩ := gd_s h
      refine r_ialdc (pc := 26) X Y (ca_31 ad cI) g_26 dX1_poolOne_26 ?_
      refine lv_aload_n (pc := 27) hx hb dX1_poolOne_27 rfl (lv_at hl 0 rfl) ?_
      refine gf_X1_11 (pc := 28) X Y dX1_poolOne_28 ?_
      refine lv_iload_n (pc := 31) hx hb dX1_poolOne_31 rfl (lv_at hl 2 rfl) ?_
      refine lv_iconst (pc := 32) (v := 1) hx hb dX1_poolOne_32 (by decide) ?_
      refine lv_isub (pc := 33) hx hb dX1_poolOne_33 ?_
      refine lv_bipush (pc := 34) (v := 71) hx hb dX1_poolOne_34 (by decide) ?_
      refine lv_imul (pc := 36) hx hb dX1_poolOne_36 ?_
      refine lv_iload_n (pc := 37) hx hb dX1_poolOne_37 rfl (lv_at hl 3 rfl) ?_
      refine lv_iadd (pc := 38) hx hb dX1_poolOne_38 ?_
      refine lv_iload_n (pc := 39) hx hb dX1_poolOne_39 rfl (lv_at hl 1 rfl) ?_
      refine lv_isub (pc := 40) hx hb dX1_poolOne_40 ?_
      obtain ⟨g_41, h⟩ := gd_s h
      refine r_ialdc (pc := 41) X Y (ca_31 ad cI) g_41 dX1_poolOne_41 ?_
      refine lv_iadd (pc := 42) hx hb dX1_poolOne_42 ?_
      obtain ⟨g_43, h⟩ := gd_s h
      obtain ⟨C_43, hC_43, h⟩ := sto_s h
      refine r_iastc (pc := 43) X Y (ca_31 ad cI) g_43 hC_43 dX1_poolOne_43 (fun H locs Y => ?_)
      obtain ⟨v3_44, ev3_44, h⟩ := lt_s_ h
      refine lv_iinc (pc := 44) (v := v3_44) (lv' := [(3, .int v3_44), (0, .ref (ad 30)), (1, .int v1), (2, .int v2)]) hx hb dX1_poolOne_44 hl (k := 3) rfl (by rw [ev3_44]; rfl) (by decide) rfl (fun ls hl => ?_)
      refine lv_goto (pc := 47) (tgt := 9) hx hb dX1_poolOne_47 (by decide) ?_
      exact ih v3_44 C_43 H locs ls Y (lv_sub hl [1, 2, 3, 0] rfl) h
set_option maxHeartbeats 4000000 in
set_option maxRecDepth 100000 in
theorem WL_X1_poolOne_3 {C9 : Mem} (v1 : Int32) (X : Cx p s m args meth c cX1_poolOne RX1 4 (none) dC dI ad bd cI cZ) {kx : Mem → Option Mem} (hkx : ∀ (C' : Mem) (H : Heap) (locs : List Loc) (ls : Array Slot), Ys s dC dI ad bd cI cZ C' D H locs → lv_has ls 4 [(0, .ref (ad 30)), (1, .int v1)] → kx C' = some C9 → W p l e rm_X1_poolOne s m args below meth c H locs 0 0 (MQ below (QC (none) dC dI ad bd cI cZ C9 D) args s 0 0 (AD ad bd)) (F0 m 56 ls [])) : ∀ (n_ : Nat) (v2 : Int32) (C : Mem) (H : Heap) (locs : List Loc) (ls : Array Slot), Ys s dC dI ad bd cI cZ C D H locs → lv_has ls 4 [(0, .ref (ad 30)), (1, .int v1), (2, .int v2)] → L_X1_poolOne_3 v1 kx n_ v2 C = some C9 → W p l e rm_X1_poolOne s m args below meth c H locs 0 0 (MQ below (QC (none) dC dI ad bd cI cZ C9 D) args s 0 0 (AD ad bd)) (F0 m 3 ls []) := by
  have hx := X.1
  have hb := X.2.1
  intro n_
  induction n_ with
  | zero =>
    intro v2 C H locs ls Y hl h
    cases h
  | succ n_ ih =>
    intro v2 C H locs ls Y hl h
    unfold L_X1_poolOne_3 at h
    refine lv_iload_n (pc := 3) hx hb dX1_poolOne_3 rfl (lv_at hl 2 rfl) ?_
    refine lv_if_le (pc := 4) (tgt := 56) hx hb dX1_poolOne_4 (by decide) (fun c_4 => ?_) (fun c_4 => ?_)
    · have h := itp c_4 h
      exact hkx C H locs ls Y (lv_sub hl [0, 1] rfl) h
    · have h := itn c_4 h
      refine lv_iload_n (pc := 7) hx hb dX1_poolOne_7 rfl (lv_at hl 1 rfl) ?_
      refine lv_istore_n (pc := 8) (lv' := [(3, .int v1), (0, .ref (ad 30)), (1, .int v1), (2, .int v2)]) hx hb dX1_poolOne_8 rfl hl (by decide) rfl (fun ls hl => ?_)
      refine WL_X1_poolOne_9 v1 v2 X (fun C_50 H locs ls Y hl h => ?_) FU v1 C H locs ls Y (lv_sub hl [1, 2, 3, 0] rfl) h
      obtain ⟨v2_50, ev2_50, h⟩ := lt_s_ h
      refine lv_iinc (pc := 50) (v := v2_50) (lv' := [(2, .int v2_50), (0, .ref (ad 30)), (1, .int v1)]) hx hb dX1_poolOne_50 hl (k := 2) rfl (by rw [ev2_50]; rfl) (by decide) rfl (fun ls hl => ?_)
      refine lv_goto (pc := 53) (tgt := 3) hx hb dX1_poolOne_53 (by decide) ?_
      exact ih v2_50 C_50 H locs ls Y (lv_sub hl [1, 2, 0] rfl) h
set_option maxHeartbeats 4000000 in
set_option maxRecDepth 100000 in
theorem c_X1_poolOne {C9 : Mem} (v1 : Int32) (h : f_X1_poolOne v1 C = some C9) : Ct l dC dI ad bd cI cZ yX1_poolOne cX1_poolOne 4 (none) rm_X1_poolOne [.ref (ad 30), .int v1] C D (none) C9 D := by
  unfold f_X1_poolOne at h
  refine Ct.intro (own := RX1) (by decide) rfl (Nat.le_of_ble_eq_true rfl) ?_
  intro p e s m args below meth c H locs ls X Y hl
  have hx := X.1
  have hb := X.2.1
  have hl : lv_has ls 4 [(0, .ref (ad 30)), (1, .int v1)] := hl
  refine lv_bipush (pc := 0) (v := 7) hx hb dX1_poolOne_0 (by decide) ?_
  refine lv_istore_n (pc := 2) (lv' := [(2, .int 7), (0, .ref (ad 30)), (1, .int v1)]) hx hb dX1_poolOne_2 rfl hl (by decide) rfl (fun ls hl => ?_)
  refine WL_X1_poolOne_3 v1 X (fun C_56 H locs ls Y hl h => ?_) FU 7 C H locs ls Y (lv_sub hl [1, 2, 0] rfl) h
  refine lv_aload_n (pc := 56) hx hb dX1_poolOne_56 rfl (lv_at hl 0 rfl) ?_
  refine lv_dup (pc := 57) hx hb dX1_poolOne_57 rfl ?_
  refine gf_X1_21 (pc := 58) X Y dX1_poolOne_58 ?_
  refine lv_iconst (pc := 61) (v := 1) hx hb dX1_poolOne_61 (by decide) ?_
  refine lv_iadd (pc := 62) hx hb dX1_poolOne_62 ?_
  obtain ⟨C_63, hC_63, h⟩ := sto_s h
  refine pf_X1_21 (pc := 63) X Y hC_63 dX1_poolOne_63 (fun H locs Y => ?_)
  refine lv_aload_n (pc := 66) hx hb dX1_poolOne_66 rfl (lv_at hl 0 rfl) ?_
  refine lv_dup (pc := 67) hx hb dX1_poolOne_67 rfl ?_
  refine gf_X1_25 (pc := 68) X Y dX1_poolOne_68 ?_
  refine lv_iload_n (pc := 71) hx hb dX1_poolOne_71 rfl (lv_at hl 1 rfl) ?_
  refine lv_iadd (pc := 72) hx hb dX1_poolOne_72 ?_
  obtain ⟨C_73, hC_73, h⟩ := sto_s h
  refine pf_X1_25 (pc := 73) X Y hC_73 dX1_poolOne_73 (fun H locs Y => ?_)
  have hm9 := ret_v h
  exact fin_v (pc := 76) X rfl Y hm9 rfl dX1_poolOne_76
abbrev rm_X1_pool : Room := { frames := 1, cells := 0, slots := 0, locals := 23 }
set_option maxHeartbeats 4000000 in
set_option maxRecDepth 100000 in
theorem WL_X1_pool_10 {C9 : Mem} {t : Nat} (ht : tl t) (v2 : Int32) (X : Cx p s m args meth c cX1_pool RX1 4 (none) dC dI ad bd cI cZ) {kx : Mem → Option Mem} (hkx : ∀ (C' : Mem) (H : Heap) (locs : List Loc) (ls : Array Slot), Ys s dC dI ad bd cI cZ C' D H locs → lv_has ls 4 [(0, .ref (ad 30)), (1, .ref (ad t)), (2, .int v2)] → kx C' = some C9 → W p l e rm_X1_pool s m args below meth c H locs 0 0 (MQ below (QC (none) dC dI ad bd cI cZ C9 D) args s 0 0 (AD ad bd)) (F0 m 31 ls [])) : ∀ (n_ : Nat) (v3 : Int32) (C : Mem) (H : Heap) (locs : List Loc) (ls : Array Slot), Ys s dC dI ad bd cI cZ C D H locs → lv_has ls 4 [(0, .ref (ad 30)), (1, .ref (ad t)), (2, .int v2), (3, .int v3)] → L_X1_pool_10 t v2 kx n_ v3 C = some C9 → W p l e rm_X1_pool s m args below meth c H locs 0 0 (MQ below (QC (none) dC dI ad bd cI cZ C9 D) args s 0 0 (AD ad bd)) (F0 m 10 ls []) := by
  have hx := X.1
  have hb := X.2.1
  intro n_
  induction n_ with
  | zero =>
    intro v3 C H locs ls Y hl h
    cases h
  | succ n_ ih =>
    intro v3 C H locs ls Y hl h
    unfold L_X1_pool_10 at h
    refine lv_iload_n (pc := 10) hx hb dX1_pool_10 rfl (lv_at hl 3 rfl) ?_
    refine lv_aload_n (pc := 11) hx hb dX1_pool_11 rfl (lv_at hl 1 rfl) ?_
    refine gf_X1_28 (pc := 12) X Y ht dX1_pool_12 ?_
    refine lv_iload_n (pc := 15) hx hb dX1_pool_15 rfl (lv_at hl 2 rfl) ?_
    obtain ⟨g_16, h⟩ := gd_s h
    refine r_ialdc (pc := 16) X Y (tl_a1 ht ad cI) g_16 dX1_pool_16 ?_
    refine lv_icmp_ge (pc := 17) (tgt := 31) hx hb dX1_pool_17 (by decide) (fun c_17 => ?_) (fun c_17 => ?_)
    · have h := itp c_17 h
      exact hkx C H locs ls Y (lv_sub hl [0, 1, 2] rfl) h
    · have h := itn c_17 h
      refine lv_aload_n (pc := 20) hx hb dX1_pool_20 rfl (lv_at hl 0 rfl) ?_
      refine lv_iload_n (pc := 21) hx hb dX1_pool_21 rfl (lv_at hl 2 rfl) ?_
      obtain ⟨C_22, e_22, h⟩ := bnd_s h
      refine call_vv (pc := 22) (rest := []) [.int v2] X Y (c_X1_poolOne v2 e_22) sw_X1_33 (rv_X1 X Y) rfl ⟨rfl, rfl, Nat.le_of_ble_eq_true rfl, Nat.le_of_ble_eq_true rfl⟩ hl rfl (Nat.le_of_ble_eq_true rfl) dX1_pool_22 (fun H locs Y => ?_)
      obtain ⟨v3_25, ev3_25, h⟩ := lt_s_ h
      refine lv_iinc (pc := 25) (v := v3_25) (lv' := [(3, .int v3_25), (0, .ref (ad 30)), (1, .ref (ad t)), (2, .int v2)]) hx hb dX1_pool_25 hl (k := 3) rfl (by rw [ev3_25]; rfl) (by decide) rfl (fun ls hl => ?_)
      refine lv_goto (pc := 28) (tgt := 10) hx hb dX1_pool_28 (by decide) ?_
      exact ih v3_25 C_22 H locs ls Y (lv_sub hl [1, 2, 3, 0] rfl) h
set_option maxHeartbeats 4000000 in
set_option maxRecDepth 100000 in
theorem WL_X1_pool_2 {C9 : Mem} {t : Nat} (ht : tl t) (X : Cx p s m args meth c cX1_pool RX1 4 (none) dC dI ad bd cI cZ) {kx : Mem → Option Mem} (hkx : ∀ (C' : Mem) (H : Heap) (locs : List Loc) (ls : Array Slot), Ys s dC dI ad bd cI cZ C' D H locs → lv_has ls 4 [] → kx C' = some C9 → W p l e rm_X1_pool s m args below meth c H locs 0 0 (MQ below (QC (none) dC dI ad bd cI cZ C9 D) args s 0 0 (AD ad bd)) (F0 m 37 ls [])) : ∀ (n_ : Nat) (v2 : Int32) (C : Mem) (H : Heap) (locs : List Loc) (ls : Array Slot), Ys s dC dI ad bd cI cZ C D H locs → lv_has ls 4 [(0, .ref (ad 30)), (1, .ref (ad t)), (2, .int v2)] → L_X1_pool_2 t kx n_ v2 C = some C9 → W p l e rm_X1_pool s m args below meth c H locs 0 0 (MQ below (QC (none) dC dI ad bd cI cZ C9 D) args s 0 0 (AD ad bd)) (F0 m 2 ls []) := by
  have hx := X.1
  have hb := X.2.1
  intro n_
  induction n_ with
  | zero =>
    intro v2 C H locs ls Y hl h
    cases h
  | succ n_ ih =>
    intro v2 C H locs ls Y hl h
    unfold L_X1_pool_2 at h
    refine lv_iload_n (pc := 2) hx hb dX1_pool_2 rfl (lv_at hl 2 rfl) ?_
    refine lv_bipush (pc := 3) (v := 11) hx hb dX1_pool_3 (by decide) ?_
    refine lv_icmp_ge (pc := 5) (tgt := 37) hx hb dX1_pool_5 (by decide) (fun c_5 => ?_) (fun c_5 => ?_)
    · have h := itp c_5 h
      exact hkx C H locs ls Y (lv_sub hl [] rfl) h
    · have h := itn c_5 h
      refine lv_iconst (pc := 8) (v := 0) hx hb dX1_pool_8 (by decide) ?_
      refine lv_istore_n (pc := 9) (lv' := [(3, .int 0), (0, .ref (ad 30)), (1, .ref (ad t)), (2, .int v2)]) hx hb dX1_pool_9 rfl hl (by decide) rfl (fun ls hl => ?_)
      refine WL_X1_pool_10 ht v2 X (fun C_31 H locs ls Y hl h => ?_) FU 0 C H locs ls Y (lv_sub hl [1, 2, 3, 0] rfl) h
      obtain ⟨v2_31, ev2_31, h⟩ := lt_s_ h
      refine lv_iinc (pc := 31) (v := v2_31) (lv' := [(2, .int v2_31), (0, .ref (ad 30)), (1, .ref (ad t))]) hx hb dX1_pool_31 hl (k := 2) rfl (by rw [ev2_31]; rfl) (by decide) rfl (fun ls hl => ?_)
      refine lv_goto (pc := 34) (tgt := 2) hx hb dX1_pool_34 (by decide) ?_
      exact ih v2_31 C_31 H locs ls Y (lv_sub hl [1, 2, 0] rfl) h
set_option maxHeartbeats 4000000 in
set_option maxRecDepth 100000 in
theorem c_X1_pool {C9 : Mem} (t : Nat) (ht : tl t) (h : f_X1_pool t C = some C9) : Ct l dC dI ad bd cI cZ yX1_pool cX1_pool 4 (none) rm_X1_pool [.ref (ad 30), .ref (ad t)] C D (none) C9 D := by
  unfold f_X1_pool at h
  refine Ct.intro (own := RX1) (by decide) rfl (Nat.le_of_ble_eq_true rfl) ?_
  intro p e s m args below meth c H locs ls X Y hl
  have hx := X.1
  have hb := X.2.1
  have hl : lv_has ls 4 [(0, .ref (ad 30)), (1, .ref (ad t))] := hl
  refine lv_iconst (pc := 0) (v := 0) hx hb dX1_pool_0 (by decide) ?_
  refine lv_istore_n (pc := 1) (lv' := [(2, .int 0), (0, .ref (ad 30)), (1, .ref (ad t))]) hx hb dX1_pool_1 rfl hl (by decide) rfl (fun ls hl => ?_)
  refine WL_X1_pool_2 ht X (fun C_37 H locs ls Y hl h => ?_) FU 0 C H locs ls Y (lv_sub hl [1, 2, 0] rfl) h
  have hm9 := ret_v h
  exact fin_v (pc := 37) X rfl Y hm9 rfl dX1_pool_37
abbrev rm_X1_apart : Room := { frames := 1, cells := 0, slots := 0, locals := 21 }
set_option maxHeartbeats 4000000 in
set_option maxRecDepth 100000 in
theorem c_X1_apart (v1 : Int32) (v2 : Int32) : Ct l dC dI ad bd cI cZ yX1_apart cX1_apart 3 (some .int) rm_X1_apart [.ref (ad 30), .int v1, .int v2] C D (some (.int (f_X1_apart v1 v2 C))) C D := by
  obtain ⟨r9, h⟩ : ∃ r9, f_X1_apart v1 v2 C = r9 := ⟨_, rfl⟩
  rw [h]
  unfold f_X1_apart at h
  refine Ct.intro (own := RX1) (by decide) rfl (Nat.le_of_ble_eq_true rfl) ?_
  intro p e s m args below meth c H locs ls X Y hl
  have hx := X.1
  have hb := X.2.1
  have hl : lv_has ls 3 [(0, .ref (ad 30)), (1, .int v1), (2, .int v2)] := hl
  refine lv_iload_n (pc := 0) hx hb dX1_apart_0 rfl (lv_at hl 2 rfl) ?_
  refine lv_aload_n (pc := 1) hx hb dX1_apart_1 rfl (lv_at hl 0 rfl) ?_
  refine gf_X1_21 (pc := 2) X Y dX1_apart_2 ?_
  refine lv_imul (pc := 5) hx hb dX1_apart_5 ?_
  refine lv_aload_n (pc := 6) hx hb dX1_apart_6 rfl (lv_at hl 0 rfl) ?_
  refine gf_X1_25 (pc := 7) X Y dX1_apart_7 ?_
  refine lv_iload_n (pc := 10) hx hb dX1_apart_10 rfl (lv_at hl 1 rfl) ?_
  refine lv_imul (pc := 11) hx hb dX1_apart_11 ?_
  refine lv_isub (pc := 12) hx hb dX1_apart_12 ?_
  refine r_mabs (pc := 13) X w_X1_50 hl (Nat.le_of_ble_eq_true rfl) (Nat.le_of_ble_eq_true rfl) dX1_apart_13 ?_
  have hr9 := h
  exact fin_i (pc := 16) X rfl Y hr9 rfl rfl dX1_apart_16
abbrev rm_X1_asFarApart : Room := { frames := 2, cells := 0, slots := 0, locals := 43 }
set_option maxHeartbeats 4000000 in
set_option maxRecDepth 100000 in
theorem WB_X1_asFarApart_83 {r9 : Int32} {t : Nat} (ht : tl t) (x0 : Int32) (x1 : Int32) (v2 : Int32) (v3 : Int32) (v5 : Int32) (C : Mem) (X : Cx p s m args meth c cX1_asFarApart RX1 7 (some .int) dC dI ad bd cI cZ) {kb : Int32 → Int32 → Int32 → Option Int32} (hkb : ∀ (v3' : Int32) (v4' : Int32) (v5' : Int32) (H : Heap) (locs : List Loc) (ls : Array Slot), Ys s dC dI ad bd cI cZ C D H locs → lv_has ls 7 [(0, .ref (ad 30)), (1, .ref (ad t)), (2, .int v2), (3, .int v3'), (4, .int v4'), (5, .int v5')] → kb v3' v4' v5' = some r9 → W p l e rm_X1_asFarApart s m args below meth c H locs 0 0 (MQ below (QC (some (.int r9)) dC dI ad bd cI cZ C D) args s 0 0 (AD ad bd)) (F0 m 32 ls [])) {H : Heap} {locs : List Loc} {ls : Array Slot} (Y : Ys s dC dI ad bd cI cZ C D H locs) (hl : lv_has ls 7 [(0, .ref (ad 30)), (1, .ref (ad t)), (2, .int v2), (3, .int v3), (5, .int v5)]) (h : B_X1_asFarApart_83 x0 x1 v3 v5 kb = some r9) : W p l e rm_X1_asFarApart s m args below meth c H locs 0 0 (MQ below (QC (some (.int r9)) dC dI ad bd cI cZ C D) args s 0 0 (AD ad bd)) (F0 m 83 ls [.int x1, .int x0]) := by
  have hx := X.1
  have hb := X.2.1
  unfold B_X1_asFarApart_83 at h
  refine lv_iadd (pc := 83) hx hb dX1_asFarApart_83 ?_
  obtain ⟨v4_84, ev4_84, h⟩ := lt_s_ h
  refine top_i ev4_84 ?_
  refine lv_istore (pc := 84) (lv' := [(4, .int v4_84), (0, .ref (ad 30)), (1, .ref (ad t)), (2, .int v2), (3, .int v3), (5, .int v5)]) hx hb dX1_asFarApart_84 hl (by decide) rfl (fun ls hl => ?_)
  obtain ⟨v5_86, ev5_86, h⟩ := lt_s_ h
  refine lv_iinc (pc := 86) (v := v5_86) (lv' := [(5, .int v5_86), (4, .int v4_84), (0, .ref (ad 30)), (1, .ref (ad t)), (2, .int v2), (3, .int v3)]) hx hb dX1_asFarApart_86 hl (k := 5) rfl (by rw [ev5_86]; rfl) (by decide) rfl (fun ls hl => ?_)
  refine lv_goto (pc := 89) (tgt := 32) hx hb dX1_asFarApart_89 (by decide) ?_
  exact hkb v3 v4_84 v5_86 H locs ls Y (lv_sub hl [2, 3, 4, 5, 1, 0] rfl) h
set_option maxHeartbeats 4000000 in
set_option maxRecDepth 100000 in
theorem WL_X1_asFarApart_32 {r9 : Int32} {t : Nat} (ht : tl t) (v2 : Int32) (C : Mem) (X : Cx p s m args meth c cX1_asFarApart RX1 7 (some .int) dC dI ad bd cI cZ) {kx : Int32 → Int32 → Option Int32} (hkx : ∀ (v3' : Int32) (v4' : Int32) (H : Heap) (locs : List Loc) (ls : Array Slot), Ys s dC dI ad bd cI cZ C D H locs → lv_has ls 7 [(3, .int v3'), (4, .int v4')] → kx v3' v4' = some r9 → W p l e rm_X1_asFarApart s m args below meth c H locs 0 0 (MQ below (QC (some (.int r9)) dC dI ad bd cI cZ C D) args s 0 0 (AD ad bd)) (F0 m 92 ls [])) : ∀ (n_ : Nat) (v3 : Int32) (v4 : Int32) (v5 : Int32) (H : Heap) (locs : List Loc) (ls : Array Slot), Ys s dC dI ad bd cI cZ C D H locs → lv_has ls 7 [(0, .ref (ad 30)), (1, .ref (ad t)), (2, .int v2), (3, .int v3), (4, .int v4), (5, .int v5)] → L_X1_asFarApart_32 t v2 C kx n_ v3 v4 v5 = some r9 → W p l e rm_X1_asFarApart s m args below meth c H locs 0 0 (MQ below (QC (some (.int r9)) dC dI ad bd cI cZ C D) args s 0 0 (AD ad bd)) (F0 m 32 ls []) := by
  have hx := X.1
  have hb := X.2.1
  intro n_
  induction n_ with
  | zero =>
    intro v3 v4 v5 H locs ls Y hl h
    cases h
  | succ n_ ih =>
    intro v3 v4 v5 H locs ls Y hl h
    unfold L_X1_asFarApart_32 at h
    refine lv_iload (pc := 32) hx hb dX1_asFarApart_32 (lv_at hl 5 rfl) ?_
    refine lv_bipush (pc := 34) (v := 71) hx hb dX1_asFarApart_34 (by decide) ?_
    refine lv_icmp_ge (pc := 36) (tgt := 92) hx hb dX1_asFarApart_36 (by decide) (fun c_36 => ?_) (fun c_36 => ?_)
    · have h := itp c_36 h
      exact hkx v3 v4 H locs ls Y (lv_sub hl [3, 4] rfl) h
    · have h := itn c_36 h
      refine lv_aload_n (pc := 39) hx hb dX1_asFarApart_39 rfl (lv_at hl 0 rfl) ?_
      refine gf_X1_11 (pc := 40) X Y dX1_asFarApart_40 ?_
      refine lv_aload_n (pc := 43) hx hb dX1_asFarApart_43 rfl (lv_at hl 1 rfl) ?_
      refine gf_X1_37 (pc := 44) X Y ht dX1_asFarApart_44 ?_
      refine lv_bipush (pc := 47) (v := 71) hx hb dX1_asFarApart_47 (by decide) ?_
      refine lv_imul (pc := 49) hx hb dX1_asFarApart_49 ?_
      refine lv_iload (pc := 50) hx hb dX1_asFarApart_50 (lv_at hl 5 rfl) ?_
      refine lv_iadd (pc := 52) hx hb dX1_asFarApart_52 ?_
      obtain ⟨g_53, h⟩ := gd_s h
      refine r_ialdc (pc := 53) X Y (ca_31 ad cI) g_53 dX1_asFarApart_53 ?_
      obtain ⟨v6_54, ev6_54, h⟩ := lt_s_ h
      refine top_i ev6_54 ?_
      refine lv_istore (pc := 54) (lv' := [(6, .int v6_54), (0, .ref (ad 30)), (1, .ref (ad t)), (2, .int v2), (3, .int v3), (4, .int v4), (5, .int v5)]) hx hb dX1_asFarApart_54 hl (by decide) rfl (fun ls hl => ?_)
      refine lv_iload_n (pc := 56) hx hb dX1_asFarApart_56 rfl (lv_at hl 4 rfl) ?_
      refine lv_iload (pc := 57) hx hb dX1_asFarApart_57 (lv_at hl 0 rfl) ?_
      refine lv_iadd (pc := 59) hx hb dX1_asFarApart_59 ?_
      obtain ⟨v3_60, ev3_60, h⟩ := lt_s_ h
      refine top_i ev3_60 ?_
      refine lv_istore_n (pc := 60) (lv' := [(3, .int v3_60), (6, .int v6_54), (0, .ref (ad 30)), (1, .ref (ad t)), (2, .int v2), (4, .int v4), (5, .int v5)]) hx hb dX1_asFarApart_60 rfl hl (by decide) rfl (fun ls hl => ?_)
      refine lv_iload (pc := 61) hx hb dX1_asFarApart_61 (lv_at hl 5 rfl) ?_
      refine lv_aload_n (pc := 63) hx hb dX1_asFarApart_63 rfl (lv_at hl 2 rfl) ?_
      refine lv_aload_n (pc := 64) hx hb dX1_asFarApart_64 rfl (lv_at hl 3 rfl) ?_
      refine gf_X1_37 (pc := 65) X Y ht dX1_asFarApart_65 ?_
      refine lv_iload (pc := 68) hx hb dX1_asFarApart_68 (lv_at hl 6 rfl) ?_
      refine call_vi (pc := 70) (rest := [.int v4]) [.int (C t 2), .int v5] X Y (c_X1_apart (C t 2) v5) sw_X1_43 (rv_X1 X Y) rfl ⟨rfl, rfl, Nat.le_of_ble_eq_true rfl, Nat.le_of_ble_eq_true rfl⟩ hl rfl (Nat.le_of_ble_eq_true rfl) dX1_asFarApart_70 (fun H locs Y => ?_)
      refine lv_iload_n (pc := 73) hx hb dX1_asFarApart_73 rfl (lv_at hl 4 rfl) ?_
      refine lv_icmp_lt (pc := 74) (tgt := 82) hx hb dX1_asFarApart_74 (by decide) (fun c_74 => ?_) (fun c_74 => ?_)
      · have h := itp c_74 h
        refine lv_iconst (pc := 82) (v := 0) hx hb dX1_asFarApart_82 (by decide) ?_
        exact WB_X1_asFarApart_83 ht v4 0 v2 v3_60 v5 C X (kb := (L_X1_asFarApart_32 t v2 C kx n_)) ih Y (lv_sub hl [2, 3, 4, 0, 6] rfl) h
      · have h := itn c_74 h
        refine lv_iload (pc := 77) hx hb dX1_asFarApart_77 (lv_at hl 1 rfl) ?_
        refine lv_goto (pc := 79) (tgt := 83) hx hb dX1_asFarApart_79 (by decide) ?_
        exact WB_X1_asFarApart_83 ht v4 v6_54 v2 v3_60 v5 C X (kb := (L_X1_asFarApart_32 t v2 C kx n_)) ih Y (lv_sub hl [2, 3, 4, 0, 6] rfl) h
set_option maxHeartbeats 4000000 in
set_option maxRecDepth 100000 in
theorem c_X1_asFarApart {r9 : Int32} (t : Nat) (ht : tl t) (h : f_X1_asFarApart t C = some r9) : Ct l dC dI ad bd cI cZ yX1_asFarApart cX1_asFarApart 7 (some .int) rm_X1_asFarApart [.ref (ad 30), .ref (ad t)] C D (some (.int r9)) C D := by
  unfold f_X1_asFarApart at h
  refine Ct.intro (own := RX1) (by decide) rfl (Nat.le_of_ble_eq_true rfl) ?_
  intro p e s m args below meth c H locs ls X Y hl
  have hx := X.1
  have hb := X.2.1
  have hl : lv_has ls 7 [(0, .ref (ad 30)), (1, .ref (ad t))] := hl
  refine lv_aload_n (pc := 0) hx hb dX1_asFarApart_0 rfl (lv_at hl 1 rfl) ?_
  refine gf_X1_37 (pc := 1) X Y ht dX1_asFarApart_1 ?_
  refine lv_bipush (pc := 4) (v := 7) hx hb dX1_asFarApart_4 (by decide) ?_
  refine lv_icmp_le (pc := 6) (tgt := 11) hx hb dX1_asFarApart_6 (by decide) (fun c_6 => ?_) (fun c_6 => ?_)
  · have h := itp c_6 h
    refine lv_aload_n (pc := 11) hx hb dX1_asFarApart_11 rfl (lv_at hl 0 rfl) ?_
    refine lv_aload_n (pc := 12) hx hb dX1_asFarApart_12 rfl (lv_at hl 1 rfl) ?_
    refine gf_X1_37 (pc := 13) X Y ht dX1_asFarApart_13 ?_
    refine lv_aload_n (pc := 16) hx hb dX1_asFarApart_16 rfl (lv_at hl 1 rfl) ?_
    refine gf_X1_40 (pc := 17) X Y ht dX1_asFarApart_17 ?_
    refine call_vi (pc := 20) (rest := []) [.int (C t 2), .int (C t 4)] X Y (c_X1_apart (C t 2) (C t 4)) sw_X1_43 (rv_X1 X Y) rfl ⟨rfl, rfl, Nat.le_of_ble_eq_true rfl, Nat.le_of_ble_eq_true rfl⟩ hl rfl (Nat.le_of_ble_eq_true rfl) dX1_asFarApart_20 (fun H locs Y => ?_)
    obtain ⟨v2_23, ev2_23, h⟩ := lt_s_ h
    refine top_i ev2_23 ?_
    refine lv_istore_n (pc := 23) (lv' := [(2, .int v2_23), (0, .ref (ad 30)), (1, .ref (ad t))]) hx hb dX1_asFarApart_23 rfl hl (by decide) rfl (fun ls hl => ?_)
    refine lv_iconst (pc := 24) (v := 0) hx hb dX1_asFarApart_24 (by decide) ?_
    refine lv_istore_n (pc := 25) (lv' := [(3, .int 0), (2, .int v2_23), (0, .ref (ad 30)), (1, .ref (ad t))]) hx hb dX1_asFarApart_25 rfl hl (by decide) rfl (fun ls hl => ?_)
    refine lv_iconst (pc := 26) (v := 0) hx hb dX1_asFarApart_26 (by decide) ?_
    refine lv_istore (pc := 27) (lv' := [(4, .int 0), (3, .int 0), (2, .int v2_23), (0, .ref (ad 30)), (1, .ref (ad t))]) hx hb dX1_asFarApart_27 hl (by decide) rfl (fun ls hl => ?_)
    refine lv_iconst (pc := 29) (v := 0) hx hb dX1_asFarApart_29 (by decide) ?_
    refine lv_istore (pc := 30) (lv' := [(5, .int 0), (4, .int 0), (3, .int 0), (2, .int v2_23), (0, .ref (ad 30)), (1, .ref (ad t))]) hx hb dX1_asFarApart_30 hl (by decide) rfl (fun ls hl => ?_)
    refine WL_X1_asFarApart_32 ht v2_23 C X (fun v3_92 v4_92 H locs ls Y hl h => ?_) FU 0 0 0 H locs ls Y (lv_sub hl [4, 5, 3, 2, 1, 0] rfl) h
    refine lv_iload (pc := 92) hx hb dX1_asFarApart_92 (lv_at hl 1 rfl) ?_
    refine lv_iload_n (pc := 94) hx hb dX1_asFarApart_94 rfl (lv_at hl 0 rfl) ?_
    obtain ⟨r_95, e_95, h⟩ := bnd_s h
    refine call_sNi (pc := 95) (rest := []) [.int v4_92, .int v3_92] X Y (c_X11_millionths v4_92 v3_92 e_95) sw_X1_47 rfl ⟨rfl, rfl, Nat.le_of_ble_eq_true rfl, Nat.le_of_ble_eq_true rfl⟩ hl rfl (Nat.le_of_ble_eq_true rfl) dX1_asFarApart_95 (fun H locs Y => ?_)
    have hr9 := ret_p h
    exact fin_i (pc := 98) X rfl Y hr9 rfl rfl dX1_asFarApart_98
  · have h := itn c_6 h
    refine lv_iconst (pc := 9) (v := 0) hx hb dX1_asFarApart_9 (by decide) ?_
    have hr9 := ret_p h
    exact fin_i (pc := 10) X rfl Y hr9 rfl rfl dX1_asFarApart_10
abbrev rm_X2_playerOf : Room := { frames := 0, cells := 0, slots := 0, locals := 0 }
set_option maxHeartbeats 4000000 in
set_option maxRecDepth 100000 in
theorem c_X2_playerOf (v0 : Int32) : Ct l dC dI ad bd cI cZ yX2_playerOf cX2_playerOf 1 (some .int) rm_X2_playerOf [.int v0] C D (some (.int (f_X2_playerOf v0))) C D := by
  obtain ⟨r9, h⟩ : ∃ r9, f_X2_playerOf v0 = r9 := ⟨_, rfl⟩
  rw [h]
  unfold f_X2_playerOf at h
  refine Ct.intro (own := RX2) (by decide) rfl (Nat.le_of_ble_eq_true rfl) ?_
  intro p e s m args below meth c H locs ls X Y hl
  have hx := X.1
  have hb := X.2.1
  have hl : lv_has ls 1 [(0, .int v0)] := hl
  refine lv_iload_n (pc := 0) hx hb dX2_playerOf_0 rfl (lv_at hl 0 rfl) ?_
  by_cases c_1_0 : v0 = 97
  · have h := itp c_1_0 h
    refine lv_lookup (pc := 1) (tgt := 38) hx hb dX2_playerOf_1 (by decide) (by first | (rw [c_1_0]; done) | (rw [c_1_0]; rfl)) (by decide) ?_
    refine lv_iconst (pc := 38) (v := 1) hx hb dX2_playerOf_38 (by decide) ?_
    have hr9 := h
    exact fin_i (pc := 39) X rfl Y hr9 rfl rfl dX2_playerOf_39
  have h := itn c_1_0 h
  by_cases c_1_1 : v0 = 103
  · have h := itp c_1_1 h
    refine lv_lookup (pc := 1) (tgt := 36) hx hb dX2_playerOf_1 (by decide) (by first | (rw [c_1_1]; done) | (rw [c_1_1]; rfl)) (by decide) ?_
    refine lv_iconst (pc := 36) (v := 0) hx hb dX2_playerOf_36 (by decide) ?_
    have hr9 := h
    exact fin_i (pc := 37) X rfl Y hr9 rfl rfl dX2_playerOf_37
  have h := itn c_1_1 h
  by_cases c_1_2 : v0 = 116
  · have h := itp c_1_2 h
    refine lv_lookup (pc := 1) (tgt := 40) hx hb dX2_playerOf_1 (by decide) (by first | (rw [c_1_2]; done) | (rw [c_1_2]; rfl)) (by decide) ?_
    refine lv_iconst (pc := 40) (v := 2) hx hb dX2_playerOf_40 (by decide) ?_
    have hr9 := h
    exact fin_i (pc := 41) X rfl Y hr9 rfl rfl dX2_playerOf_41
  have h := itn c_1_2 h
  refine lv_lookup (pc := 1) (tgt := 42) (off := 41) hx hb dX2_playerOf_1 (by decide) (by show Op.lookupswitch.offset [(97, 37), (103, 35), (116, 39)] 41 (v0).toInt = 41; rw [lv_osw (a := 97) c_1_0 (by decide), lv_osw (a := 103) c_1_1 (by decide), lv_osw (a := 116) c_1_2 (by decide)]; rfl) (by decide) ?_
  refine lv_iconst (pc := 42) (v := (-1)) hx hb dX2_playerOf_42 (by decide) ?_
  have hr9 := h
  exact fin_i (pc := 43) X rfl Y hr9 rfl rfl dX2_playerOf_43
abbrev rm_X2_isFigure : Room := { frames := 0, cells := 0, slots := 0, locals := 0 }
set_option maxHeartbeats 4000000 in
set_option maxRecDepth 100000 in
theorem c_X2_isFigure (v0 : Int32) : Ct l dC dI ad bd cI cZ yX2_isFigure cX2_isFigure 1 (some .boolean) rm_X2_isFigure [.int v0] C D (some (.int (b2i (f_X2_isFigure v0)))) C D := by
  obtain ⟨r9, h⟩ : ∃ r9, f_X2_isFigure v0 = r9 := ⟨_, rfl⟩
  rw [h]
  unfold f_X2_isFigure at h
  refine Ct.intro (own := RX2) (by decide) rfl (Nat.le_of_ble_eq_true rfl) ?_
  intro p e s m args below meth c H locs ls X Y hl
  have hx := X.1
  have hb := X.2.1
  have hl : lv_has ls 1 [(0, .int v0)] := hl
  refine lv_iload_n (pc := 0) hx hb dX2_isFigure_0 rfl (lv_at hl 0 rfl) ?_
  refine lv_bipush (pc := 1) (v := 48) hx hb dX2_isFigure_1 (by decide) ?_
  refine lv_icmp_lt (pc := 3) (tgt := 16) hx hb dX2_isFigure_3 (by decide) (fun c_3 => ?_) (fun c_3 => ?_)
  · have h := itp c_3 h
    refine lv_iconst (pc := 16) (v := 0) hx hb dX2_isFigure_16 (by decide) ?_
    have hr9 := h
    exact fin_z (b := false) (pc := 17) X rfl Y rfl hr9 rfl rfl dX2_isFigure_17
  · have h := itn c_3 h
    refine lv_iload_n (pc := 6) hx hb dX2_isFigure_6 rfl (lv_at hl 0 rfl) ?_
    refine lv_bipush (pc := 7) (v := 57) hx hb dX2_isFigure_7 (by decide) ?_
    refine lv_icmp_gt (pc := 9) (tgt := 16) hx hb dX2_isFigure_9 (by decide) (fun c_9 => ?_) (fun c_9 => ?_)
    · have h := itp c_9 h
      refine lv_iconst (pc := 16) (v := 0) hx hb dX2_isFigure_16 (by decide) ?_
      have hr9 := h
      exact fin_z (b := false) (pc := 17) X rfl Y rfl hr9 rfl rfl dX2_isFigure_17
    · have h := itn c_9 h
      refine lv_iconst (pc := 12) (v := 1) hx hb dX2_isFigure_12 (by decide) ?_
      refine lv_goto (pc := 13) (tgt := 17) hx hb dX2_isFigure_13 (by decide) ?_
      have hr9 := h
      exact fin_z (b := true) (pc := 17) X rfl Y rfl hr9 rfl rfl dX2_isFigure_17
abbrev rm_X2_startNode : Room := { frames := 0, cells := 0, slots := 0, locals := 0 }
set_option maxHeartbeats 4000000 in
set_option maxRecDepth 100000 in
theorem WB_X2_startNode_72 {C9 : Mem} (C : Mem) (X : Cx p s m args meth c cX2_startNode RX2 2 (none) dC dI ad bd cI cZ) {H : Heap} {locs : List Loc} {ls : Array Slot} (Y : Ys s dC dI ad bd cI cZ C D H locs) (hl : lv_has ls 2 [(0, .ref (ad 22))]) (h : B_X2_startNode_72 C = some C9) : W p l e rm_X2_startNode s m args below meth c H locs 0 0 (MQ below (QC (none) dC dI ad bd cI cZ C9 D) args s 0 0 (AD ad bd)) (F0 m 72 ls []) := by
  have hx := X.1
  have hb := X.2.1
  unfold B_X2_startNode_72 at h
  refine lv_aload_n (pc := 72) hx hb dX2_startNode_72 rfl (lv_at hl 0 rfl) ?_
  refine lv_dup (pc := 73) hx hb dX2_startNode_73 rfl ?_
  refine gf_X2_50 (pc := 74) X Y dX2_startNode_74 ?_
  refine lv_iconst (pc := 77) (v := 1) hx hb dX2_startNode_77 (by decide) ?_
  refine lv_iadd (pc := 78) hx hb dX2_startNode_78 ?_
  obtain ⟨C_79, hC_79, h⟩ := sto_s h
  refine pf_X2_50 (pc := 79) X Y hC_79 dX2_startNode_79 (fun H locs Y => ?_)
  have hm9 := ret_v h
  exact fin_v (pc := 82) X rfl Y hm9 rfl dX2_startNode_82
set_option maxHeartbeats 4000000 in
set_option maxRecDepth 100000 in
theorem c_X2_startNode {C9 : Mem} (v1 : Int32) (h : f_X2_startNode v1 C = some C9) : Ct l dC dI ad bd cI cZ yX2_startNode cX2_startNode 2 (none) rm_X2_startNode [.ref (ad 22), .int v1] C D (none) C9 D := by
  unfold f_X2_startNode at h
  refine Ct.intro (own := RX2) (by decide) rfl (Nat.le_of_ble_eq_true rfl) ?_
  intro p e s m args below meth c H locs ls X Y hl
  have hx := X.1
  have hb := X.2.1
  have hl : lv_has ls 2 [(0, .ref (ad 22)), (1, .int v1)] := hl
  refine lv_aload_n (pc := 0) hx hb dX2_startNode_0 rfl (lv_at hl 0 rfl) ?_
  refine gf_X2_11 (pc := 1) X Y dX2_startNode_1 ?_
  refine lv_aload_n (pc := 4) hx hb dX2_startNode_4 rfl (lv_at hl 0 rfl) ?_
  refine gf_X2_50 (pc := 5) X Y dX2_startNode_5 ?_
  refine lv_iload_n (pc := 8) hx hb dX2_startNode_8 rfl (lv_at hl 1 rfl) ?_
  obtain ⟨g_9, h⟩ := gd_s h
  obtain ⟨C_9, hC_9, h⟩ := sto_s h
  refine r_iastc (pc := 9) X Y (ca_23 ad cI) g_9 hC_9 dX2_startNode_9 (fun H locs Y => ?_)
  refine lv_aload_n (pc := 10) hx hb dX2_startNode_10 rfl (lv_at hl 0 rfl) ?_
  refine gf_X2_15 (pc := 11) X Y dX2_startNode_11 ?_
  refine lv_aload_n (pc := 14) hx hb dX2_startNode_14 rfl (lv_at hl 0 rfl) ?_
  refine gf_X2_50 (pc := 15) X Y dX2_startNode_15 ?_
  refine lv_aload_n (pc := 18) hx hb dX2_startNode_18 rfl (lv_at hl 0 rfl) ?_
  refine gf_X2_40 (pc := 19) X Y dX2_startNode_19 ?_
  obtain ⟨g_22, h⟩ := gd_s h
  obtain ⟨C_22, hC_22, h⟩ := sto_s h
  refine r_iastc (pc := 22) X Y (ca_24 ad cI) g_22 hC_22 dX2_startNode_22 (fun H locs Y => ?_)
  refine lv_aload_n (pc := 23) hx hb dX2_startNode_23 rfl (lv_at hl 0 rfl) ?_
  refine gf_X2_21 (pc := 24) X Y dX2_startNode_24 ?_
  refine lv_aload_n (pc := 27) hx hb dX2_startNode_27 rfl (lv_at hl 0 rfl) ?_
  refine gf_X2_50 (pc := 28) X Y dX2_startNode_28 ?_
  refine lv_iconst (pc := 31) (v := 0) hx hb dX2_startNode_31 (by decide) ?_
  obtain ⟨g_32, h⟩ := gd_s h
  obtain ⟨C_32, hC_32, h⟩ := sto_s h
  refine r_iastc (pc := 32) X Y (ca_26 ad cI) g_32 hC_32 dX2_startNode_32 (fun H locs Y => ?_)
  refine lv_aload_n (pc := 33) hx hb dX2_startNode_33 rfl (lv_at hl 0 rfl) ?_
  refine gf_X2_40 (pc := 34) X Y dX2_startNode_34 ?_
  refine lv_iconst (pc := 37) (v := (-1)) hx hb dX2_startNode_37 (by decide) ?_
  refine lv_icmp_eq (pc := 38) (tgt := 72) hx hb dX2_startNode_38 (by decide) (fun c_38 => ?_) (fun c_38 => ?_)
  · have h := itp c_38 h
    exact WB_X2_startNode_72  C_32 X Y (lv_sub hl [0] rfl) h
  · have h := itn c_38 h
    refine lv_aload_n (pc := 41) hx hb dX2_startNode_41 rfl (lv_at hl 0 rfl) ?_
    refine gf_X2_18 (pc := 42) X Y dX2_startNode_42 ?_
    refine lv_aload_n (pc := 45) hx hb dX2_startNode_45 rfl (lv_at hl 0 rfl) ?_
    refine gf_X2_50 (pc := 46) X Y dX2_startNode_46 ?_
    refine lv_aload_n (pc := 49) hx hb dX2_startNode_49 rfl (lv_at hl 0 rfl) ?_
    refine gf_X2_21 (pc := 50) X Y dX2_startNode_50 ?_
    refine lv_aload_n (pc := 53) hx hb dX2_startNode_53 rfl (lv_at hl 0 rfl) ?_
    refine gf_X2_40 (pc := 54) X Y dX2_startNode_54 ?_
    obtain ⟨g_57, h⟩ := gd_s h
    refine r_ialdc (pc := 57) X Y (ca_26 ad cI) g_57 dX2_startNode_57 ?_
    obtain ⟨g_58, h⟩ := gd_s h
    obtain ⟨C_58, hC_58, h⟩ := sto_s h
    refine r_iastc (pc := 58) X Y (ca_25 ad cI) g_58 hC_58 dX2_startNode_58 (fun H locs Y => ?_)
    refine lv_aload_n (pc := 59) hx hb dX2_startNode_59 rfl (lv_at hl 0 rfl) ?_
    refine gf_X2_21 (pc := 60) X Y dX2_startNode_60 ?_
    refine lv_aload_n (pc := 63) hx hb dX2_startNode_63 rfl (lv_at hl 0 rfl) ?_
    refine gf_X2_40 (pc := 64) X Y dX2_startNode_64 ?_
    refine lv_dup2_11 (pc := 67) hx hb dX2_startNode_67 rfl rfl ?_
    obtain ⟨g_68, h⟩ := gd_s h
    refine r_ialdc (pc := 68) X Y (ca_26 ad cI) g_68 dX2_startNode_68 ?_
    refine lv_iconst (pc := 69) (v := 1) hx hb dX2_startNode_69 (by decide) ?_
    refine lv_iadd (pc := 70) hx hb dX2_startNode_70 ?_
    obtain ⟨g_71, h⟩ := gd_s h
    obtain ⟨C_71, hC_71, h⟩ := sto_s h
    refine r_iastc (pc := 71) X Y (ca_26 ad cI) g_71 hC_71 dX2_startNode_71 (fun H locs Y => ?_)
    exact WB_X2_startNode_72  C_71 X Y (lv_sub hl [0] rfl) h
abbrev rm_X2_isNextFigure : Room := { frames := 1, cells := 0, slots := 0, locals := 20 }
set_option maxHeartbeats 4000000 in
set_option maxRecDepth 100000 in
theorem c_X2_isNextFigure {r9 : Bool} {C9 : Mem} (v1 : Int32) (v2 : Int32) (v3 : Int32) (h : f_X2_isNextFigure v1 v2 v3 C = some (r9, C9)) : Ct l dC dI ad bd cI cZ yX2_isNextFigure cX2_isNextFigure 4 (some .boolean) rm_X2_isNextFigure [.ref (ad 22), .int v1, .int v2, .int v3] C D (some (.int (b2i r9))) C9 D := by
  unfold f_X2_isNextFigure at h
  refine Ct.intro (own := RX2) (by decide) rfl (Nat.le_of_ble_eq_true rfl) ?_
  intro p e s m args below meth c H locs ls X Y hl
  have hx := X.1
  have hb := X.2.1
  have hl : lv_has ls 4 [(0, .ref (ad 22)), (1, .int v1), (2, .int v2), (3, .int v3)] := hl
  refine lv_iload_n (pc := 0) hx hb dX2_isNextFigure_0 rfl (lv_at hl 1 rfl) ?_
  refine call_si (pc := 1) (rest := []) [.int v1] X Y (c_X2_isFigure v1) sw_X2_73 rfl ⟨rfl, rfl, Nat.le_of_ble_eq_true rfl, Nat.le_of_ble_eq_true rfl⟩ hl rfl (Nat.le_of_ble_eq_true rfl) dX2_isNextFigure_1 (fun H locs Y => ?_)
  refine lv_if_ne (pc := 4) (tgt := 9) hx hb dX2_isNextFigure_4 (by decide) (fun c_4 => ?_) (fun c_4 => ?_)
  · have h := itp (b2i_t c_4) h
    refine lv_aload_n (pc := 9) hx hb dX2_isNextFigure_9 rfl (lv_at hl 0 rfl) ?_
    refine gf_X2_24 (pc := 10) X Y dX2_isNextFigure_10 ?_
    refine lv_aload_n (pc := 13) hx hb dX2_isNextFigure_13 rfl (lv_at hl 0 rfl) ?_
    refine gf_X2_50 (pc := 14) X Y dX2_isNextFigure_14 ?_
    refine lv_iconst (pc := 17) (v := 1) hx hb dX2_isNextFigure_17 (by decide) ?_
    refine lv_isub (pc := 18) hx hb dX2_isNextFigure_18 ?_
    refine lv_iconst (pc := 19) (v := 3) hx hb dX2_isNextFigure_19 (by decide) ?_
    refine lv_imul (pc := 20) hx hb dX2_isNextFigure_20 ?_
    refine lv_iload_n (pc := 21) hx hb dX2_isNextFigure_21 rfl (lv_at hl 2 rfl) ?_
    refine lv_iadd (pc := 22) hx hb dX2_isNextFigure_22 ?_
    refine lv_iload_n (pc := 23) hx hb dX2_isNextFigure_23 rfl (lv_at hl 1 rfl) ?_
    refine lv_bipush (pc := 24) (v := 48) hx hb dX2_isNextFigure_24 (by decide) ?_
    refine lv_isub (pc := 26) hx hb dX2_isNextFigure_26 ?_
    obtain ⟨g_27, h⟩ := gd_s h
    obtain ⟨C_27, hC_27, h⟩ := sto_s h
    refine r_iastc (pc := 27) X Y (ca_27 ad cI) g_27 hC_27 dX2_isNextFigure_27 (fun H locs Y => ?_)
    refine lv_aload_n (pc := 28) hx hb dX2_isNextFigure_28 rfl (lv_at hl 0 rfl) ?_
    refine lv_iload_n (pc := 29) hx hb dX2_isNextFigure_29 rfl (lv_at hl 3 rfl) ?_
    obtain ⟨C_30, hC_30, h⟩ := sto_s h
    refine pf_X2_37 (pc := 30) X Y hC_30 dX2_isNextFigure_30 (fun H locs Y => ?_)
    refine lv_iconst (pc := 33) (v := 1) hx hb dX2_isNextFigure_33 (by decide) ?_
    obtain ⟨hr9, hm9⟩ := ret_e h
    exact fin_z (b := true) (pc := 34) X rfl Y rfl hr9 hm9 rfl dX2_isNextFigure_34
  · have h := itn (b2i_f c_4) h
    refine lv_iconst (pc := 7) (v := 0) hx hb dX2_isNextFigure_7 (by decide) ?_
    obtain ⟨hr9, hm9⟩ := ret_e h
    exact fin_z (b := false) (pc := 8) X rfl Y rfl hr9 hm9 rfl dX2_isNextFigure_8
abbrev rm_X2_beginsNode : Room := { frames := 2, cells := 0, slots := 0, locals := 43 }
set_option maxHeartbeats 4000000 in
set_option maxRecDepth 100000 in
theorem WB_X2_beginsNode_19 {r9 : Bool} {C9 : Mem} (v1 : Int32) (v2 : Int32) (C : Mem) (X : Cx p s m args meth c cX2_beginsNode RX2 3 (some .boolean) dC dI ad bd cI cZ) {H : Heap} {locs : List Loc} {ls : Array Slot} (Y : Ys s dC dI ad bd cI cZ C D H locs) (hl : lv_has ls 3 [(0, .ref (ad 22)), (1, .int v1), (2, .int v2)]) (h : B_X2_beginsNode_19 v1 v2 C = some (r9, C9)) : W p l e rm_X2_beginsNode s m args below meth c H locs 0 0 (MQ below (QC (some (.int (b2i r9))) dC dI ad bd cI cZ C9 D) args s 0 0 (AD ad bd)) (F0 m 19 ls []) := by
  have hx := X.1
  have hb := X.2.1
  unfold B_X2_beginsNode_19 at h
  refine lv_aload_n (pc := 19) hx hb dX2_beginsNode_19 rfl (lv_at hl 0 rfl) ?_
  refine lv_iload_n (pc := 20) hx hb dX2_beginsNode_20 rfl (lv_at hl 2 rfl) ?_
  obtain ⟨C_21, e_21, h⟩ := bnd_s h
  refine call_vv (pc := 21) (rest := []) [.int v2] X Y (c_X2_startNode v2 e_21) sw_X2_76 (rv_X2 X Y) rfl ⟨rfl, rfl, Nat.le_of_ble_eq_true rfl, Nat.le_of_ble_eq_true rfl⟩ hl rfl (Nat.le_of_ble_eq_true rfl) dX2_beginsNode_21 (fun H locs Y => ?_)
  refine lv_iload_n (pc := 24) hx hb dX2_beginsNode_24 rfl (lv_at hl 2 rfl) ?_
  refine lv_iconst (pc := 25) (v := (-1)) hx hb dX2_beginsNode_25 (by decide) ?_
  refine lv_icmp_ne (pc := 26) (tgt := 47) hx hb dX2_beginsNode_26 (by decide) (fun c_26 => ?_) (fun c_26 => ?_)
  · have h := itn c_26 h
    refine lv_aload_n (pc := 47) hx hb dX2_beginsNode_47 rfl (lv_at hl 0 rfl) ?_
    refine lv_iconst (pc := 48) (v := 1) hx hb dX2_beginsNode_48 (by decide) ?_
    obtain ⟨C_49, hC_49, h⟩ := sto_s h
    refine pf_X2_37 (pc := 49) X Y hC_49 dX2_beginsNode_49 (fun H locs Y => ?_)
    refine lv_iconst (pc := 52) (v := 1) hx hb dX2_beginsNode_52 (by decide) ?_
    obtain ⟨hr9, hm9⟩ := ret_e h
    exact fin_z (b := true) (pc := 53) X rfl Y rfl hr9 hm9 rfl dX2_beginsNode_53
  · have h := itp c_26 h
    refine lv_aload_n (pc := 29) hx hb dX2_beginsNode_29 rfl (lv_at hl 0 rfl) ?_
    refine lv_dup (pc := 30) hx hb dX2_beginsNode_30 rfl ?_
    refine gf_X2_53 (pc := 31) X Y dX2_beginsNode_31 ?_
    refine lv_iconst (pc := 34) (v := 1) hx hb dX2_beginsNode_34 (by decide) ?_
    refine lv_iadd (pc := 35) hx hb dX2_beginsNode_35 ?_
    obtain ⟨C_36, hC_36, h⟩ := sto_s h
    refine pf_X2_53 (pc := 36) X Y hC_36 dX2_beginsNode_36 (fun H locs Y => ?_)
    refine lv_aload_n (pc := 39) hx hb dX2_beginsNode_39 rfl (lv_at hl 0 rfl) ?_
    refine lv_iload_n (pc := 40) hx hb dX2_beginsNode_40 rfl (lv_at hl 1 rfl) ?_
    refine lv_iconst (pc := 41) (v := 0) hx hb dX2_beginsNode_41 (by decide) ?_
    refine lv_iconst (pc := 42) (v := 2) hx hb dX2_beginsNode_42 (by decide) ?_
    obtain ⟨r_43, C_43, e_43, h⟩ := bnd2_s h
    refine call_vi (pc := 43) (rest := []) [.int v1, .int 0, .int 2] X Y (c_X2_isNextFigure v1 0 2 e_43) sw_X2_62 (rv_X2 X Y) rfl ⟨rfl, rfl, Nat.le_of_ble_eq_true rfl, Nat.le_of_ble_eq_true rfl⟩ hl rfl (Nat.le_of_ble_eq_true rfl) dX2_beginsNode_43 (fun H locs Y => ?_)
    obtain ⟨hr9, hm9⟩ := ret_e h
    exact fin_z (b := r_43) (pc := 46) X rfl Y rfl hr9 hm9 rfl dX2_beginsNode_46
set_option maxHeartbeats 4000000 in
set_option maxRecDepth 100000 in
theorem c_X2_beginsNode {r9 : Bool} {C9 : Mem} (v1 : Int32) (h : f_X2_beginsNode v1 C = some (r9, C9)) : Ct l dC dI ad bd cI cZ yX2_beginsNode cX2_beginsNode 3 (some .boolean) rm_X2_beginsNode [.ref (ad 22), .int v1] C D (some (.int (b2i r9))) C9 D := by
  unfold f_X2_beginsNode at h
  refine Ct.intro (own := RX2) (by decide) rfl (Nat.le_of_ble_eq_true rfl) ?_
  intro p e s m args below meth c H locs ls X Y hl
  have hx := X.1
  have hb := X.2.1
  have hl : lv_has ls 3 [(0, .ref (ad 22)), (1, .int v1)] := hl
  refine lv_iload_n (pc := 0) hx hb dX2_beginsNode_0 rfl (lv_at hl 1 rfl) ?_
  refine call_si (pc := 1) (rest := []) [.int v1] X Y (c_X2_playerOf v1) sw_X2_69 rfl ⟨rfl, rfl, Nat.le_of_ble_eq_true rfl, Nat.le_of_ble_eq_true rfl⟩ hl rfl (Nat.le_of_ble_eq_true rfl) dX2_beginsNode_1 (fun H locs Y => ?_)
  obtain ⟨v2_4, ev2_4, h⟩ := lt_s_ h
  refine top_i ev2_4 ?_
  refine lv_istore_n (pc := 4) (lv' := [(2, .int v2_4), (0, .ref (ad 22)), (1, .int v1)]) hx hb dX2_beginsNode_4 rfl hl (by decide) rfl (fun ls hl => ?_)
  refine lv_iload_n (pc := 5) hx hb dX2_beginsNode_5 rfl (lv_at hl 0 rfl) ?_
  refine lv_iconst (pc := 6) (v := (-1)) hx hb dX2_beginsNode_6 (by decide) ?_
  refine lv_icmp_ne (pc := 7) (tgt := 19) hx hb dX2_beginsNode_7 (by decide) (fun c_7 => ?_) (fun c_7 => ?_)
  · have h := itn c_7 h
    exact WB_X2_beginsNode_19 v1 v2_4 C X Y (lv_sub hl [1, 2, 0] rfl) h
  · have h := itp c_7 h
    refine lv_iload_n (pc := 10) hx hb dX2_beginsNode_10 rfl (lv_at hl 2 rfl) ?_
    refine call_si (pc := 11) (rest := []) [.int v1] X Y (c_X2_isFigure v1) sw_X2_73 rfl ⟨rfl, rfl, Nat.le_of_ble_eq_true rfl, Nat.le_of_ble_eq_true rfl⟩ hl rfl (Nat.le_of_ble_eq_true rfl) dX2_beginsNode_11 (fun H locs Y => ?_)
    refine lv_if_ne (pc := 14) (tgt := 19) hx hb dX2_beginsNode_14 (by decide) (fun c_14 => ?_) (fun c_14 => ?_)
    · have h := itp (b2i_t c_14) h
      exact WB_X2_beginsNode_19 v1 v2_4 C X Y (lv_sub hl [1, 2, 0] rfl) h
    · have h := itn (b2i_f c_14) h
      refine lv_iconst (pc := 17) (v := 0) hx hb dX2_beginsNode_17 (by decide) ?_
      obtain ⟨hr9, hm9⟩ := ret_e h
      exact fin_z (b := false) (pc := 18) X rfl Y rfl hr9 hm9 rfl dX2_beginsNode_18
abbrev rm_X2_opens : Room := { frames := 0, cells := 0, slots := 0, locals := 0 }
set_option maxHeartbeats 4000000 in
set_option maxRecDepth 100000 in
theorem c_X2_opens {r9 : Bool} {C9 : Mem} (v1 : Int32) (h : f_X2_opens v1 C = some (r9, C9)) : Ct l dC dI ad bd cI cZ yX2_opens cX2_opens 2 (some .boolean) rm_X2_opens [.ref (ad 22), .int v1] C D (some (.int (b2i r9))) C9 D := by
  unfold f_X2_opens at h
  refine Ct.intro (own := RX2) (by decide) rfl (Nat.le_of_ble_eq_true rfl) ?_
  intro p e s m args below meth c H locs ls X Y hl
  have hx := X.1
  have hb := X.2.1
  have hl : lv_has ls 2 [(0, .ref (ad 22)), (1, .int v1)] := hl
  refine lv_iload_n (pc := 0) hx hb dX2_opens_0 rfl (lv_at hl 1 rfl) ?_
  refine lv_bipush (pc := 1) (v := 40) hx hb dX2_opens_1 (by decide) ?_
  refine lv_icmp_eq (pc := 3) (tgt := 8) hx hb dX2_opens_3 (by decide) (fun c_3 => ?_) (fun c_3 => ?_)
  · have h := itp c_3 h
    refine lv_aload_n (pc := 8) hx hb dX2_opens_8 rfl (lv_at hl 0 rfl) ?_
    refine lv_aload_n (pc := 9) hx hb dX2_opens_9 rfl (lv_at hl 0 rfl) ?_
    refine gf_X2_50 (pc := 10) X Y dX2_opens_10 ?_
    refine lv_iconst (pc := 13) (v := 1) hx hb dX2_opens_13 (by decide) ?_
    refine lv_isub (pc := 14) hx hb dX2_opens_14 ?_
    obtain ⟨C_15, hC_15, h⟩ := sto_s h
    refine pf_X2_40 (pc := 15) X Y hC_15 dX2_opens_15 (fun H locs Y => ?_)
    refine lv_aload_n (pc := 18) hx hb dX2_opens_18 rfl (lv_at hl 0 rfl) ?_
    refine lv_iconst (pc := 19) (v := 0) hx hb dX2_opens_19 (by decide) ?_
    obtain ⟨C_20, hC_20, h⟩ := sto_s h
    refine pf_X2_37 (pc := 20) X Y hC_20 dX2_opens_20 (fun H locs Y => ?_)
    refine lv_iconst (pc := 23) (v := 1) hx hb dX2_opens_23 (by decide) ?_
    obtain ⟨hr9, hm9⟩ := ret_e h
    exact fin_z (b := true) (pc := 24) X rfl Y rfl hr9 hm9 rfl dX2_opens_24
  · have h := itn c_3 h
    refine lv_iconst (pc := 6) (v := 0) hx hb dX2_opens_6 (by decide) ?_
    obtain ⟨hr9, hm9⟩ := ret_e h
    exact fin_z (b := false) (pc := 7) X rfl Y rfl hr9 hm9 rfl dX2_opens_7
abbrev rm_X2_followsNode : Room := { frames := 0, cells := 0, slots := 0, locals := 0 }
set_option maxHeartbeats 4000000 in
set_option maxRecDepth 100000 in
theorem WB_X2_followsNode_36 {r9 : Bool} {C9 : Mem} (v1 : Int32) (C : Mem) (X : Cx p s m args meth c cX2_followsNode RX2 2 (some .boolean) dC dI ad bd cI cZ) {H : Heap} {locs : List Loc} {ls : Array Slot} (Y : Ys s dC dI ad bd cI cZ C D H locs) (hl : lv_has ls 2 [(0, .ref (ad 22)), (1, .int v1)]) (h : B_X2_followsNode_36 v1 C = some (r9, C9)) : W p l e rm_X2_followsNode s m args below meth c H locs 0 0 (MQ below (QC (some (.int (b2i r9))) dC dI ad bd cI cZ C9 D) args s 0 0 (AD ad bd)) (F0 m 36 ls []) := by
  have hx := X.1
  have hb := X.2.1
  unfold B_X2_followsNode_36 at h
  refine lv_iload_n (pc := 36) hx hb dX2_followsNode_36 rfl (lv_at hl 1 rfl) ?_
  refine lv_bipush (pc := 37) (v := 41) hx hb dX2_followsNode_37 (by decide) ?_
  refine lv_icmp_ne (pc := 39) (tgt := 57) hx hb dX2_followsNode_39 (by decide) (fun c_39 => ?_) (fun c_39 => ?_)
  · have h := itn c_39 h
    refine lv_iconst (pc := 57) (v := 0) hx hb dX2_followsNode_57 (by decide) ?_
    obtain ⟨hr9, hm9⟩ := ret_e h
    exact fin_z (b := false) (pc := 58) X rfl Y rfl hr9 hm9 rfl dX2_followsNode_58
  · have h := itp c_39 h
    refine lv_aload_n (pc := 42) hx hb dX2_followsNode_42 rfl (lv_at hl 0 rfl) ?_
    refine lv_aload_n (pc := 43) hx hb dX2_followsNode_43 rfl (lv_at hl 0 rfl) ?_
    refine gf_X2_15 (pc := 44) X Y dX2_followsNode_44 ?_
    refine lv_aload_n (pc := 47) hx hb dX2_followsNode_47 rfl (lv_at hl 0 rfl) ?_
    refine gf_X2_40 (pc := 48) X Y dX2_followsNode_48 ?_
    obtain ⟨g_51, h⟩ := gd_s h
    refine r_ialdc (pc := 51) X Y (ca_24 ad cI) g_51 dX2_followsNode_51 ?_
    obtain ⟨C_52, hC_52, h⟩ := sto_s h
    refine pf_X2_40 (pc := 52) X Y hC_52 dX2_followsNode_52 (fun H locs Y => ?_)
    refine lv_iconst (pc := 55) (v := 1) hx hb dX2_followsNode_55 (by decide) ?_
    obtain ⟨hr9, hm9⟩ := ret_e h
    exact fin_z (b := true) (pc := 56) X rfl Y rfl hr9 hm9 rfl dX2_followsNode_56
set_option maxHeartbeats 4000000 in
set_option maxRecDepth 100000 in
theorem c_X2_followsNode {r9 : Bool} {C9 : Mem} (v1 : Int32) (h : f_X2_followsNode v1 C = some (r9, C9)) : Ct l dC dI ad bd cI cZ yX2_followsNode cX2_followsNode 2 (some .boolean) rm_X2_followsNode [.ref (ad 22), .int v1] C D (some (.int (b2i r9))) C9 D := by
  unfold f_X2_followsNode at h
  refine Ct.intro (own := RX2) (by decide) rfl (Nat.le_of_ble_eq_true rfl) ?_
  intro p e s m args below meth c H locs ls X Y hl
  have hx := X.1
  have hb := X.2.1
  have hl : lv_has ls 2 [(0, .ref (ad 22)), (1, .int v1)] := hl
  refine lv_aload_n (pc := 0) hx hb dX2_followsNode_0 rfl (lv_at hl 0 rfl) ?_
  refine gf_X2_40 (pc := 1) X Y dX2_followsNode_1 ?_
  refine lv_iconst (pc := 4) (v := (-1)) hx hb dX2_followsNode_4 (by decide) ?_
  refine lv_icmp_ne (pc := 5) (tgt := 10) hx hb dX2_followsNode_5 (by decide) (fun c_5 => ?_) (fun c_5 => ?_)
  · have h := itn c_5 h
    refine lv_iload_n (pc := 10) hx hb dX2_followsNode_10 rfl (lv_at hl 1 rfl) ?_
    refine lv_bipush (pc := 11) (v := 44) hx hb dX2_followsNode_11 (by decide) ?_
    refine lv_icmp_ne (pc := 13) (tgt := 36) hx hb dX2_followsNode_13 (by decide) (fun c_13 => ?_) (fun c_13 => ?_)
    · have h := itn c_13 h
      exact WB_X2_followsNode_36 v1 C X Y (lv_sub hl [0, 1] rfl) h
    · have h := itp c_13 h
      refine lv_aload_n (pc := 16) hx hb dX2_followsNode_16 rfl (lv_at hl 0 rfl) ?_
      refine gf_X2_21 (pc := 17) X Y dX2_followsNode_17 ?_
      refine lv_aload_n (pc := 20) hx hb dX2_followsNode_20 rfl (lv_at hl 0 rfl) ?_
      refine gf_X2_40 (pc := 21) X Y dX2_followsNode_21 ?_
      obtain ⟨g_24, h⟩ := gd_s h
      refine r_ialdc (pc := 24) X Y (ca_26 ad cI) g_24 dX2_followsNode_24 ?_
      refine lv_iconst (pc := 25) (v := 4) hx hb dX2_followsNode_25 (by decide) ?_
      refine lv_icmp_ge (pc := 26) (tgt := 36) hx hb dX2_followsNode_26 (by decide) (fun c_26 => ?_) (fun c_26 => ?_)
      · have h := itp c_26 h
        exact WB_X2_followsNode_36 v1 C X Y (lv_sub hl [0, 1] rfl) h
      · have h := itn c_26 h
        refine lv_aload_n (pc := 29) hx hb dX2_followsNode_29 rfl (lv_at hl 0 rfl) ?_
        refine lv_iconst (pc := 30) (v := 0) hx hb dX2_followsNode_30 (by decide) ?_
        obtain ⟨C_31, hC_31, h⟩ := sto_s h
        refine pf_X2_37 (pc := 31) X Y hC_31 dX2_followsNode_31 (fun H locs Y => ?_)
        refine lv_iconst (pc := 34) (v := 1) hx hb dX2_followsNode_34 (by decide) ?_
        obtain ⟨hr9, hm9⟩ := ret_e h
        exact fin_z (b := true) (pc := 35) X rfl Y rfl hr9 hm9 rfl dX2_followsNode_35
  · have h := itp c_5 h
    refine lv_iconst (pc := 8) (v := 0) hx hb dX2_followsNode_8 (by decide) ?_
    obtain ⟨hr9, hm9⟩ := ret_e h
    exact fin_z (b := false) (pc := 9) X rfl Y rfl hr9 hm9 rfl dX2_followsNode_9
abbrev rm_X2_goesOn : Room := { frames := 3, cells := 0, slots := 0, locals := 65 }
set_option maxHeartbeats 4000000 in
set_option maxRecDepth 100000 in
theorem c_X2_goesOn {r9 : Bool} {C9 : Mem} (v1 : Int32) (h : f_X2_goesOn v1 C = some (r9, C9)) : Ct l dC dI ad bd cI cZ yX2_goesOn cX2_goesOn 2 (some .boolean) rm_X2_goesOn [.ref (ad 22), .int v1] C D (some (.int (b2i r9))) C9 D := by
  unfold f_X2_goesOn at h
  refine Ct.intro (own := RX2) (by decide) rfl (Nat.le_of_ble_eq_true rfl) ?_
  intro p e s m args below meth c H locs ls X Y hl
  have hx := X.1
  have hb := X.2.1
  have hl : lv_has ls 2 [(0, .ref (ad 22)), (1, .int v1)] := hl
  refine lv_aload_n (pc := 0) hx hb dX2_goesOn_0 rfl (lv_at hl 0 rfl) ?_
  refine gf_X2_37 (pc := 1) X Y dX2_goesOn_1 ?_
  by_cases c_4_0 : (C 22 9) = 0
  · have h := itp c_4_0 h
    refine lv_tableIn (pc := 4) (tgt := 36) hx hb dX2_goesOn_4 (by rw [c_4_0]; decide) (by rw [c_4_0]; decide) (by first | (rw [c_4_0]; done) | (rw [c_4_0]; rfl)) (by decide) ?_
    refine lv_aload_n (pc := 36) hx hb dX2_goesOn_36 rfl (lv_at hl 0 rfl) ?_
    refine lv_iload_n (pc := 37) hx hb dX2_goesOn_37 rfl (lv_at hl 1 rfl) ?_
    obtain ⟨r_38, C_38, e_38, h⟩ := bnd2_s h
    refine call_vi (pc := 38) (rest := []) [.int v1] X Y (c_X2_beginsNode v1 e_38) sw_X2_56 (rv_X2 X Y) rfl ⟨rfl, rfl, Nat.le_of_ble_eq_true rfl, Nat.le_of_ble_eq_true rfl⟩ hl rfl (Nat.le_of_ble_eq_true rfl) dX2_goesOn_38 (fun H locs Y => ?_)
    obtain ⟨hr9, hm9⟩ := ret_e h
    exact fin_z (b := r_38) (pc := 41) X rfl Y rfl hr9 hm9 rfl dX2_goesOn_41
  have h := itn c_4_0 h
  by_cases c_4_1 : (C 22 9) = 1
  · have h := itp c_4_1 h
    refine lv_tableIn (pc := 4) (tgt := 42) hx hb dX2_goesOn_4 (by rw [c_4_1]; decide) (by rw [c_4_1]; decide) (by first | (rw [c_4_1]; done) | (rw [c_4_1]; rfl)) (by decide) ?_
    refine lv_aload_n (pc := 42) hx hb dX2_goesOn_42 rfl (lv_at hl 0 rfl) ?_
    refine lv_iload_n (pc := 43) hx hb dX2_goesOn_43 rfl (lv_at hl 1 rfl) ?_
    obtain ⟨r_44, C_44, e_44, h⟩ := bnd2_s h
    refine call_vi (pc := 44) (rest := []) [.int v1] X Y (c_X2_opens v1 e_44) sw_X2_59 (rv_X2 X Y) rfl ⟨rfl, rfl, Nat.le_of_ble_eq_true rfl, Nat.le_of_ble_eq_true rfl⟩ hl rfl (Nat.le_of_ble_eq_true rfl) dX2_goesOn_44 (fun H locs Y => ?_)
    obtain ⟨hr9, hm9⟩ := ret_e h
    exact fin_z (b := r_44) (pc := 47) X rfl Y rfl hr9 hm9 rfl dX2_goesOn_47
  have h := itn c_4_1 h
  by_cases c_4_2 : (C 22 9) = 2
  · have h := itp c_4_2 h
    refine lv_tableIn (pc := 4) (tgt := 48) hx hb dX2_goesOn_4 (by rw [c_4_2]; decide) (by rw [c_4_2]; decide) (by first | (rw [c_4_2]; done) | (rw [c_4_2]; rfl)) (by decide) ?_
    refine lv_aload_n (pc := 48) hx hb dX2_goesOn_48 rfl (lv_at hl 0 rfl) ?_
    refine lv_iload_n (pc := 49) hx hb dX2_goesOn_49 rfl (lv_at hl 1 rfl) ?_
    refine lv_iconst (pc := 50) (v := 1) hx hb dX2_goesOn_50 (by decide) ?_
    refine lv_iconst (pc := 51) (v := 3) hx hb dX2_goesOn_51 (by decide) ?_
    obtain ⟨r_52, C_52, e_52, h⟩ := bnd2_s h
    refine call_vi (pc := 52) (rest := []) [.int v1, .int 1, .int 3] X Y (c_X2_isNextFigure v1 1 3 e_52) sw_X2_62 (rv_X2 X Y) rfl ⟨rfl, rfl, Nat.le_of_ble_eq_true rfl, Nat.le_of_ble_eq_true rfl⟩ hl rfl (Nat.le_of_ble_eq_true rfl) dX2_goesOn_52 (fun H locs Y => ?_)
    obtain ⟨hr9, hm9⟩ := ret_e h
    exact fin_z (b := r_52) (pc := 55) X rfl Y rfl hr9 hm9 rfl dX2_goesOn_55
  have h := itn c_4_2 h
  by_cases c_4_3 : (C 22 9) = 3
  · have h := itp c_4_3 h
    refine lv_tableIn (pc := 4) (tgt := 56) hx hb dX2_goesOn_4 (by rw [c_4_3]; decide) (by rw [c_4_3]; decide) (by first | (rw [c_4_3]; done) | (rw [c_4_3]; rfl)) (by decide) ?_
    refine lv_aload_n (pc := 56) hx hb dX2_goesOn_56 rfl (lv_at hl 0 rfl) ?_
    refine lv_iload_n (pc := 57) hx hb dX2_goesOn_57 rfl (lv_at hl 1 rfl) ?_
    refine lv_iconst (pc := 58) (v := 2) hx hb dX2_goesOn_58 (by decide) ?_
    refine lv_iconst (pc := 59) (v := 4) hx hb dX2_goesOn_59 (by decide) ?_
    obtain ⟨r_60, C_60, e_60, h⟩ := bnd2_s h
    refine call_vi (pc := 60) (rest := []) [.int v1, .int 2, .int 4] X Y (c_X2_isNextFigure v1 2 4 e_60) sw_X2_62 (rv_X2 X Y) rfl ⟨rfl, rfl, Nat.le_of_ble_eq_true rfl, Nat.le_of_ble_eq_true rfl⟩ hl rfl (Nat.le_of_ble_eq_true rfl) dX2_goesOn_60 (fun H locs Y => ?_)
    obtain ⟨hr9, hm9⟩ := ret_e h
    exact fin_z (b := r_60) (pc := 63) X rfl Y rfl hr9 hm9 rfl dX2_goesOn_63
  have h := itn c_4_3 h
  refine lv_tableOut (pc := 4) (tgt := 64) hx hb dX2_goesOn_4 (by have z0 := lv_neT (a := 0) c_4_0 (by decide); have z1 := lv_neT (a := 1) c_4_1 (by decide); have z2 := lv_neT (a := 2) c_4_2 (by decide); have z3 := lv_neT (a := 3) c_4_3 (by decide); omega) (by decide) ?_
  refine lv_aload_n (pc := 64) hx hb dX2_goesOn_64 rfl (lv_at hl 0 rfl) ?_
  refine lv_iload_n (pc := 65) hx hb dX2_goesOn_65 rfl (lv_at hl 1 rfl) ?_
  obtain ⟨r_66, C_66, e_66, h⟩ := bnd2_s h
  refine call_vi (pc := 66) (rest := []) [.int v1] X Y (c_X2_followsNode v1 e_66) sw_X2_66 (rv_X2 X Y) rfl ⟨rfl, rfl, Nat.le_of_ble_eq_true rfl, Nat.le_of_ble_eq_true rfl⟩ hl rfl (Nat.le_of_ble_eq_true rfl) dX2_goesOn_66 (fun H locs Y => ?_)
  obtain ⟨hr9, hm9⟩ := ret_e h
  exact fin_z (b := r_66) (pc := 69) X rfl Y rfl hr9 hm9 rfl dX2_goesOn_69
abbrev rm_X2_add : Room := { frames := 4, cells := 0, slots := 0, locals := 86 }
set_option maxHeartbeats 4000000 in
set_option maxRecDepth 100000 in
theorem WB_X2_add_36 {r9 : Int32} {C9 : Mem} (C : Mem) (X : Cx p s m args meth c cX2_add RX2 2 (some .int) dC dI ad bd cI cZ) {H : Heap} {locs : List Loc} {ls : Array Slot} (Y : Ys s dC dI ad bd cI cZ C D H locs) (hl : lv_has ls 2 [(0, .ref (ad 22))]) (h : B_X2_add_36 C = some (r9, C9)) : W p l e rm_X2_add s m args below meth c H locs 0 0 (MQ below (QC (some (.int r9)) dC dI ad bd cI cZ C9 D) args s 0 0 (AD ad bd)) (F0 m 36 ls []) := by
  have hx := X.1
  have hb := X.2.1
  unfold B_X2_add_36 at h
  refine lv_aload_n (pc := 36) hx hb dX2_add_36 rfl (lv_at hl 0 rfl) ?_
  refine lv_dup (pc := 37) hx hb dX2_add_37 rfl ?_
  refine gf_X2_43 (pc := 38) X Y dX2_add_38 ?_
  refine lv_iconst (pc := 41) (v := 1) hx hb dX2_add_41 (by decide) ?_
  refine lv_iadd (pc := 42) hx hb dX2_add_42 ?_
  obtain ⟨C_43, hC_43, h⟩ := sto_s h
  refine pf_X2_43 (pc := 43) X Y hC_43 dX2_add_43 (fun H locs Y => ?_)
  refine lv_aload_n (pc := 46) hx hb dX2_add_46 rfl (lv_at hl 0 rfl) ?_
  refine gf_X2_43 (pc := 47) X Y dX2_add_47 ?_
  obtain ⟨hr9, hm9⟩ := ret_e h
  exact fin_i (pc := 50) X rfl Y hr9 hm9 rfl dX2_add_50
set_option maxHeartbeats 4000000 in
set_option maxRecDepth 100000 in
theorem c_X2_add {r9 : Int32} {C9 : Mem} (v1 : Int32) (h : f_X2_add v1 C = some (r9, C9)) : Ct l dC dI ad bd cI cZ yX2_add cX2_add 2 (some .int) rm_X2_add [.ref (ad 22), .int v1] C D (some (.int r9)) C9 D := by
  unfold f_X2_add at h
  refine Ct.intro (own := RX2) (by decide) rfl (Nat.le_of_ble_eq_true rfl) ?_
  intro p e s m args below meth c H locs ls X Y hl
  have hx := X.1
  have hb := X.2.1
  have hl : lv_has ls 2 [(0, .ref (ad 22)), (1, .int v1)] := hl
  refine lv_aload_n (pc := 0) hx hb dX2_add_0 rfl (lv_at hl 0 rfl) ?_
  refine gf_X2_43 (pc := 1) X Y dX2_add_1 ?_
  refine lv_bipush (pc := 4) (v := 60) hx hb dX2_add_4 (by decide) ?_
  refine lv_icmp_lt (pc := 6) (tgt := 12) hx hb dX2_add_6 (by decide) (fun c_6 => ?_) (fun c_6 => ?_)
  · have h := itp c_6 h
    refine lv_aload_n (pc := 12) hx hb dX2_add_12 rfl (lv_at hl 0 rfl) ?_
    refine gf_X2_33 (pc := 13) X Y dX2_add_13 ?_
    refine lv_iconst (pc := 16) (v := (-1)) hx hb dX2_add_16 (by decide) ?_
    refine lv_icmp_ne (pc := 17) (tgt := 36) hx hb dX2_add_17 (by decide) (fun c_17 => ?_) (fun c_17 => ?_)
    · have h := itn c_17 h
      exact WB_X2_add_36  C X Y (lv_sub hl [0] rfl) h
    · have h := itp c_17 h
      refine lv_aload_n (pc := 20) hx hb dX2_add_20 rfl (lv_at hl 0 rfl) ?_
      refine lv_iload_n (pc := 21) hx hb dX2_add_21 rfl (lv_at hl 1 rfl) ?_
      obtain ⟨r_22, C_22, e_22, h⟩ := bnd2_s h
      refine call_vi (pc := 22) (rest := []) [.int v1] X Y (c_X2_goesOn v1 e_22) sw_X2_46 (rv_X2 X Y) rfl ⟨rfl, rfl, Nat.le_of_ble_eq_true rfl, Nat.le_of_ble_eq_true rfl⟩ hl rfl (Nat.le_of_ble_eq_true rfl) dX2_add_22 (fun H locs Y => ?_)
      refine lv_if_ne (pc := 25) (tgt := 36) hx hb dX2_add_25 (by decide) (fun c_25 => ?_) (fun c_25 => ?_)
      · have h := itp (b2i_t c_25) h
        exact WB_X2_add_36  C_22 X Y (lv_sub hl [0] rfl) h
      · have h := itn (b2i_f c_25) h
        refine lv_aload_n (pc := 28) hx hb dX2_add_28 rfl (lv_at hl 0 rfl) ?_
        refine lv_aload_n (pc := 29) hx hb dX2_add_29 rfl (lv_at hl 0 rfl) ?_
        refine gf_X2_43 (pc := 30) X Y dX2_add_30 ?_
        obtain ⟨C_33, hC_33, h⟩ := sto_s h
        refine pf_X2_33 (pc := 33) X Y hC_33 dX2_add_33 (fun H locs Y => ?_)
        exact WB_X2_add_36  C_33 X Y (lv_sub hl [0] rfl) h
  · have h := itn c_6 h
    refine lv_bipush (pc := 9) (v := (-4)) hx hb dX2_add_9 (by decide) ?_
    obtain ⟨hr9, hm9⟩ := ret_e h
    exact fin_i (pc := 11) X rfl Y hr9 hm9 rfl dX2_add_11
abbrev rm_X2_clear : Room := { frames := 0, cells := 0, slots := 0, locals := 0 }
set_option maxHeartbeats 4000000 in
set_option maxRecDepth 100000 in
theorem c_X2_clear {r9 : Int32} {C9 : Mem} (h : f_X2_clear C = some (r9, C9)) : Ct l dC dI ad bd cI cZ yX2_clear cX2_clear 2 (some .int) rm_X2_clear [.ref (ad 22)] C D (some (.int r9)) C9 D := by
  unfold f_X2_clear at h
  refine Ct.intro (own := RX2) (by decide) rfl (Nat.le_of_ble_eq_true rfl) ?_
  intro p e s m args below meth c H locs ls X Y hl
  have hx := X.1
  have hb := X.2.1
  have hl : lv_has ls 2 [(0, .ref (ad 22))] := hl
  refine lv_aload_n (pc := 0) hx hb dX2_clear_0 rfl (lv_at hl 0 rfl) ?_
  refine gf_X2_43 (pc := 1) X Y dX2_clear_1 ?_
  obtain ⟨v1_4, ev1_4, h⟩ := lt_s_ h
  refine top_i ev1_4 ?_
  refine lv_istore_n (pc := 4) (lv' := [(1, .int v1_4), (0, .ref (ad 22))]) hx hb dX2_clear_4 rfl hl (by decide) rfl (fun ls hl => ?_)
  refine lv_aload_n (pc := 5) hx hb dX2_clear_5 rfl (lv_at hl 1 rfl) ?_
  refine lv_iconst (pc := 6) (v := 0) hx hb dX2_clear_6 (by decide) ?_
  obtain ⟨C_7, hC_7, h⟩ := sto_s h
  refine pf_X2_43 (pc := 7) X Y hC_7 dX2_clear_7 (fun H locs Y => ?_)
  refine lv_aload_n (pc := 10) hx hb dX2_clear_10 rfl (lv_at hl 1 rfl) ?_
  refine lv_iconst (pc := 11) (v := (-1)) hx hb dX2_clear_11 (by decide) ?_
  obtain ⟨C_12, hC_12, h⟩ := sto_s h
  refine pf_X2_33 (pc := 12) X Y hC_12 dX2_clear_12 (fun H locs Y => ?_)
  refine lv_aload_n (pc := 15) hx hb dX2_clear_15 rfl (lv_at hl 1 rfl) ?_
  refine lv_iconst (pc := 16) (v := 0) hx hb dX2_clear_16 (by decide) ?_
  obtain ⟨C_17, hC_17, h⟩ := sto_s h
  refine pf_X2_37 (pc := 17) X Y hC_17 dX2_clear_17 (fun H locs Y => ?_)
  refine lv_aload_n (pc := 20) hx hb dX2_clear_20 rfl (lv_at hl 1 rfl) ?_
  refine lv_iconst (pc := 21) (v := (-1)) hx hb dX2_clear_21 (by decide) ?_
  obtain ⟨C_22, hC_22, h⟩ := sto_s h
  refine pf_X2_40 (pc := 22) X Y hC_22 dX2_clear_22 (fun H locs Y => ?_)
  refine lv_aload_n (pc := 25) hx hb dX2_clear_25 rfl (lv_at hl 1 rfl) ?_
  refine lv_iconst (pc := 26) (v := 0) hx hb dX2_clear_26 (by decide) ?_
  obtain ⟨C_27, hC_27, h⟩ := sto_s h
  refine pf_X2_50 (pc := 27) X Y hC_27 dX2_clear_27 (fun H locs Y => ?_)
  refine lv_aload_n (pc := 30) hx hb dX2_clear_30 rfl (lv_at hl 1 rfl) ?_
  refine lv_iconst (pc := 31) (v := 0) hx hb dX2_clear_31 (by decide) ?_
  obtain ⟨C_32, hC_32, h⟩ := sto_s h
  refine pf_X2_53 (pc := 32) X Y hC_32 dX2_clear_32 (fun H locs Y => ?_)
  refine lv_iload_n (pc := 35) hx hb dX2_clear_35 rfl (lv_at hl 0 rfl) ?_
  obtain ⟨hr9, hm9⟩ := ret_e h
  exact fin_i (pc := 36) X rfl Y hr9 hm9 rfl dX2_clear_36
abbrev rm_X2_faultPlace : Room := { frames := 0, cells := 0, slots := 0, locals := 0 }
set_option maxHeartbeats 4000000 in
set_option maxRecDepth 100000 in
theorem c_X2_faultPlace : Ct l dC dI ad bd cI cZ yX2_faultPlace cX2_faultPlace 1 (some .int) rm_X2_faultPlace [.ref (ad 22)] C D (some (.int (f_X2_faultPlace C))) C D := by
  obtain ⟨r9, h⟩ : ∃ r9, f_X2_faultPlace C = r9 := ⟨_, rfl⟩
  rw [h]
  unfold f_X2_faultPlace at h
  refine Ct.intro (own := RX2) (by decide) rfl (Nat.le_of_ble_eq_true rfl) ?_
  intro p e s m args below meth c H locs ls X Y hl
  have hx := X.1
  have hb := X.2.1
  have hl : lv_has ls 1 [(0, .ref (ad 22))] := hl
  refine lv_aload_n (pc := 0) hx hb dX2_faultPlace_0 rfl (lv_at hl 0 rfl) ?_
  refine gf_X2_33 (pc := 1) X Y dX2_faultPlace_1 ?_
  refine lv_iconst (pc := 4) (v := (-1)) hx hb dX2_faultPlace_4 (by decide) ?_
  refine lv_icmp_eq (pc := 5) (tgt := 13) hx hb dX2_faultPlace_5 (by decide) (fun c_5 => ?_) (fun c_5 => ?_)
  · have h := itp c_5 h
    refine lv_aload_n (pc := 13) hx hb dX2_faultPlace_13 rfl (lv_at hl 0 rfl) ?_
    refine gf_X2_37 (pc := 14) X Y dX2_faultPlace_14 ?_
    refine lv_iconst (pc := 17) (v := 4) hx hb dX2_faultPlace_17 (by decide) ?_
    refine lv_icmp_ne (pc := 18) (tgt := 33) hx hb dX2_faultPlace_18 (by decide) (fun c_18 => ?_) (fun c_18 => ?_)
    · have h := itn c_18 h
      refine lv_aload_n (pc := 33) hx hb dX2_faultPlace_33 rfl (lv_at hl 0 rfl) ?_
      refine gf_X2_43 (pc := 34) X Y dX2_faultPlace_34 ?_
      have hr9 := h
      exact fin_i (pc := 37) X rfl Y hr9 rfl rfl dX2_faultPlace_37
    · have h := itp c_18 h
      refine lv_aload_n (pc := 21) hx hb dX2_faultPlace_21 rfl (lv_at hl 0 rfl) ?_
      refine gf_X2_40 (pc := 22) X Y dX2_faultPlace_22 ?_
      refine lv_iconst (pc := 25) (v := (-1)) hx hb dX2_faultPlace_25 (by decide) ?_
      refine lv_icmp_ne (pc := 26) (tgt := 33) hx hb dX2_faultPlace_26 (by decide) (fun c_26 => ?_) (fun c_26 => ?_)
      · have h := itn c_26 h
        refine lv_aload_n (pc := 33) hx hb dX2_faultPlace_33 rfl (lv_at hl 0 rfl) ?_
        refine gf_X2_43 (pc := 34) X Y dX2_faultPlace_34 ?_
        have hr9 := h
        exact fin_i (pc := 37) X rfl Y hr9 rfl rfl dX2_faultPlace_37
      · have h := itp c_26 h
        refine lv_iconst (pc := 29) (v := (-1)) hx hb dX2_faultPlace_29 (by decide) ?_
        refine lv_goto (pc := 30) (tgt := 37) hx hb dX2_faultPlace_30 (by decide) ?_
        have hr9 := h
        exact fin_i (pc := 37) X rfl Y hr9 rfl rfl dX2_faultPlace_37
  · have h := itn c_5 h
    refine lv_aload_n (pc := 8) hx hb dX2_faultPlace_8 rfl (lv_at hl 0 rfl) ?_
    refine gf_X2_33 (pc := 9) X Y dX2_faultPlace_9 ?_
    have hr9 := h
    exact fin_i (pc := 12) X rfl Y hr9 rfl rfl dX2_faultPlace_12
abbrev rm_X2_worth : Room := { frames := 1, cells := 0, slots := 0, locals := 21 }
set_option maxHeartbeats 4000000 in
set_option maxRecDepth 100000 in
theorem WL_X2_worth_28 {r9 : Int32} (v3 : Int32) (v4 : Int32) (v5 : Int32) (C : Mem) (X : Cx p s m args meth c cX2_worth RX2 8 (some .int) dC dI ad bd cI cZ) {kx : Int32 → Option Int32} (hkx : ∀ (v6' : Int32) (H : Heap) (locs : List Loc) (ls : Array Slot), Ys s dC dI ad bd cI cZ C D H locs → lv_has ls 8 [(3, .int v3), (5, .int v5), (6, .int v6')] → kx v6' = some r9 → W p l e rm_X2_worth s m args below meth c H locs 0 0 (MQ below (QC (some (.int r9)) dC dI ad bd cI cZ C D) args s 0 0 (AD ad bd)) (F0 m 57 ls [])) : ∀ (n_ : Nat) (v6 : Int32) (v7 : Int32) (H : Heap) (locs : List Loc) (ls : Array Slot), Ys s dC dI ad bd cI cZ C D H locs → lv_has ls 8 [(0, .ref (ad 22)), (3, .int v3), (4, .int v4), (5, .int v5), (6, .int v6), (7, .int v7)] → L_X2_worth_28 v4 C kx n_ v6 v7 = some r9 → W p l e rm_X2_worth s m args below meth c H locs 0 0 (MQ below (QC (some (.int r9)) dC dI ad bd cI cZ C D) args s 0 0 (AD ad bd)) (F0 m 28 ls []) := by
  have hx := X.1
  have hb := X.2.1
  intro n_
  induction n_ with
  | zero =>
    intro v6 v7 H locs ls Y hl h
    cases h
  | succ n_ ih =>
    intro v6 v7 H locs ls Y hl h
    unfold L_X2_worth_28 at h
    refine lv_iload (pc := 28) hx hb dX2_worth_28 (lv_at hl 5 rfl) ?_
    refine lv_iconst (pc := 30) (v := 3) hx hb dX2_worth_30 (by decide) ?_
    refine lv_icmp_ge (pc := 31) (tgt := 57) hx hb dX2_worth_31 (by decide) (fun c_31 => ?_) (fun c_31 => ?_)
    · have h := itp c_31 h
      exact hkx v6 H locs ls Y (lv_sub hl [1, 3, 4] rfl) h
    · have h := itn c_31 h
      refine lv_iload (pc := 34) hx hb dX2_worth_34 (lv_at hl 4 rfl) ?_
      refine lv_aload_n (pc := 36) hx hb dX2_worth_36 rfl (lv_at hl 0 rfl) ?_
      refine gf_X2_24 (pc := 37) X Y dX2_worth_37 ?_
      refine lv_iload (pc := 40) hx hb dX2_worth_40 (lv_at hl 2 rfl) ?_
      refine lv_iload (pc := 42) hx hb dX2_worth_42 (lv_at hl 5 rfl) ?_
      refine lv_iadd (pc := 44) hx hb dX2_worth_44 ?_
      obtain ⟨g_45, h⟩ := gd_s h
      refine r_ialdc (pc := 45) X Y (ca_27 ad cI) g_45 dX2_worth_45 ?_
      refine r_mmax (pc := 46) X w_X2_90 hl (Nat.le_of_ble_eq_true rfl) (Nat.le_of_ble_eq_true rfl) dX2_worth_46 ?_
      obtain ⟨v6_49, ev6_49, h⟩ := lt_s_ h
      refine top_i ev6_49 ?_
      refine lv_istore (pc := 49) (lv' := [(6, .int v6_49), (0, .ref (ad 22)), (3, .int v3), (4, .int v4), (5, .int v5), (7, .int v7)]) hx hb dX2_worth_49 hl (by decide) rfl (fun ls hl => ?_)
      obtain ⟨v7_51, ev7_51, h⟩ := lt_s_ h
      refine lv_iinc (pc := 51) (v := v7_51) (lv' := [(7, .int v7_51), (6, .int v6_49), (0, .ref (ad 22)), (3, .int v3), (4, .int v4), (5, .int v5)]) hx hb dX2_worth_51 hl (k := 5) rfl (by rw [ev7_51]; rfl) (by decide) rfl (fun ls hl => ?_)
      refine lv_goto (pc := 54) (tgt := 28) hx hb dX2_worth_54 (by decide) ?_
      exact ih v6_49 v7_51 H locs ls Y (lv_sub hl [2, 3, 4, 5, 1, 0] rfl) h
set_option maxHeartbeats 4000000 in
set_option maxRecDepth 100000 in
theorem c_X2_worth {r9 : Int32} (v1 : Int32) (v2 : Int32) (v3 : Int32) (h : f_X2_worth v1 v2 v3 C = some r9) : Ct l dC dI ad bd cI cZ yX2_worth cX2_worth 8 (some .int) rm_X2_worth [.ref (ad 22), .int v1, .int v2, .int v3] C D (some (.int r9)) C D := by
  unfold f_X2_worth at h
  refine Ct.intro (own := RX2) (by decide) rfl (Nat.le_of_ble_eq_true rfl) ?_
  intro p e s m args below meth c H locs ls X Y hl
  have hx := X.1
  have hb := X.2.1
  have hl : lv_has ls 8 [(0, .ref (ad 22)), (1, .int v1), (2, .int v2), (3, .int v3)] := hl
  refine lv_aload_n (pc := 0) hx hb dX2_worth_0 rfl (lv_at hl 0 rfl) ?_
  refine gf_X2_30 (pc := 1) X Y dX2_worth_1 ?_
  refine lv_iload_n (pc := 4) hx hb dX2_worth_4 rfl (lv_at hl 1 rfl) ?_
  obtain ⟨g_5, h⟩ := gd_s h
  refine r_ialdc (pc := 5) X Y (ca_29 ad cI) g_5 dX2_worth_5 ?_
  refine lv_iconst (pc := 6) (v := 3) hx hb dX2_worth_6 (by decide) ?_
  refine lv_imul (pc := 7) hx hb dX2_worth_7 ?_
  obtain ⟨v4_8, ev4_8, h⟩ := lt_s_ h
  refine top_i ev4_8 ?_
  refine lv_istore (pc := 8) (lv' := [(4, .int v4_8), (0, .ref (ad 22)), (1, .int v1), (2, .int v2), (3, .int v3)]) hx hb dX2_worth_8 hl (by decide) rfl (fun ls hl => ?_)
  refine lv_aload_n (pc := 10) hx hb dX2_worth_10 rfl (lv_at hl 1 rfl) ?_
  refine gf_X2_24 (pc := 11) X Y dX2_worth_11 ?_
  refine lv_iload (pc := 14) hx hb dX2_worth_14 (lv_at hl 0 rfl) ?_
  refine lv_iload_n (pc := 16) hx hb dX2_worth_16 rfl (lv_at hl 3 rfl) ?_
  refine lv_iadd (pc := 17) hx hb dX2_worth_17 ?_
  obtain ⟨g_18, h⟩ := gd_s h
  refine r_ialdc (pc := 18) X Y (ca_27 ad cI) g_18 dX2_worth_18 ?_
  obtain ⟨v5_19, ev5_19, h⟩ := lt_s_ h
  refine top_i ev5_19 ?_
  refine lv_istore (pc := 19) (lv' := [(5, .int v5_19), (4, .int v4_8), (0, .ref (ad 22)), (1, .int v1), (2, .int v2), (3, .int v3)]) hx hb dX2_worth_19 hl (by decide) rfl (fun ls hl => ?_)
  refine lv_iload (pc := 21) hx hb dX2_worth_21 (lv_at hl 0 rfl) ?_
  refine lv_istore (pc := 23) (lv' := [(6, .int v5_19), (5, .int v5_19), (4, .int v4_8), (0, .ref (ad 22)), (1, .int v1), (2, .int v2), (3, .int v3)]) hx hb dX2_worth_23 hl (by decide) rfl (fun ls hl => ?_)
  refine lv_iconst (pc := 25) (v := 0) hx hb dX2_worth_25 (by decide) ?_
  refine lv_istore (pc := 26) (lv' := [(7, .int 0), (6, .int v5_19), (5, .int v5_19), (4, .int v4_8), (0, .ref (ad 22)), (1, .int v1), (2, .int v2), (3, .int v3)]) hx hb dX2_worth_26 hl (by decide) rfl (fun ls hl => ?_)
  refine WL_X2_worth_28 v3 v4_8 v5_19 C X (fun v6_57 H locs ls Y hl h => ?_) FU v5_19 0 H locs ls Y (lv_sub hl [4, 7, 3, 2, 1, 0] rfl) h
  refine lv_iconst (pc := 57) (v := 4) hx hb dX2_worth_57 (by decide) ?_
  refine lv_iload (pc := 58) hx hb dX2_worth_58 (lv_at hl 1 rfl) ?_
  refine lv_imul (pc := 60) hx hb dX2_worth_60 ?_
  refine lv_iload_n (pc := 61) hx hb dX2_worth_61 rfl (lv_at hl 0 rfl) ?_
  refine lv_iload (pc := 62) hx hb dX2_worth_62 (lv_at hl 2 rfl) ?_
  refine lv_iload (pc := 64) hx hb dX2_worth_64 (lv_at hl 1 rfl) ?_
  refine lv_isub (pc := 66) hx hb dX2_worth_66 ?_
  refine lv_imul (pc := 67) hx hb dX2_worth_67 ?_
  refine lv_isub (pc := 68) hx hb dX2_worth_68 ?_
  have hr9 := ret_p h
  exact fin_i (pc := 69) X rfl Y hr9 rfl rfl dX2_worth_69
abbrev rm_X2_solve : Room := { frames := 2, cells := 0, slots := 0, locals := 48 }
set_option maxHeartbeats 4000000 in
set_option maxRecDepth 100000 in
theorem WB_X2_solve_111 {C9 : Mem} (v1 : Int32) (v2 : Int32) (C : Mem) (X : Cx p s m args meth c cX2_solve RX2 4 (none) dC dI ad bd cI cZ) {kb : Int32 → Mem → Option Mem} (hkb : ∀ (v2' : Int32) (C' : Mem) (H : Heap) (locs : List Loc) (ls : Array Slot), Ys s dC dI ad bd cI cZ C' D H locs → lv_has ls 4 [(0, .ref (ad 22)), (1, .int v1), (2, .int v2')] → kb v2' C' = some C9 → W p l e rm_X2_solve s m args below meth c H locs 0 0 (MQ below (QC (none) dC dI ad bd cI cZ C9 D) args s 0 0 (AD ad bd)) (F0 m 15 ls [])) {H : Heap} {locs : List Loc} {ls : Array Slot} (Y : Ys s dC dI ad bd cI cZ C D H locs) (hl : lv_has ls 4 [(0, .ref (ad 22)), (1, .int v1), (2, .int v2)]) (h : B_X2_solve_111 v2 C kb = some C9) : W p l e rm_X2_solve s m args below meth c H locs 0 0 (MQ below (QC (none) dC dI ad bd cI cZ C9 D) args s 0 0 (AD ad bd)) (F0 m 111 ls []) := by
  have hx := X.1
  have hb := X.2.1
  unfold B_X2_solve_111 at h
  obtain ⟨v2_111, ev2_111, h⟩ := lt_s_ h
  refine lv_iinc (pc := 111) (v := v2_111) (lv' := [(2, .int v2_111), (0, .ref (ad 22)), (1, .int v1)]) hx hb dX2_solve_111 hl (k := 2) rfl (by rw [ev2_111]; rfl) (by decide) rfl (fun ls hl => ?_)
  refine lv_goto (pc := 114) (tgt := 15) hx hb dX2_solve_114 (by decide) ?_
  exact hkb v2_111 C H locs ls Y (lv_sub hl [1, 2, 0] rfl) h
set_option maxHeartbeats 4000000 in
set_option maxRecDepth 100000 in
theorem WB_X2_solve_104 {C9 : Mem} (v1 : Int32) (v2 : Int32) (v3 : Int32) (C : Mem) (X : Cx p s m args meth c cX2_solve RX2 4 (none) dC dI ad bd cI cZ) {kb : Int32 → Mem → Option Mem} (hkb : ∀ (v2' : Int32) (C' : Mem) (H : Heap) (locs : List Loc) (ls : Array Slot), Ys s dC dI ad bd cI cZ C' D H locs → lv_has ls 4 [(0, .ref (ad 22)), (1, .int v1), (2, .int v2')] → kb v2' C' = some C9 → W p l e rm_X2_solve s m args below meth c H locs 0 0 (MQ below (QC (none) dC dI ad bd cI cZ C9 D) args s 0 0 (AD ad bd)) (F0 m 15 ls [])) {H : Heap} {locs : List Loc} {ls : Array Slot} (Y : Ys s dC dI ad bd cI cZ C D H locs) (hl : lv_has ls 4 [(0, .ref (ad 22)), (1, .int v1), (2, .int v2), (3, .int v3)]) (h : B_X2_solve_104 v2 v3 C kb = some C9) : W p l e rm_X2_solve s m args below meth c H locs 0 0 (MQ below (QC (none) dC dI ad bd cI cZ C9 D) args s 0 0 (AD ad bd)) (F0 m 104 ls []) := by
  have hx := X.1
  have hb := X.2.1
  unfold B_X2_solve_104 at h
  refine lv_aload_n (pc := 104) hx hb dX2_solve_104 rfl (lv_at hl 0 rfl) ?_
  refine gf_X2_27 (pc := 105) X Y dX2_solve_105 ?_
  refine lv_iload_n (pc := 108) hx hb dX2_solve_108 rfl (lv_at hl 3 rfl) ?_
  refine lv_iload_n (pc := 109) hx hb dX2_solve_109 rfl (lv_at hl 2 rfl) ?_
  obtain ⟨g_110, h⟩ := gd_s h
  obtain ⟨C_110, hC_110, h⟩ := sto_s h
  refine r_iastc (pc := 110) X Y (ca_28 ad cI) g_110 hC_110 dX2_solve_110 (fun H locs Y => ?_)
  exact WB_X2_solve_111 v1 v2 C_110 X (kb := kb) hkb Y (lv_sub hl [0, 1, 2] rfl) h
set_option maxHeartbeats 4000000 in
set_option maxRecDepth 100000 in
theorem WB_X2_solve_49 {C9 : Mem} (x1 : Int32) (x2 : Int32) (v1 : Int32) (v2 : Int32) (C : Mem) (X : Cx p s m args meth c cX2_solve RX2 4 (none) dC dI ad bd cI cZ) {kb : Int32 → Mem → Option Mem} (hkb : ∀ (v2' : Int32) (C' : Mem) (H : Heap) (locs : List Loc) (ls : Array Slot), Ys s dC dI ad bd cI cZ C' D H locs → lv_has ls 4 [(0, .ref (ad 22)), (1, .int v1), (2, .int v2')] → kb v2' C' = some C9 → W p l e rm_X2_solve s m args below meth c H locs 0 0 (MQ below (QC (none) dC dI ad bd cI cZ C9 D) args s 0 0 (AD ad bd)) (F0 m 15 ls [])) {H : Heap} {locs : List Loc} {ls : Array Slot} (Y : Ys s dC dI ad bd cI cZ C D H locs) (hl : lv_has ls 4 [(0, .ref (ad 22)), (1, .int v1), (2, .int v2)]) (h : B_X2_solve_49 x1 x2 v1 v2 C kb = some C9) : W p l e rm_X2_solve s m args below meth c H locs 0 0 (MQ below (QC (none) dC dI ad bd cI cZ C9 D) args s 0 0 (AD ad bd)) (F0 m 49 ls [.int x2, .int x1, .ref (ad 29)]) := by
  have hx := X.1
  have hb := X.2.1
  unfold B_X2_solve_49 at h
  obtain ⟨g_49, h⟩ := gd_s h
  obtain ⟨C_49, hC_49, h⟩ := sto_s h
  refine r_iastc (pc := 49) X Y (ca_29 ad cI) g_49 hC_49 dX2_solve_49 (fun H locs Y => ?_)
  refine lv_aload_n (pc := 50) hx hb dX2_solve_50 rfl (lv_at hl 0 rfl) ?_
  refine gf_X2_15 (pc := 51) X Y dX2_solve_51 ?_
  refine lv_iload_n (pc := 54) hx hb dX2_solve_54 rfl (lv_at hl 2 rfl) ?_
  obtain ⟨g_55, h⟩ := gd_s h
  refine r_ialdc (pc := 55) X Y (ca_24 ad cI) g_55 dX2_solve_55 ?_
  obtain ⟨v3_56, ev3_56, h⟩ := lt_s_ h
  refine top_i ev3_56 ?_
  refine lv_istore_n (pc := 56) (lv' := [(3, .int v3_56), (0, .ref (ad 22)), (1, .int v1), (2, .int v2)]) hx hb dX2_solve_56 rfl hl (by decide) rfl (fun ls hl => ?_)
  refine lv_iload_n (pc := 57) hx hb dX2_solve_57 rfl (lv_at hl 0 rfl) ?_
  refine lv_iconst (pc := 58) (v := (-1)) hx hb dX2_solve_58 (by decide) ?_
  refine lv_icmp_eq (pc := 59) (tgt := 111) hx hb dX2_solve_59 (by decide) (fun c_59 => ?_) (fun c_59 => ?_)
  · have h := itp c_59 h
    exact WB_X2_solve_111 v1 v2 C_49 X (kb := kb) hkb Y (lv_sub hl [1, 2, 3] rfl) h
  · have h := itn c_59 h
    refine lv_aload_n (pc := 62) hx hb dX2_solve_62 rfl (lv_at hl 1 rfl) ?_
    refine gf_X2_27 (pc := 63) X Y dX2_solve_63 ?_
    refine lv_iload_n (pc := 66) hx hb dX2_solve_66 rfl (lv_at hl 0 rfl) ?_
    obtain ⟨g_67, h⟩ := gd_s h
    refine r_ialdc (pc := 67) X Y (ca_28 ad cI) g_67 dX2_solve_67 ?_
    refine lv_iconst (pc := 68) (v := (-1)) hx hb dX2_solve_68 (by decide) ?_
    refine lv_icmp_eq (pc := 69) (tgt := 104) hx hb dX2_solve_69 (by decide) (fun c_69 => ?_) (fun c_69 => ?_)
    · have h := itp c_69 h
      exact WB_X2_solve_104 v1 v2 v3_56 C_49 X (kb := kb) hkb Y (lv_sub hl [1, 2, 3, 0] rfl) h
    · have h := itn c_69 h
      refine lv_aload_n (pc := 72) hx hb dX2_solve_72 rfl (lv_at hl 1 rfl) ?_
      refine lv_iload_n (pc := 73) hx hb dX2_solve_73 rfl (lv_at hl 3 rfl) ?_
      refine lv_aload_n (pc := 74) hx hb dX2_solve_74 rfl (lv_at hl 1 rfl) ?_
      refine gf_X2_11 (pc := 75) X Y dX2_solve_75 ?_
      refine lv_iload_n (pc := 78) hx hb dX2_solve_78 rfl (lv_at hl 0 rfl) ?_
      obtain ⟨g_79, h⟩ := gd_s h
      refine r_ialdc (pc := 79) X Y (ca_23 ad cI) g_79 dX2_solve_79 ?_
      refine lv_iload_n (pc := 80) hx hb dX2_solve_80 rfl (lv_at hl 2 rfl) ?_
      obtain ⟨r_81, e_81, h⟩ := bnd_s h
      refine call_vi (pc := 81) (rest := []) [.int v2, .int (C_49 23 v3_56.toNatClampNeg), .int v1] X Y (c_X2_worth v2 (C_49 23 v3_56.toNatClampNeg) v1 e_81) sw_X2_86 (rv_X2 X Y) rfl ⟨rfl, rfl, Nat.le_of_ble_eq_true rfl, Nat.le_of_ble_eq_true rfl⟩ hl rfl (Nat.le_of_ble_eq_true rfl) dX2_solve_81 (fun H locs Y => ?_)
      refine lv_aload_n (pc := 84) hx hb dX2_solve_84 rfl (lv_at hl 1 rfl) ?_
      refine lv_aload_n (pc := 85) hx hb dX2_solve_85 rfl (lv_at hl 1 rfl) ?_
      refine gf_X2_27 (pc := 86) X Y dX2_solve_86 ?_
      refine lv_iload_n (pc := 89) hx hb dX2_solve_89 rfl (lv_at hl 0 rfl) ?_
      obtain ⟨g_90, h⟩ := gd_s h
      refine r_ialdc (pc := 90) X Y (ca_28 ad cI) g_90 dX2_solve_90 ?_
      refine lv_aload_n (pc := 91) hx hb dX2_solve_91 rfl (lv_at hl 1 rfl) ?_
      refine gf_X2_11 (pc := 92) X Y dX2_solve_92 ?_
      refine lv_iload_n (pc := 95) hx hb dX2_solve_95 rfl (lv_at hl 0 rfl) ?_
      obtain ⟨g_96, h⟩ := gd_s h
      refine r_ialdc (pc := 96) X Y (ca_23 ad cI) g_96 dX2_solve_96 ?_
      refine lv_iload_n (pc := 97) hx hb dX2_solve_97 rfl (lv_at hl 2 rfl) ?_
      obtain ⟨r_98, e_98, h⟩ := bnd_s h
      refine call_vi (pc := 98) (rest := [.int r_81]) [.int (C_49 28 v3_56.toNatClampNeg), .int (C_49 23 v3_56.toNatClampNeg), .int v1] X Y (c_X2_worth (C_49 28 v3_56.toNatClampNeg) (C_49 23 v3_56.toNatClampNeg) v1 e_98) sw_X2_86 (rv_X2 X Y) rfl ⟨rfl, rfl, Nat.le_of_ble_eq_true rfl, Nat.le_of_ble_eq_true rfl⟩ hl rfl (Nat.le_of_ble_eq_true rfl) dX2_solve_98 (fun H locs Y => ?_)
      refine lv_icmp_lt (pc := 101) (tgt := 111) hx hb dX2_solve_101 (by decide) (fun c_101 => ?_) (fun c_101 => ?_)
      · have h := itp c_101 h
        exact WB_X2_solve_111 v1 v2 C_49 X (kb := kb) hkb Y (lv_sub hl [1, 2, 3] rfl) h
      · have h := itn c_101 h
        exact WB_X2_solve_104 v1 v2 v3_56 C_49 X (kb := kb) hkb Y (lv_sub hl [1, 2, 3, 0] rfl) h
set_option maxHeartbeats 4000000 in
set_option maxRecDepth 100000 in
theorem WL_X2_solve_15 {C9 : Mem} (v1 : Int32) (X : Cx p s m args meth c cX2_solve RX2 4 (none) dC dI ad bd cI cZ) {kx : Mem → Option Mem} (hkx : ∀ (C' : Mem) (H : Heap) (locs : List Loc) (ls : Array Slot), Ys s dC dI ad bd cI cZ C' D H locs → lv_has ls 4 [] → kx C' = some C9 → W p l e rm_X2_solve s m args below meth c H locs 0 0 (MQ below (QC (none) dC dI ad bd cI cZ C9 D) args s 0 0 (AD ad bd)) (F0 m 117 ls [])) : ∀ (n_ : Nat) (v2 : Int32) (C : Mem) (H : Heap) (locs : List Loc) (ls : Array Slot), Ys s dC dI ad bd cI cZ C D H locs → lv_has ls 4 [(0, .ref (ad 22)), (1, .int v1), (2, .int v2)] → L_X2_solve_15 v1 kx n_ v2 C = some C9 → W p l e rm_X2_solve s m args below meth c H locs 0 0 (MQ below (QC (none) dC dI ad bd cI cZ C9 D) args s 0 0 (AD ad bd)) (F0 m 15 ls []) := by
  have hx := X.1
  have hb := X.2.1
  intro n_
  induction n_ with
  | zero =>
    intro v2 C H locs ls Y hl h
    cases h
  | succ n_ ih =>
    intro v2 C H locs ls Y hl h
    unfold L_X2_solve_15 at h
    refine lv_iload_n (pc := 15) hx hb dX2_solve_15 rfl (lv_at hl 2 rfl) ?_
    refine lv_if_lt (pc := 16) (tgt := 117) hx hb dX2_solve_16 (by decide) (fun c_16 => ?_) (fun c_16 => ?_)
    · have h := itp c_16 h
      exact hkx C H locs ls Y (lv_sub hl [] rfl) h
    · have h := itn c_16 h
      refine lv_aload_n (pc := 19) hx hb dX2_solve_19 rfl (lv_at hl 0 rfl) ?_
      refine gf_X2_30 (pc := 20) X Y dX2_solve_20 ?_
      refine lv_iload_n (pc := 23) hx hb dX2_solve_23 rfl (lv_at hl 2 rfl) ?_
      refine lv_aload_n (pc := 24) hx hb dX2_solve_24 rfl (lv_at hl 0 rfl) ?_
      refine gf_X2_27 (pc := 25) X Y dX2_solve_25 ?_
      refine lv_iload_n (pc := 28) hx hb dX2_solve_28 rfl (lv_at hl 2 rfl) ?_
      obtain ⟨g_29, h⟩ := gd_s h
      refine r_ialdc (pc := 29) X Y (ca_28 ad cI) g_29 dX2_solve_29 ?_
      refine lv_iconst (pc := 30) (v := (-1)) hx hb dX2_solve_30 (by decide) ?_
      refine lv_icmp_ne (pc := 31) (tgt := 38) hx hb dX2_solve_31 (by decide) (fun c_31 => ?_) (fun c_31 => ?_)
      · have h := itn c_31 h
        refine lv_aload_n (pc := 38) hx hb dX2_solve_38 rfl (lv_at hl 0 rfl) ?_
        refine gf_X2_30 (pc := 39) X Y dX2_solve_39 ?_
        refine lv_aload_n (pc := 42) hx hb dX2_solve_42 rfl (lv_at hl 0 rfl) ?_
        refine gf_X2_27 (pc := 43) X Y dX2_solve_43 ?_
        refine lv_iload_n (pc := 46) hx hb dX2_solve_46 rfl (lv_at hl 2 rfl) ?_
        obtain ⟨g_47, h⟩ := gd_s h
        refine r_ialdc (pc := 47) X Y (ca_28 ad cI) g_47 dX2_solve_47 ?_
        obtain ⟨g_48, h⟩ := gd_s h
        refine r_ialdc (pc := 48) X Y (ca_29 ad cI) g_48 dX2_solve_48 ?_
        exact WB_X2_solve_49 v2 (C 29 (C 28 v2.toNatClampNeg).toNatClampNeg) v1 v2 C X (kb := (L_X2_solve_15 v1 kx n_)) ih Y (lv_sub hl [0, 1, 2] rfl) h
      · have h := itp c_31 h
        refine lv_iload_n (pc := 34) hx hb dX2_solve_34 rfl (lv_at hl 2 rfl) ?_
        refine lv_goto (pc := 35) (tgt := 49) hx hb dX2_solve_35 (by decide) ?_
        exact WB_X2_solve_49 v2 v2 v1 v2 C X (kb := (L_X2_solve_15 v1 kx n_)) ih Y (lv_sub hl [0, 1, 2] rfl) h
set_option maxHeartbeats 4000000 in
set_option maxRecDepth 100000 in
theorem c_X2_solve {C9 : Mem} (v1 : Int32) (h : f_X2_solve v1 C = some C9) : Ct l dC dI ad bd cI cZ yX2_solve cX2_solve 4 (none) rm_X2_solve [.ref (ad 22), .int v1] C D (none) C9 D := by
  unfold f_X2_solve at h
  refine Ct.intro (own := RX2) (by decide) rfl (Nat.le_of_ble_eq_true rfl) ?_
  intro p e s m args below meth c H locs ls X Y hl
  have hx := X.1
  have hb := X.2.1
  have hl : lv_has ls 4 [(0, .ref (ad 22)), (1, .int v1)] := hl
  refine lv_aload_n (pc := 0) hx hb dX2_solve_0 rfl (lv_at hl 0 rfl) ?_
  refine gf_X2_27 (pc := 1) X Y dX2_solve_1 ?_
  refine lv_iconst (pc := 4) (v := (-1)) hx hb dX2_solve_4 (by decide) ?_
  obtain ⟨C_5, e_5, h⟩ := bnd_s h
  refine call_sv (pc := 5) (rest := []) [.ref (ad 28), .int (-1)] X Y (c_J7_fill_53178 28 60 (-1) (ca_28 ad cI) e_5) sw_X2_80 rfl ⟨rfl, rfl, Nat.le_of_ble_eq_true rfl, Nat.le_of_ble_eq_true rfl⟩ hl rfl (Nat.le_of_ble_eq_true rfl) dX2_solve_5 (fun H locs Y => ?_)
  refine lv_aload_n (pc := 8) hx hb dX2_solve_8 rfl (lv_at hl 0 rfl) ?_
  refine gf_X2_50 (pc := 9) X Y dX2_solve_9 ?_
  refine lv_iconst (pc := 12) (v := 1) hx hb dX2_solve_12 (by decide) ?_
  refine lv_isub (pc := 13) hx hb dX2_solve_13 ?_
  obtain ⟨v2_14, ev2_14, h⟩ := lt_s_ h
  refine top_i ev2_14 ?_
  refine lv_istore_n (pc := 14) (lv' := [(2, .int v2_14), (0, .ref (ad 22)), (1, .int v1)]) hx hb dX2_solve_14 rfl hl (by decide) rfl (fun ls hl => ?_)
  refine WL_X2_solve_15 v1 X (fun C_117 H locs ls Y hl h => ?_) FU v2_14 C_5 H locs ls Y (lv_sub hl [1, 2, 0] rfl) h
  have hm9 := ret_v h
  exact fin_v (pc := 117) X rfl Y hm9 rfl dX2_solve_117
abbrev rm_X2_gets : Room := { frames := 0, cells := 0, slots := 0, locals := 0 }
set_option maxHeartbeats 4000000 in
set_option maxRecDepth 100000 in
theorem c_X2_gets {r9 : Int32} (v1 : Int32) (h : f_X2_gets v1 C = some r9) : Ct l dC dI ad bd cI cZ yX2_gets cX2_gets 2 (some .int) rm_X2_gets [.ref (ad 22), .int v1] C D (some (.int r9)) C D := by
  unfold f_X2_gets at h
  refine Ct.intro (own := RX2) (by decide) rfl (Nat.le_of_ble_eq_true rfl) ?_
  intro p e s m args below meth c H locs ls X Y hl
  have hx := X.1
  have hb := X.2.1
  have hl : lv_has ls 2 [(0, .ref (ad 22)), (1, .int v1)] := hl
  refine lv_aload_n (pc := 0) hx hb dX2_gets_0 rfl (lv_at hl 0 rfl) ?_
  refine gf_X2_24 (pc := 1) X Y dX2_gets_1 ?_
  refine lv_aload_n (pc := 4) hx hb dX2_gets_4 rfl (lv_at hl 0 rfl) ?_
  refine gf_X2_30 (pc := 5) X Y dX2_gets_5 ?_
  refine lv_iconst (pc := 8) (v := 0) hx hb dX2_gets_8 (by decide) ?_
  obtain ⟨g_9, h⟩ := gd_s h
  refine r_ialdc (pc := 9) X Y (ca_29 ad cI) g_9 dX2_gets_9 ?_
  refine lv_iconst (pc := 10) (v := 3) hx hb dX2_gets_10 (by decide) ?_
  refine lv_imul (pc := 11) hx hb dX2_gets_11 ?_
  refine lv_iload_n (pc := 12) hx hb dX2_gets_12 rfl (lv_at hl 1 rfl) ?_
  refine lv_iadd (pc := 13) hx hb dX2_gets_13 ?_
  obtain ⟨g_14, h⟩ := gd_s h
  refine r_ialdc (pc := 14) X Y (ca_27 ad cI) g_14 dX2_gets_14 ?_
  have hr9 := ret_p h
  exact fin_i (pc := 15) X rfl Y hr9 rfl rfl dX2_gets_15
abbrev rm_X2_wayLength : Room := { frames := 0, cells := 0, slots := 0, locals := 0 }
set_option maxHeartbeats 4000000 in
set_option maxRecDepth 100000 in
theorem WL_X2_wayLength_6 {r9 : Int32} (C : Mem) (X : Cx p s m args meth c cX2_wayLength RX2 4 (some .int) dC dI ad bd cI cZ) {kx : Int32 → Option Int32} (hkx : ∀ (v1' : Int32) (H : Heap) (locs : List Loc) (ls : Array Slot), Ys s dC dI ad bd cI cZ C D H locs → lv_has ls 4 [(1, .int v1')] → kx v1' = some r9 → W p l e rm_X2_wayLength s m args below meth c H locs 0 0 (MQ below (QC (some (.int r9)) dC dI ad bd cI cZ C D) args s 0 0 (AD ad bd)) (F0 m 40 ls [])) : ∀ (n_ : Nat) (v1 : Int32) (v2 : Int32) (v3 : Int32) (H : Heap) (locs : List Loc) (ls : Array Slot), Ys s dC dI ad bd cI cZ C D H locs → lv_has ls 4 [(0, .ref (ad 22)), (1, .int v1), (2, .int v2), (3, .int v3)] → L_X2_wayLength_6 C kx n_ v1 v2 v3 = some r9 → W p l e rm_X2_wayLength s m args below meth c H locs 0 0 (MQ below (QC (some (.int r9)) dC dI ad bd cI cZ C D) args s 0 0 (AD ad bd)) (F0 m 6 ls []) := by
  have hx := X.1
  have hb := X.2.1
  intro n_
  induction n_ with
  | zero =>
    intro v1 v2 v3 H locs ls Y hl h
    cases h
  | succ n_ ih =>
    intro v1 v2 v3 H locs ls Y hl h
    unfold L_X2_wayLength_6 at h
    refine lv_iload_n (pc := 6) hx hb dX2_wayLength_6 rfl (lv_at hl 3 rfl) ?_
    refine lv_aload_n (pc := 7) hx hb dX2_wayLength_7 rfl (lv_at hl 0 rfl) ?_
    refine gf_X2_50 (pc := 8) X Y dX2_wayLength_8 ?_
    refine lv_icmp_ge (pc := 11) (tgt := 40) hx hb dX2_wayLength_11 (by decide) (fun c_11 => ?_) (fun c_11 => ?_)
    · have h := itp c_11 h
      exact hkx v1 H locs ls Y (lv_sub hl [1] rfl) h
    · have h := itn c_11 h
      refine lv_aload_n (pc := 14) hx hb dX2_wayLength_14 rfl (lv_at hl 0 rfl) ?_
      refine gf_X2_27 (pc := 15) X Y dX2_wayLength_15 ?_
      refine lv_iload_n (pc := 18) hx hb dX2_wayLength_18 rfl (lv_at hl 2 rfl) ?_
      obtain ⟨g_19, h⟩ := gd_s h
      refine r_ialdc (pc := 19) X Y (ca_28 ad cI) g_19 dX2_wayLength_19 ?_
      refine lv_iconst (pc := 20) (v := (-1)) hx hb dX2_wayLength_20 (by decide) ?_
      refine lv_icmp_eq (pc := 21) (tgt := 40) hx hb dX2_wayLength_21 (by decide) (fun c_21 => ?_) (fun c_21 => ?_)
      · have h := itp c_21 h
        exact hkx v1 H locs ls Y (lv_sub hl [1] rfl) h
      · have h := itn c_21 h
        obtain ⟨v1_24, ev1_24, h⟩ := lt_s_ h
        refine lv_iinc (pc := 24) (v := v1_24) (lv' := [(1, .int v1_24), (0, .ref (ad 22)), (2, .int v2), (3, .int v3)]) hx hb dX2_wayLength_24 hl (k := 1) rfl (by rw [ev1_24]; rfl) (by decide) rfl (fun ls hl => ?_)
        refine lv_aload_n (pc := 27) hx hb dX2_wayLength_27 rfl (lv_at hl 1 rfl) ?_
        refine gf_X2_27 (pc := 28) X Y dX2_wayLength_28 ?_
        refine lv_iload_n (pc := 31) hx hb dX2_wayLength_31 rfl (lv_at hl 2 rfl) ?_
        obtain ⟨g_32, h⟩ := gd_s h
        refine r_ialdc (pc := 32) X Y (ca_28 ad cI) g_32 dX2_wayLength_32 ?_
        obtain ⟨v2_33, ev2_33, h⟩ := lt_s_ h
        refine top_i ev2_33 ?_
        refine lv_istore_n (pc := 33) (lv' := [(2, .int v2_33), (1, .int v1_24), (0, .ref (ad 22)), (3, .int v3)]) hx hb dX2_wayLength_33 rfl hl (by decide) rfl (fun ls hl => ?_)
        obtain ⟨v3_34, ev3_34, h⟩ := lt_s_ h
        refine lv_iinc (pc := 34) (v := v3_34) (lv' := [(3, .int v3_34), (2, .int v2_33), (1, .int v1_24), (0, .ref (ad 22))]) hx hb dX2_wayLength_34 hl (k := 3) rfl (by rw [ev3_34]; rfl) (by decide) rfl (fun ls hl => ?_)
        refine lv_goto (pc := 37) (tgt := 6) hx hb dX2_wayLength_37 (by decide) ?_
        exact ih v1_24 v2_33 v3_34 H locs ls Y (lv_sub hl [3, 2, 1, 0] rfl) h
set_option maxHeartbeats 4000000 in
set_option maxRecDepth 100000 in
theorem c_X2_wayLength {r9 : Int32} (h : f_X2_wayLength C = some r9) : Ct l dC dI ad bd cI cZ yX2_wayLength cX2_wayLength 4 (some .int) rm_X2_wayLength [.ref (ad 22)] C D (some (.int r9)) C D := by
  unfold f_X2_wayLength at h
  refine Ct.intro (own := RX2) (by decide) rfl (Nat.le_of_ble_eq_true rfl) ?_
  intro p e s m args below meth c H locs ls X Y hl
  have hx := X.1
  have hb := X.2.1
  have hl : lv_has ls 4 [(0, .ref (ad 22))] := hl
  refine lv_iconst (pc := 0) (v := 0) hx hb dX2_wayLength_0 (by decide) ?_
  refine lv_istore_n (pc := 1) (lv' := [(1, .int 0), (0, .ref (ad 22))]) hx hb dX2_wayLength_1 rfl hl (by decide) rfl (fun ls hl => ?_)
  refine lv_iconst (pc := 2) (v := 0) hx hb dX2_wayLength_2 (by decide) ?_
  refine lv_istore_n (pc := 3) (lv' := [(2, .int 0), (1, .int 0), (0, .ref (ad 22))]) hx hb dX2_wayLength_3 rfl hl (by decide) rfl (fun ls hl => ?_)
  refine lv_iconst (pc := 4) (v := 0) hx hb dX2_wayLength_4 (by decide) ?_
  refine lv_istore_n (pc := 5) (lv' := [(3, .int 0), (2, .int 0), (1, .int 0), (0, .ref (ad 22))]) hx hb dX2_wayLength_5 rfl hl (by decide) rfl (fun ls hl => ?_)
  refine WL_X2_wayLength_6 C X (fun v1_40 H locs ls Y hl h => ?_) FU 0 0 0 H locs ls Y (lv_sub hl [3, 2, 1, 0] rfl) h
  refine lv_iload_n (pc := 40) hx hb dX2_wayLength_40 rfl (lv_at hl 0 rfl) ?_
  have hr9 := ret_p h
  exact fin_i (pc := 41) X rfl Y hr9 rfl rfl dX2_wayLength_41
abbrev rm_X2_choiceAt : Room := { frames := 0, cells := 0, slots := 0, locals := 0 }
set_option maxHeartbeats 4000000 in
set_option maxRecDepth 100000 in
theorem WL_X2_choiceAt_4 {r9 : Int32} (v1 : Int32) (C : Mem) (X : Cx p s m args meth c cX2_choiceAt RX2 4 (some .int) dC dI ad bd cI cZ) {kx : Option Int32} (hkx : ∀ (H : Heap) (locs : List Loc) (ls : Array Slot), Ys s dC dI ad bd cI cZ C D H locs → lv_has ls 4 [] → kx = some r9 → W p l e rm_X2_choiceAt s m args below meth c H locs 0 0 (MQ below (QC (some (.int r9)) dC dI ad bd cI cZ C D) args s 0 0 (AD ad bd)) (F0 m 47 ls [])) : ∀ (n_ : Nat) (v2 : Int32) (v3 : Int32) (H : Heap) (locs : List Loc) (ls : Array Slot), Ys s dC dI ad bd cI cZ C D H locs → lv_has ls 4 [(0, .ref (ad 22)), (1, .int v1), (2, .int v2), (3, .int v3)] → L_X2_choiceAt_4 v1 C kx n_ v2 v3 = some r9 → W p l e rm_X2_choiceAt s m args below meth c H locs 0 0 (MQ below (QC (some (.int r9)) dC dI ad bd cI cZ C D) args s 0 0 (AD ad bd)) (F0 m 4 ls []) := by
  have hx := X.1
  have hb := X.2.1
  intro n_
  induction n_ with
  | zero =>
    intro v2 v3 H locs ls Y hl h
    cases h
  | succ n_ ih =>
    intro v2 v3 H locs ls Y hl h
    unfold L_X2_choiceAt_4 at h
    refine lv_iload_n (pc := 4) hx hb dX2_choiceAt_4 rfl (lv_at hl 3 rfl) ?_
    refine lv_aload_n (pc := 5) hx hb dX2_choiceAt_5 rfl (lv_at hl 0 rfl) ?_
    refine gf_X2_50 (pc := 6) X Y dX2_choiceAt_6 ?_
    refine lv_icmp_ge (pc := 9) (tgt := 47) hx hb dX2_choiceAt_9 (by decide) (fun c_9 => ?_) (fun c_9 => ?_)
    · have h := itp c_9 h
      exact hkx  H locs ls Y (lv_sub hl [] rfl) h
    · have h := itn c_9 h
      refine lv_aload_n (pc := 12) hx hb dX2_choiceAt_12 rfl (lv_at hl 0 rfl) ?_
      refine gf_X2_27 (pc := 13) X Y dX2_choiceAt_13 ?_
      refine lv_iload_n (pc := 16) hx hb dX2_choiceAt_16 rfl (lv_at hl 2 rfl) ?_
      obtain ⟨g_17, h⟩ := gd_s h
      refine r_ialdc (pc := 17) X Y (ca_28 ad cI) g_17 dX2_choiceAt_17 ?_
      refine lv_iconst (pc := 18) (v := (-1)) hx hb dX2_choiceAt_18 (by decide) ?_
      refine lv_icmp_eq (pc := 19) (tgt := 47) hx hb dX2_choiceAt_19 (by decide) (fun c_19 => ?_) (fun c_19 => ?_)
      · have h := itp c_19 h
        exact hkx  H locs ls Y (lv_sub hl [] rfl) h
      · have h := itn c_19 h
        refine lv_aload_n (pc := 22) hx hb dX2_choiceAt_22 rfl (lv_at hl 0 rfl) ?_
        refine gf_X2_27 (pc := 23) X Y dX2_choiceAt_23 ?_
        refine lv_iload_n (pc := 26) hx hb dX2_choiceAt_26 rfl (lv_at hl 2 rfl) ?_
        obtain ⟨g_27, h⟩ := gd_s h
        refine r_ialdc (pc := 27) X Y (ca_28 ad cI) g_27 dX2_choiceAt_27 ?_
        obtain ⟨v2_28, ev2_28, h⟩ := lt_s_ h
        refine top_i ev2_28 ?_
        refine lv_istore_n (pc := 28) (lv' := [(2, .int v2_28), (0, .ref (ad 22)), (1, .int v1), (3, .int v3)]) hx hb dX2_choiceAt_28 rfl hl (by decide) rfl (fun ls hl => ?_)
        refine lv_iload_n (pc := 29) hx hb dX2_choiceAt_29 rfl (lv_at hl 3 rfl) ?_
        refine lv_iload_n (pc := 30) hx hb dX2_choiceAt_30 rfl (lv_at hl 2 rfl) ?_
        refine lv_icmp_ne (pc := 31) (tgt := 41) hx hb dX2_choiceAt_31 (by decide) (fun c_31 => ?_) (fun c_31 => ?_)
        · have h := itn c_31 h
          obtain ⟨v3_41, ev3_41, h⟩ := lt_s_ h
          refine lv_iinc (pc := 41) (v := v3_41) (lv' := [(3, .int v3_41), (2, .int v2_28), (0, .ref (ad 22)), (1, .int v1)]) hx hb dX2_choiceAt_41 hl (k := 3) rfl (by rw [ev3_41]; rfl) (by decide) rfl (fun ls hl => ?_)
          refine lv_goto (pc := 44) (tgt := 4) hx hb dX2_choiceAt_44 (by decide) ?_
          exact ih v2_28 v3_41 H locs ls Y (lv_sub hl [2, 3, 1, 0] rfl) h
        · have h := itp c_31 h
          refine lv_aload_n (pc := 34) hx hb dX2_choiceAt_34 rfl (lv_at hl 1 rfl) ?_
          refine gf_X2_18 (pc := 35) X Y dX2_choiceAt_35 ?_
          refine lv_iload_n (pc := 38) hx hb dX2_choiceAt_38 rfl (lv_at hl 0 rfl) ?_
          obtain ⟨g_39, h⟩ := gd_s h
          refine r_ialdc (pc := 39) X Y (ca_25 ad cI) g_39 dX2_choiceAt_39 ?_
          have hr9 := ret_p h
          exact fin_i (pc := 40) X rfl Y hr9 rfl rfl dX2_choiceAt_40
set_option maxHeartbeats 4000000 in
set_option maxRecDepth 100000 in
theorem c_X2_choiceAt {r9 : Int32} (v1 : Int32) (h : f_X2_choiceAt v1 C = some r9) : Ct l dC dI ad bd cI cZ yX2_choiceAt cX2_choiceAt 4 (some .int) rm_X2_choiceAt [.ref (ad 22), .int v1] C D (some (.int r9)) C D := by
  unfold f_X2_choiceAt at h
  refine Ct.intro (own := RX2) (by decide) rfl (Nat.le_of_ble_eq_true rfl) ?_
  intro p e s m args below meth c H locs ls X Y hl
  have hx := X.1
  have hb := X.2.1
  have hl : lv_has ls 4 [(0, .ref (ad 22)), (1, .int v1)] := hl
  refine lv_iconst (pc := 0) (v := 0) hx hb dX2_choiceAt_0 (by decide) ?_
  refine lv_istore_n (pc := 1) (lv' := [(2, .int 0), (0, .ref (ad 22)), (1, .int v1)]) hx hb dX2_choiceAt_1 rfl hl (by decide) rfl (fun ls hl => ?_)
  refine lv_iconst (pc := 2) (v := 0) hx hb dX2_choiceAt_2 (by decide) ?_
  refine lv_istore_n (pc := 3) (lv' := [(3, .int 0), (2, .int 0), (0, .ref (ad 22)), (1, .int v1)]) hx hb dX2_choiceAt_3 rfl hl (by decide) rfl (fun ls hl => ?_)
  refine WL_X2_choiceAt_4 v1 C X (fun H locs ls Y hl h => ?_) FU 0 0 H locs ls Y (lv_sub hl [2, 3, 1, 0] rfl) h
  refine lv_iconst (pc := 47) (v := (-1)) hx hb dX2_choiceAt_47 (by decide) ?_
  have hr9 := ret_p h
  exact fin_i (pc := 48) X rfl Y hr9 rfl rfl dX2_choiceAt_48
abbrev rm_X2_leastAngerThatMatters : Room := { frames := 3, cells := 0, slots := 0, locals := 71 }
set_option maxHeartbeats 4000000 in
set_option maxRecDepth 100000 in
theorem WL_X2_leastAngerThatMatters_14 {r9 : Int32} {C9 : Mem} (v1 : Int32) (X : Cx p s m args meth c cX2_leastAngerThatMatters RX2 3 (some .int) dC dI ad bd cI cZ) {kx : Mem → Option (Int32 × Mem)} (hkx : ∀ (C' : Mem) (H : Heap) (locs : List Loc) (ls : Array Slot), Ys s dC dI ad bd cI cZ C' D H locs → lv_has ls 3 [] → kx C' = some (r9, C9) → W p l e rm_X2_leastAngerThatMatters s m args below meth c H locs 0 0 (MQ below (QC (some (.int r9)) dC dI ad bd cI cZ C9 D) args s 0 0 (AD ad bd)) (F0 m 43 ls [])) : ∀ (n_ : Nat) (v2 : Int32) (C : Mem) (H : Heap) (locs : List Loc) (ls : Array Slot), Ys s dC dI ad bd cI cZ C D H locs → lv_has ls 3 [(0, .ref (ad 22)), (1, .int v1), (2, .int v2)] → L_X2_leastAngerThatMatters_14 v1 kx n_ v2 C = some (r9, C9) → W p l e rm_X2_leastAngerThatMatters s m args below meth c H locs 0 0 (MQ below (QC (some (.int r9)) dC dI ad bd cI cZ C9 D) args s 0 0 (AD ad bd)) (F0 m 14 ls []) := by
  have hx := X.1
  have hb := X.2.1
  intro n_
  induction n_ with
  | zero =>
    intro v2 C H locs ls Y hl h
    cases h
  | succ n_ ih =>
    intro v2 C H locs ls Y hl h
    unfold L_X2_leastAngerThatMatters_14 at h
    refine lv_iload_n (pc := 14) hx hb dX2_leastAngerThatMatters_14 rfl (lv_at hl 2 rfl) ?_
    refine lv_bipush (pc := 15) (v := 40) hx hb dX2_leastAngerThatMatters_15 (by decide) ?_
    refine lv_icmp_gt (pc := 17) (tgt := 43) hx hb dX2_leastAngerThatMatters_17 (by decide) (fun c_17 => ?_) (fun c_17 => ?_)
    · have h := itp c_17 h
      exact hkx C H locs ls Y (lv_sub hl [] rfl) h
    · have h := itn c_17 h
      refine lv_aload_n (pc := 20) hx hb dX2_leastAngerThatMatters_20 rfl (lv_at hl 0 rfl) ?_
      refine lv_iload_n (pc := 21) hx hb dX2_leastAngerThatMatters_21 rfl (lv_at hl 2 rfl) ?_
      obtain ⟨C_22, e_22, h⟩ := bnd_s h
      refine call_vv (pc := 22) (rest := []) [.int v2] X Y (c_X2_solve v2 e_22) sw_X2_96 (rv_X2 X Y) rfl ⟨rfl, rfl, Nat.le_of_ble_eq_true rfl, Nat.le_of_ble_eq_true rfl⟩ hl rfl (Nat.le_of_ble_eq_true rfl) dX2_leastAngerThatMatters_22 (fun H locs Y => ?_)
      refine lv_aload_n (pc := 25) hx hb dX2_leastAngerThatMatters_25 rfl (lv_at hl 0 rfl) ?_
      refine gf_X2_30 (pc := 26) X Y dX2_leastAngerThatMatters_26 ?_
      refine lv_iconst (pc := 29) (v := 0) hx hb dX2_leastAngerThatMatters_29 (by decide) ?_
      obtain ⟨g_30, h⟩ := gd_s h
      refine r_ialdc (pc := 30) X Y (ca_29 ad cI) g_30 dX2_leastAngerThatMatters_30 ?_
      refine lv_iload_n (pc := 31) hx hb dX2_leastAngerThatMatters_31 rfl (lv_at hl 1 rfl) ?_
      refine lv_icmp_eq (pc := 32) (tgt := 37) hx hb dX2_leastAngerThatMatters_32 (by decide) (fun c_32 => ?_) (fun c_32 => ?_)
      · have h := itp c_32 h
        obtain ⟨v2_37, ev2_37, h⟩ := lt_s_ h
        refine lv_iinc (pc := 37) (v := v2_37) (lv' := [(2, .int v2_37), (0, .ref (ad 22)), (1, .int v1)]) hx hb dX2_leastAngerThatMatters_37 hl (k := 2) rfl (by rw [ev2_37]; rfl) (by decide) rfl (fun ls hl => ?_)
        refine lv_goto (pc := 40) (tgt := 14) hx hb dX2_leastAngerThatMatters_40 (by decide) ?_
        exact ih v2_37 C_22 H locs ls Y (lv_sub hl [1, 2, 0] rfl) h
      · have h := itn c_32 h
        refine lv_iload_n (pc := 35) hx hb dX2_leastAngerThatMatters_35 rfl (lv_at hl 2 rfl) ?_
        obtain ⟨hr9, hm9⟩ := ret_e h
        exact fin_i (pc := 36) X rfl Y hr9 hm9 rfl dX2_leastAngerThatMatters_36
set_option maxHeartbeats 4000000 in
set_option maxRecDepth 100000 in
theorem c_X2_leastAngerThatMatters {r9 : Int32} {C9 : Mem} (h : f_X2_leastAngerThatMatters C = some (r9, C9)) : Ct l dC dI ad bd cI cZ yX2_leastAngerThatMatters cX2_leastAngerThatMatters 3 (some .int) rm_X2_leastAngerThatMatters [.ref (ad 22)] C D (some (.int r9)) C9 D := by
  unfold f_X2_leastAngerThatMatters at h
  refine Ct.intro (own := RX2) (by decide) rfl (Nat.le_of_ble_eq_true rfl) ?_
  intro p e s m args below meth c H locs ls X Y hl
  have hx := X.1
  have hb := X.2.1
  have hl : lv_has ls 3 [(0, .ref (ad 22))] := hl
  refine lv_aload_n (pc := 0) hx hb dX2_leastAngerThatMatters_0 rfl (lv_at hl 0 rfl) ?_
  refine lv_iconst (pc := 1) (v := 0) hx hb dX2_leastAngerThatMatters_1 (by decide) ?_
  obtain ⟨C_2, e_2, h⟩ := bnd_s h
  refine call_vv (pc := 2) (rest := []) [.int 0] X Y (c_X2_solve 0 e_2) sw_X2_96 (rv_X2 X Y) rfl ⟨rfl, rfl, Nat.le_of_ble_eq_true rfl, Nat.le_of_ble_eq_true rfl⟩ hl rfl (Nat.le_of_ble_eq_true rfl) dX2_leastAngerThatMatters_2 (fun H locs Y => ?_)
  refine lv_aload_n (pc := 5) hx hb dX2_leastAngerThatMatters_5 rfl (lv_at hl 0 rfl) ?_
  refine gf_X2_30 (pc := 6) X Y dX2_leastAngerThatMatters_6 ?_
  refine lv_iconst (pc := 9) (v := 0) hx hb dX2_leastAngerThatMatters_9 (by decide) ?_
  obtain ⟨g_10, h⟩ := gd_s h
  refine r_ialdc (pc := 10) X Y (ca_29 ad cI) g_10 dX2_leastAngerThatMatters_10 ?_
  obtain ⟨v1_11, ev1_11, h⟩ := lt_s_ h
  refine top_i ev1_11 ?_
  refine lv_istore_n (pc := 11) (lv' := [(1, .int v1_11), (0, .ref (ad 22))]) hx hb dX2_leastAngerThatMatters_11 rfl hl (by decide) rfl (fun ls hl => ?_)
  refine lv_iconst (pc := 12) (v := 1) hx hb dX2_leastAngerThatMatters_12 (by decide) ?_
  refine lv_istore_n (pc := 13) (lv' := [(2, .int 1), (1, .int v1_11), (0, .ref (ad 22))]) hx hb dX2_leastAngerThatMatters_13 rfl hl (by decide) rfl (fun ls hl => ?_)
  refine WL_X2_leastAngerThatMatters_14 v1_11 X (fun C_43 H locs ls Y hl h => ?_) FU 1 C_2 H locs ls Y (lv_sub hl [2, 1, 0] rfl) h
  refine lv_iconst (pc := 43) (v := (-1)) hx hb dX2_leastAngerThatMatters_43 (by decide) ?_
  obtain ⟨hr9, hm9⟩ := ret_e h
  exact fin_i (pc := 44) X rfl Y hr9 hm9 rfl dX2_leastAngerThatMatters_44
abbrev rm_X3_clear : Room := { frames := 0, cells := 0, slots := 0, locals := 0 }
set_option maxHeartbeats 4000000 in
set_option maxRecDepth 100000 in
theorem c_X3_clear {C9 : Mem} (h : f_X3_clear C = some C9) : Ct l dC dI ad bd cI cZ yX3_clear cX3_clear 1 (none) rm_X3_clear [.ref (ad 32)] C D (none) C9 D := by
  unfold f_X3_clear at h
  refine Ct.intro (own := RX3) (by decide) rfl (Nat.le_of_ble_eq_true rfl) ?_
  intro p e s m args below meth c H locs ls X Y hl
  have hx := X.1
  have hb := X.2.1
  have hl : lv_has ls 1 [(0, .ref (ad 32))] := hl
  refine lv_aload_n (pc := 0) hx hb dX3_clear_0 rfl (lv_at hl 0 rfl) ?_
  refine lv_iconst (pc := 1) (v := 0) hx hb dX3_clear_1 (by decide) ?_
  obtain ⟨C_2, hC_2, h⟩ := sto_s h
  refine pf_X3_21 (pc := 2) X Y hC_2 dX3_clear_2 (fun H locs Y => ?_)
  have hm9 := ret_v h
  exact fin_v (pc := 5) X rfl Y hm9 rfl dX3_clear_5
abbrev rm_X3_learn : Room := { frames := 0, cells := 0, slots := 0, locals := 0 }
set_option maxHeartbeats 4000000 in
set_option maxRecDepth 100000 in
theorem WB_X3_learn_44 {C9 : Mem} {t : Nat} (ht : tl t) (x1 : Int32) (x2 : Int32) (C : Mem) (X : Cx p s m args meth c cX3_learn RX3 3 (none) dC dI ad bd cI cZ) {H : Heap} {locs : List Loc} {ls : Array Slot} (Y : Ys s dC dI ad bd cI cZ C D H locs) (hl : lv_has ls 3 []) (h : B_X3_learn_44 x1 x2 C = some C9) : W p l e rm_X3_learn s m args below meth c H locs 0 0 (MQ below (QC (none) dC dI ad bd cI cZ C9 D) args s 0 0 (AD ad bd)) (F0 m 44 ls [.int x2, .int x1, .ref (ad 32)]) := by
  have hx := X.1
  have hb := X.2.1
  unfold B_X3_learn_44 at h
  refine lv_iadd (pc := 44) hx hb dX3_learn_44 ?_
  obtain ⟨C_45, hC_45, h⟩ := sto_s h
  refine pf_X3_21 (pc := 45) X Y hC_45 dX3_learn_45 (fun H locs Y => ?_)
  have hm9 := ret_v h
  exact fin_v (pc := 48) X rfl Y hm9 rfl dX3_learn_48
set_option maxHeartbeats 4000000 in
set_option maxRecDepth 100000 in
theorem c_X3_learn {C9 : Mem} (v1 : Int32) (t : Nat) (ht : tl t) (h : f_X3_learn v1 t C = some C9) : Ct l dC dI ad bd cI cZ yX3_learn cX3_learn 3 (none) rm_X3_learn [.ref (ad 32), .int v1, .ref (ad t)] C D (none) C9 D := by
  unfold f_X3_learn at h
  refine Ct.intro (own := RX3) (by decide) rfl (Nat.le_of_ble_eq_true rfl) ?_
  intro p e s m args below meth c H locs ls X Y hl
  have hx := X.1
  have hb := X.2.1
  have hl : lv_has ls 3 [(0, .ref (ad 32)), (1, .int v1), (2, .ref (ad t))] := hl
  refine lv_aload_n (pc := 0) hx hb dX3_learn_0 rfl (lv_at hl 0 rfl) ?_
  refine gf_X3_9 (pc := 1) X Y dX3_learn_1 ?_
  refine lv_iload_n (pc := 4) hx hb dX3_learn_4 rfl (lv_at hl 1 rfl) ?_
  refine lv_aload_n (pc := 5) hx hb dX3_learn_5 rfl (lv_at hl 2 rfl) ?_
  refine gf_X3_25 (pc := 6) X Y ht dX3_learn_6 ?_
  obtain ⟨g_9, h⟩ := gd_s h
  obtain ⟨C_9, hC_9, h⟩ := sto_s h
  refine r_iastc (pc := 9) X Y (ca_33 ad cI) g_9 hC_9 dX3_learn_9 (fun H locs Y => ?_)
  refine lv_aload_n (pc := 10) hx hb dX3_learn_10 rfl (lv_at hl 0 rfl) ?_
  refine gf_X3_15 (pc := 11) X Y dX3_learn_11 ?_
  refine lv_iload_n (pc := 14) hx hb dX3_learn_14 rfl (lv_at hl 1 rfl) ?_
  refine lv_aload_n (pc := 15) hx hb dX3_learn_15 rfl (lv_at hl 2 rfl) ?_
  refine gf_X3_29 (pc := 16) X Y ht dX3_learn_16 ?_
  obtain ⟨g_19, h⟩ := gd_s h
  obtain ⟨C_19, hC_19, h⟩ := sto_s h
  refine r_iastc (pc := 19) X Y (ca_34 ad cI) g_19 hC_19 dX3_learn_19 (fun H locs Y => ?_)
  refine lv_aload_n (pc := 20) hx hb dX3_learn_20 rfl (lv_at hl 0 rfl) ?_
  refine gf_X3_18 (pc := 21) X Y dX3_learn_21 ?_
  refine lv_iload_n (pc := 24) hx hb dX3_learn_24 rfl (lv_at hl 1 rfl) ?_
  refine lv_iload_n (pc := 25) hx hb dX3_learn_25 rfl (lv_at hl 1 rfl) ?_
  obtain ⟨g_26, h⟩ := gd_s h
  obtain ⟨C_26, hC_26, h⟩ := sto_s h
  refine r_iastc (pc := 26) X Y (ca_35 ad cI) g_26 hC_26 dX3_learn_26 (fun H locs Y => ?_)
  refine lv_aload_n (pc := 27) hx hb dX3_learn_27 rfl (lv_at hl 0 rfl) ?_
  refine lv_dup (pc := 28) hx hb dX3_learn_28 rfl ?_
  refine gf_X3_21 (pc := 29) X Y dX3_learn_29 ?_
  refine lv_aload_n (pc := 32) hx hb dX3_learn_32 rfl (lv_at hl 2 rfl) ?_
  refine gf_X3_29 (pc := 33) X Y ht dX3_learn_33 ?_
  refine lv_if_le (pc := 36) (tgt := 43) hx hb dX3_learn_36 (by decide) (fun c_36 => ?_) (fun c_36 => ?_)
  · have h := itp c_36 h
    refine lv_iconst (pc := 43) (v := 0) hx hb dX3_learn_43 (by decide) ?_
    exact WB_X3_learn_44 ht (C_26 32 3) 0 C_26 X Y (lv_sub hl [] rfl) h
  · have h := itn c_36 h
    refine lv_iconst (pc := 39) (v := 1) hx hb dX3_learn_39 (by decide) ?_
    refine lv_goto (pc := 40) (tgt := 44) hx hb dX3_learn_40 (by decide) ?_
    exact WB_X3_learn_44 ht (C_26 32 3) 1 C_26 X Y (lv_sub hl [] rfl) h
abbrev rm_X3_isKnown : Room := { frames := 0, cells := 0, slots := 0, locals := 0 }
set_option maxHeartbeats 4000000 in
set_option maxRecDepth 100000 in
theorem c_X3_isKnown {r9 : Bool} (v1 : Int32) (h : f_X3_isKnown v1 C = some r9) : Ct l dC dI ad bd cI cZ yX3_isKnown cX3_isKnown 2 (some .boolean) rm_X3_isKnown [.ref (ad 32), .int v1] C D (some (.int (b2i r9))) C D := by
  unfold f_X3_isKnown at h
  refine Ct.intro (own := RX3) (by decide) rfl (Nat.le_of_ble_eq_true rfl) ?_
  intro p e s m args below meth c H locs ls X Y hl
  have hx := X.1
  have hb := X.2.1
  have hl : lv_has ls 2 [(0, .ref (ad 32)), (1, .int v1)] := hl
  refine lv_aload_n (pc := 0) hx hb dX3_isKnown_0 rfl (lv_at hl 0 rfl) ?_
  refine gf_X3_15 (pc := 1) X Y dX3_isKnown_1 ?_
  refine lv_iload_n (pc := 4) hx hb dX3_isKnown_4 rfl (lv_at hl 1 rfl) ?_
  obtain ⟨g_5, h⟩ := gd_s h
  refine r_ialdc (pc := 5) X Y (ca_34 ad cI) g_5 dX3_isKnown_5 ?_
  refine lv_if_le (pc := 6) (tgt := 13) hx hb dX3_isKnown_6 (by decide) (fun c_6 => ?_) (fun c_6 => ?_)
  · have h := itp c_6 h
    refine lv_iconst (pc := 13) (v := 0) hx hb dX3_isKnown_13 (by decide) ?_
    have hr9 := ret_p h
    exact fin_z (b := false) (pc := 14) X rfl Y rfl hr9 rfl rfl dX3_isKnown_14
  · have h := itn c_6 h
    refine lv_iconst (pc := 9) (v := 1) hx hb dX3_isKnown_9 (by decide) ?_
    refine lv_goto (pc := 10) (tgt := 14) hx hb dX3_isKnown_10 (by decide) ?_
    have hr9 := ret_p h
    exact fin_z (b := true) (pc := 14) X rfl Y rfl hr9 rfl rfl dX3_isKnown_14
abbrev rm_X3_reorder : Room := { frames := 1, cells := 0, slots := 0, locals := 21 }
set_option maxHeartbeats 4000000 in
set_option maxRecDepth 100000 in
theorem WB_X3_reorder_44 {r9 : Bool} {C9 : Mem} (v1 : Int32) (v2 : Int32) (v3 : Int32) (v4 : Int32) (C : Mem) (X : Cx p s m args meth c cX3_reorder RX3 5 (some .boolean) dC dI ad bd cI cZ) {kb : Int32 → Int32 → Mem → Option (Bool × Mem)} (hkb : ∀ (v2' : Int32) (v3' : Int32) (C' : Mem) (H : Heap) (locs : List Loc) (ls : Array Slot), Ys s dC dI ad bd cI cZ C' D H locs → lv_has ls 5 [(0, .ref (ad 32)), (1, .int v1), (2, .int v2'), (3, .int v3')] → kb v2' v3' C' = some (r9, C9) → W p l e rm_X3_reorder s m args below meth c H locs 0 0 (MQ below (QC (some (.int (b2i r9))) dC dI ad bd cI cZ C9 D) args s 0 0 (AD ad bd)) (F0 m 4 ls [])) {H : Heap} {locs : List Loc} {ls : Array Slot} (Y : Ys s dC dI ad bd cI cZ C D H locs) (hl : lv_has ls 5 [(0, .ref (ad 32)), (1, .int v1), (2, .int v2), (3, .int v3), (4, .int v4)]) (h : B_X3_reorder_44 v2 v3 v4 C kb = some (r9, C9)) : W p l e rm_X3_reorder s m args below meth c H locs 0 0 (MQ below (QC (some (.int (b2i r9))) dC dI ad bd cI cZ C9 D) args s 0 0 (AD ad bd)) (F0 m 44 ls []) := by
  have hx := X.1
  have hb := X.2.1
  unfold B_X3_reorder_44 at h
  refine lv_iload_n (pc := 44) hx hb dX3_reorder_44 rfl (lv_at hl 2 rfl) ?_
  refine lv_iconst (pc := 45) (v := 1) hx hb dX3_reorder_45 (by decide) ?_
  refine lv_iload (pc := 46) hx hb dX3_reorder_46 (lv_at hl 4 rfl) ?_
  refine lv_ishl (pc := 48) hx hb dX3_reorder_48 ?_
  refine lv_ior (pc := 49) hx hb dX3_reorder_49 ?_
  obtain ⟨v2_50, ev2_50, h⟩ := lt_s_ h
  refine top_i ev2_50 ?_
  refine lv_istore_n (pc := 50) (lv' := [(2, .int v2_50), (0, .ref (ad 32)), (1, .int v1), (3, .int v3), (4, .int v4)]) hx hb dX3_reorder_50 rfl hl (by decide) rfl (fun ls hl => ?_)
  refine lv_aload_n (pc := 51) hx hb dX3_reorder_51 rfl (lv_at hl 1 rfl) ?_
  refine gf_X3_18 (pc := 52) X Y dX3_reorder_52 ?_
  refine lv_iload_n (pc := 55) hx hb dX3_reorder_55 rfl (lv_at hl 3 rfl) ?_
  refine lv_iload (pc := 56) hx hb dX3_reorder_56 (lv_at hl 4 rfl) ?_
  obtain ⟨g_58, h⟩ := gd_s h
  obtain ⟨C_58, hC_58, h⟩ := sto_s h
  refine r_iastc (pc := 58) X Y (ca_35 ad cI) g_58 hC_58 dX3_reorder_58 (fun H locs Y => ?_)
  obtain ⟨v3_59, ev3_59, h⟩ := lt_s_ h
  refine lv_iinc (pc := 59) (v := v3_59) (lv' := [(3, .int v3_59), (2, .int v2_50), (0, .ref (ad 32)), (1, .int v1), (4, .int v4)]) hx hb dX3_reorder_59 hl (k := 3) rfl (by rw [ev3_59]; rfl) (by decide) rfl (fun ls hl => ?_)
  refine lv_goto (pc := 62) (tgt := 4) hx hb dX3_reorder_62 (by decide) ?_
  exact hkb v2_50 v3_59 C_58 H locs ls Y (lv_sub hl [2, 3, 1, 0] rfl) h
set_option maxHeartbeats 4000000 in
set_option maxRecDepth 100000 in
theorem WL_X3_reorder_4 {r9 : Bool} {C9 : Mem} (v1 : Int32) (X : Cx p s m args meth c cX3_reorder RX3 5 (some .boolean) dC dI ad bd cI cZ) {kx : Mem → Option (Bool × Mem)} (hkx : ∀ (C' : Mem) (H : Heap) (locs : List Loc) (ls : Array Slot), Ys s dC dI ad bd cI cZ C' D H locs → lv_has ls 5 [] → kx C' = some (r9, C9) → W p l e rm_X3_reorder s m args below meth c H locs 0 0 (MQ below (QC (some (.int (b2i r9))) dC dI ad bd cI cZ C9 D) args s 0 0 (AD ad bd)) (F0 m 65 ls [])) : ∀ (n_ : Nat) (v2 : Int32) (v3 : Int32) (C : Mem) (H : Heap) (locs : List Loc) (ls : Array Slot), Ys s dC dI ad bd cI cZ C D H locs → lv_has ls 5 [(0, .ref (ad 32)), (1, .int v1), (2, .int v2), (3, .int v3)] → L_X3_reorder_4 v1 kx n_ v2 v3 C = some (r9, C9) → W p l e rm_X3_reorder s m args below meth c H locs 0 0 (MQ below (QC (some (.int (b2i r9))) dC dI ad bd cI cZ C9 D) args s 0 0 (AD ad bd)) (F0 m 4 ls []) := by
  have hx := X.1
  have hb := X.2.1
  intro n_
  induction n_ with
  | zero =>
    intro v2 v3 C H locs ls Y hl h
    cases h
  | succ n_ ih =>
    intro v2 v3 C H locs ls Y hl h
    unfold L_X3_reorder_4 at h
    refine lv_iload_n (pc := 4) hx hb dX3_reorder_4 rfl (lv_at hl 3 rfl) ?_
    refine lv_iconst (pc := 5) (v := 4) hx hb dX3_reorder_5 (by decide) ?_
    refine lv_icmp_ge (pc := 6) (tgt := 65) hx hb dX3_reorder_6 (by decide) (fun c_6 => ?_) (fun c_6 => ?_)
    · have h := itp c_6 h
      exact hkx C H locs ls Y (lv_sub hl [] rfl) h
    · have h := itn c_6 h
      refine lv_iload_n (pc := 9) hx hb dX3_reorder_9 rfl (lv_at hl 1 rfl) ?_
      refine lv_iconst (pc := 10) (v := 2) hx hb dX3_reorder_10 (by decide) ?_
      refine lv_iload_n (pc := 11) hx hb dX3_reorder_11 rfl (lv_at hl 3 rfl) ?_
      refine lv_imul (pc := 12) hx hb dX3_reorder_12 ?_
      refine lv_ishr (pc := 13) hx hb dX3_reorder_13 ?_
      refine lv_iconst (pc := 14) (v := 3) hx hb dX3_reorder_14 (by decide) ?_
      refine lv_iand (pc := 15) hx hb dX3_reorder_15 ?_
      obtain ⟨v4_16, ev4_16, h⟩ := lt_s_ h
      refine top_i ev4_16 ?_
      refine lv_istore (pc := 16) (lv' := [(4, .int v4_16), (0, .ref (ad 32)), (1, .int v1), (2, .int v2), (3, .int v3)]) hx hb dX3_reorder_16 hl (by decide) rfl (fun ls hl => ?_)
      refine lv_iload_n (pc := 18) hx hb dX3_reorder_18 rfl (lv_at hl 3 rfl) ?_
      refine lv_iload (pc := 19) hx hb dX3_reorder_19 (lv_at hl 0 rfl) ?_
      refine lv_ishr (pc := 21) hx hb dX3_reorder_21 ?_
      refine lv_iconst (pc := 22) (v := 1) hx hb dX3_reorder_22 (by decide) ?_
      refine lv_iand (pc := 23) hx hb dX3_reorder_23 ?_
      refine lv_iconst (pc := 24) (v := 1) hx hb dX3_reorder_24 (by decide) ?_
      refine lv_icmp_eq (pc := 25) (tgt := 42) hx hb dX3_reorder_25 (by decide) (fun c_25 => ?_) (fun c_25 => ?_)
      · have h := itp c_25 h
        refine lv_iconst (pc := 42) (v := 0) hx hb dX3_reorder_42 (by decide) ?_
        obtain ⟨hr9, hm9⟩ := ret_e h
        exact fin_z (b := false) (pc := 43) X rfl Y rfl hr9 hm9 rfl dX3_reorder_43
      · have h := itn c_25 h
        refine lv_aload_n (pc := 28) hx hb dX3_reorder_28 rfl (lv_at hl 1 rfl) ?_
        refine lv_iload_n (pc := 29) hx hb dX3_reorder_29 rfl (lv_at hl 4 rfl) ?_
        obtain ⟨r_30, e_30, h⟩ := bnd_s h
        refine call_vi (pc := 30) (rest := []) [.int v3] X Y (c_X3_isKnown v3 e_30) sw_X3_31 (rv_X3 X Y) rfl ⟨rfl, rfl, Nat.le_of_ble_eq_true rfl, Nat.le_of_ble_eq_true rfl⟩ hl rfl (Nat.le_of_ble_eq_true rfl) dX3_reorder_30 (fun H locs Y => ?_)
        refine lv_if_ne (pc := 33) (tgt := 44) hx hb dX3_reorder_33 (by decide) (fun c_33 => ?_) (fun c_33 => ?_)
        · have h := itp (b2i_t c_33) h
          exact WB_X3_reorder_44 v1 v2 v3 v4_16 C X (kb := (L_X3_reorder_4 v1 kx n_)) ih Y (lv_sub hl [1, 2, 3, 4, 0] rfl) h
        · have h := itn (b2i_f c_33) h
          refine lv_iload (pc := 36) hx hb dX3_reorder_36 (lv_at hl 0 rfl) ?_
          refine lv_iload_n (pc := 38) hx hb dX3_reorder_38 rfl (lv_at hl 4 rfl) ?_
          refine lv_icmp_eq (pc := 39) (tgt := 44) hx hb dX3_reorder_39 (by decide) (fun c_39 => ?_) (fun c_39 => ?_)
          · have h := itp c_39 h
            exact WB_X3_reorder_44 v1 v2 v3 v4_16 C X (kb := (L_X3_reorder_4 v1 kx n_)) ih Y (lv_sub hl [1, 2, 3, 4, 0] rfl) h
          · have h := itn c_39 h
            refine lv_iconst (pc := 42) (v := 0) hx hb dX3_reorder_42 (by decide) ?_
            obtain ⟨hr9, hm9⟩ := ret_e h
            exact fin_z (b := false) (pc := 43) X rfl Y rfl hr9 hm9 rfl dX3_reorder_43
set_option maxHeartbeats 4000000 in
set_option maxRecDepth 100000 in
theorem c_X3_reorder {r9 : Bool} {C9 : Mem} (v1 : Int32) (h : f_X3_reorder v1 C = some (r9, C9)) : Ct l dC dI ad bd cI cZ yX3_reorder cX3_reorder 5 (some .boolean) rm_X3_reorder [.ref (ad 32), .int v1] C D (some (.int (b2i r9))) C9 D := by
  unfold f_X3_reorder at h
  refine Ct.intro (own := RX3) (by decide) rfl (Nat.le_of_ble_eq_true rfl) ?_
  intro p e s m args below meth c H locs ls X Y hl
  have hx := X.1
  have hb := X.2.1
  have hl : lv_has ls 5 [(0, .ref (ad 32)), (1, .int v1)] := hl
  refine lv_iconst (pc := 0) (v := 0) hx hb dX3_reorder_0 (by decide) ?_
  refine lv_istore_n (pc := 1) (lv' := [(2, .int 0), (0, .ref (ad 32)), (1, .int v1)]) hx hb dX3_reorder_1 rfl hl (by decide) rfl (fun ls hl => ?_)
  refine lv_iconst (pc := 2) (v := 0) hx hb dX3_reorder_2 (by decide) ?_
  refine lv_istore_n (pc := 3) (lv' := [(3, .int 0), (2, .int 0), (0, .ref (ad 32)), (1, .int v1)]) hx hb dX3_reorder_3 rfl hl (by decide) rfl (fun ls hl => ?_)
  refine WL_X3_reorder_4 v1 X (fun C_65 H locs ls Y hl h => ?_) FU 0 0 C H locs ls Y (lv_sub hl [2, 3, 1, 0] rfl) h
  refine lv_iconst (pc := 65) (v := 1) hx hb dX3_reorder_65 (by decide) ?_
  obtain ⟨hr9, hm9⟩ := ret_e h
  exact fin_z (b := true) (pc := 66) X rfl Y rfl hr9 hm9 rfl dX3_reorder_66
abbrev rm_X3_order : Room := { frames := 1, cells := 0, slots := 0, locals := 21 }
set_option maxHeartbeats 4000000 in
set_option maxRecDepth 100000 in
theorem c_X3_order {r9 : Int32} (v1 : Int32) (v2 : Int32) (h : f_X3_order v1 v2 C = some r9) : Ct l dC dI ad bd cI cZ yX3_order cX3_order 5 (some .int) rm_X3_order [.ref (ad 32), .int v1, .int v2] C D (some (.int r9)) C D := by
  unfold f_X3_order at h
  refine Ct.intro (own := RX3) (by decide) rfl (Nat.le_of_ble_eq_true rfl) ?_
  intro p e s m args below meth c H locs ls X Y hl
  have hx := X.1
  have hb := X.2.1
  have hl : lv_has ls 5 [(0, .ref (ad 32)), (1, .int v1), (2, .int v2)] := hl
  refine lv_aload_n (pc := 0) hx hb dX3_order_0 rfl (lv_at hl 0 rfl) ?_
  refine gf_X3_18 (pc := 1) X Y dX3_order_1 ?_
  refine lv_iload_n (pc := 4) hx hb dX3_order_4 rfl (lv_at hl 1 rfl) ?_
  obtain ⟨g_5, h⟩ := gd_s h
  refine r_ialdc (pc := 5) X Y (ca_35 ad cI) g_5 dX3_order_5 ?_
  obtain ⟨v3_6, ev3_6, h⟩ := lt_s_ h
  refine top_i ev3_6 ?_
  refine lv_istore_n (pc := 6) (lv' := [(3, .int v3_6), (0, .ref (ad 32)), (1, .int v1), (2, .int v2)]) hx hb dX3_order_6 rfl hl (by decide) rfl (fun ls hl => ?_)
  refine lv_aload_n (pc := 7) hx hb dX3_order_7 rfl (lv_at hl 1 rfl) ?_
  refine gf_X3_18 (pc := 8) X Y dX3_order_8 ?_
  refine lv_iload_n (pc := 11) hx hb dX3_order_11 rfl (lv_at hl 3 rfl) ?_
  obtain ⟨g_12, h⟩ := gd_s h
  refine r_ialdc (pc := 12) X Y (ca_35 ad cI) g_12 dX3_order_12 ?_
  obtain ⟨v4_13, ev4_13, h⟩ := lt_s_ h
  refine top_i ev4_13 ?_
  refine lv_istore (pc := 13) (lv' := [(4, .int v4_13), (3, .int v3_6), (0, .ref (ad 32)), (1, .int v1), (2, .int v2)]) hx hb dX3_order_13 hl (by decide) rfl (fun ls hl => ?_)
  refine lv_aload_n (pc := 15) hx hb dX3_order_15 rfl (lv_at hl 2 rfl) ?_
  refine gf_X3_9 (pc := 16) X Y dX3_order_16 ?_
  refine lv_iload_n (pc := 19) hx hb dX3_order_19 rfl (lv_at hl 1 rfl) ?_
  obtain ⟨g_20, h⟩ := gd_s h
  refine r_ialdc (pc := 20) X Y (ca_33 ad cI) g_20 dX3_order_20 ?_
  refine lv_aload_n (pc := 21) hx hb dX3_order_21 rfl (lv_at hl 2 rfl) ?_
  refine gf_X3_15 (pc := 22) X Y dX3_order_22 ?_
  refine lv_iload (pc := 25) hx hb dX3_order_25 (lv_at hl 0 rfl) ?_
  obtain ⟨g_27, h⟩ := gd_s h
  refine r_ialdc (pc := 27) X Y (ca_34 ad cI) g_27 dX3_order_27 ?_
  refine lv_imul (pc := 28) hx hb dX3_order_28 ?_
  refine lv_aload_n (pc := 29) hx hb dX3_order_29 rfl (lv_at hl 2 rfl) ?_
  refine gf_X3_9 (pc := 30) X Y dX3_order_30 ?_
  refine lv_iload (pc := 33) hx hb dX3_order_33 (lv_at hl 0 rfl) ?_
  obtain ⟨g_35, h⟩ := gd_s h
  refine r_ialdc (pc := 35) X Y (ca_33 ad cI) g_35 dX3_order_35 ?_
  refine lv_aload_n (pc := 36) hx hb dX3_order_36 rfl (lv_at hl 2 rfl) ?_
  refine gf_X3_15 (pc := 37) X Y dX3_order_37 ?_
  refine lv_iload_n (pc := 40) hx hb dX3_order_40 rfl (lv_at hl 1 rfl) ?_
  obtain ⟨g_41, h⟩ := gd_s h
  refine r_ialdc (pc := 41) X Y (ca_34 ad cI) g_41 dX3_order_41 ?_
  refine lv_imul (pc := 42) hx hb dX3_order_42 ?_
  refine call_si (pc := 43) (rest := []) [.int ((C 33 v3_6.toNatClampNeg) * (C 34 v4_13.toNatClampNeg)), .int ((C 33 v4_13.toNatClampNeg) * (C 34 v3_6.toNatClampNeg))] X Y (c_J6_compare_7cf53 ((C 33 v3_6.toNatClampNeg) * (C 34 v4_13.toNatClampNeg)) ((C 33 v4_13.toNatClampNeg) * (C 34 v3_6.toNatClampNeg))) sw_X3_35 rfl ⟨rfl, rfl, Nat.le_of_ble_eq_true rfl, Nat.le_of_ble_eq_true rfl⟩ hl rfl (Nat.le_of_ble_eq_true rfl) dX3_order_43 (fun H locs Y => ?_)
  have hr9 := ret_p h
  exact fin_i (pc := 46) X rfl Y hr9 rfl rfl dX3_order_46
abbrev rm_X10_has : Room := { frames := 0, cells := 0, slots := 0, locals := 0 }
set_option maxHeartbeats 4000000 in
set_option maxRecDepth 100000 in
theorem c_X10_has (v1 : Int32) : Ct l dC dI ad bd cI cZ yX10_has cX10_has 2 (some .boolean) rm_X10_has [.ref (ad 36), .int v1] C D (some (.int (b2i (f_X10_has v1 C)))) C D := by
  obtain ⟨r9, h⟩ : ∃ r9, f_X10_has v1 C = r9 := ⟨_, rfl⟩
  rw [h]
  unfold f_X10_has at h
  refine Ct.intro (own := RX10) (by decide) rfl (Nat.le_of_ble_eq_true rfl) ?_
  intro p e s m args below meth c H locs ls X Y hl
  have hx := X.1
  have hb := X.2.1
  have hl : lv_has ls 2 [(0, .ref (ad 36)), (1, .int v1)] := hl
  refine lv_iload_n (pc := 0) hx hb dX10_has_0 rfl (lv_at hl 1 rfl) ?_
  refine lv_if_lt (pc := 1) (tgt := 16) hx hb dX10_has_1 (by decide) (fun c_1 => ?_) (fun c_1 => ?_)
  · have h := itp c_1 h
    refine lv_iconst (pc := 16) (v := 0) hx hb dX10_has_16 (by decide) ?_
    have hr9 := h
    exact fin_z (b := false) (pc := 17) X rfl Y rfl hr9 rfl rfl dX10_has_17
  · have h := itn c_1 h
    refine lv_iload_n (pc := 4) hx hb dX10_has_4 rfl (lv_at hl 1 rfl) ?_
    refine lv_aload_n (pc := 5) hx hb dX10_has_5 rfl (lv_at hl 0 rfl) ?_
    refine gf_X10_15 (pc := 6) X Y dX10_has_6 ?_
    refine lv_icmp_ge (pc := 9) (tgt := 16) hx hb dX10_has_9 (by decide) (fun c_9 => ?_) (fun c_9 => ?_)
    · have h := itp c_9 h
      refine lv_iconst (pc := 16) (v := 0) hx hb dX10_has_16 (by decide) ?_
      have hr9 := h
      exact fin_z (b := false) (pc := 17) X rfl Y rfl hr9 rfl rfl dX10_has_17
    · have h := itn c_9 h
      refine lv_iconst (pc := 12) (v := 1) hx hb dX10_has_12 (by decide) ?_
      refine lv_goto (pc := 13) (tgt := 17) hx hb dX10_has_13 (by decide) ?_
      have hr9 := h
      exact fin_z (b := true) (pc := 17) X rfl Y rfl hr9 rfl rfl dX10_has_17
abbrev rm_X10_add : Room := { frames := 0, cells := 0, slots := 0, locals := 0 }
set_option maxHeartbeats 4000000 in
set_option maxRecDepth 100000 in
theorem c_X10_add {r9 : Int32} {C9 : Mem} (v1 : Int32) (v2 : Int32) (v3 : Int32) (v4 : Int32) (h : f_X10_add v1 v2 v3 v4 C = some (r9, C9)) : Ct l dC dI ad bd cI cZ yX10_add cX10_add 6 (some .int) rm_X10_add [.ref (ad 36), .int v1, .int v2, .int v3, .int v4] C D (some (.int r9)) C9 D := by
  unfold f_X10_add at h
  refine Ct.intro (own := RX10) (by decide) rfl (Nat.le_of_ble_eq_true rfl) ?_
  intro p e s m args below meth c H locs ls X Y hl
  have hx := X.1
  have hb := X.2.1
  have hl : lv_has ls 6 [(0, .ref (ad 36)), (1, .int v1), (2, .int v2), (3, .int v3), (4, .int v4)] := hl
  refine lv_aload_n (pc := 0) hx hb dX10_add_0 rfl (lv_at hl 0 rfl) ?_
  refine gf_X10_15 (pc := 1) X Y dX10_add_1 ?_
  refine lv_bipush (pc := 4) (v := 6) hx hb dX10_add_4 (by decide) ?_
  refine lv_icmp_lt (pc := 6) (tgt := 12) hx hb dX10_add_6 (by decide) (fun c_6 => ?_) (fun c_6 => ?_)
  · have h := itp c_6 h
    refine lv_aload_n (pc := 12) hx hb dX10_add_12 rfl (lv_at hl 0 rfl) ?_
    refine gf_X10_15 (pc := 13) X Y dX10_add_13 ?_
    refine lv_iconst (pc := 16) (v := 4) hx hb dX10_add_16 (by decide) ?_
    refine lv_imul (pc := 17) hx hb dX10_add_17 ?_
    obtain ⟨v5_18, ev5_18, h⟩ := lt_s_ h
    refine top_i ev5_18 ?_
    refine lv_istore (pc := 18) (lv' := [(5, .int v5_18), (0, .ref (ad 36)), (1, .int v1), (2, .int v2), (3, .int v3), (4, .int v4)]) hx hb dX10_add_18 hl (by decide) rfl (fun ls hl => ?_)
    refine lv_aload_n (pc := 20) hx hb dX10_add_20 rfl (lv_at hl 1 rfl) ?_
    refine gf_X10_11 (pc := 21) X Y dX10_add_21 ?_
    refine lv_iload (pc := 24) hx hb dX10_add_24 (lv_at hl 0 rfl) ?_
    refine lv_iload_n (pc := 26) hx hb dX10_add_26 rfl (lv_at hl 2 rfl) ?_
    obtain ⟨g_27, h⟩ := gd_s h
    obtain ⟨C_27, hC_27, h⟩ := sto_s h
    refine r_iastc (pc := 27) X Y (ca_37 ad cI) g_27 hC_27 dX10_add_27 (fun H locs Y => ?_)
    refine lv_aload_n (pc := 28) hx hb dX10_add_28 rfl (lv_at hl 1 rfl) ?_
    refine gf_X10_11 (pc := 29) X Y dX10_add_29 ?_
    refine lv_iload (pc := 32) hx hb dX10_add_32 (lv_at hl 0 rfl) ?_
    refine lv_iconst (pc := 34) (v := 1) hx hb dX10_add_34 (by decide) ?_
    refine lv_iadd (pc := 35) hx hb dX10_add_35 ?_
    refine lv_iload_n (pc := 36) hx hb dX10_add_36 rfl (lv_at hl 3 rfl) ?_
    obtain ⟨g_37, h⟩ := gd_s h
    obtain ⟨C_37, hC_37, h⟩ := sto_s h
    refine r_iastc (pc := 37) X Y (ca_37 ad cI) g_37 hC_37 dX10_add_37 (fun H locs Y => ?_)
    refine lv_aload_n (pc := 38) hx hb dX10_add_38 rfl (lv_at hl 1 rfl) ?_
    refine gf_X10_11 (pc := 39) X Y dX10_add_39 ?_
    refine lv_iload (pc := 42) hx hb dX10_add_42 (lv_at hl 0 rfl) ?_
    refine lv_iconst (pc := 44) (v := 2) hx hb dX10_add_44 (by decide) ?_
    refine lv_iadd (pc := 45) hx hb dX10_add_45 ?_
    refine lv_iload_n (pc := 46) hx hb dX10_add_46 rfl (lv_at hl 4 rfl) ?_
    obtain ⟨g_47, h⟩ := gd_s h
    obtain ⟨C_47, hC_47, h⟩ := sto_s h
    refine r_iastc (pc := 47) X Y (ca_37 ad cI) g_47 hC_47 dX10_add_47 (fun H locs Y => ?_)
    refine lv_aload_n (pc := 48) hx hb dX10_add_48 rfl (lv_at hl 1 rfl) ?_
    refine gf_X10_11 (pc := 49) X Y dX10_add_49 ?_
    refine lv_iload (pc := 52) hx hb dX10_add_52 (lv_at hl 0 rfl) ?_
    refine lv_iconst (pc := 54) (v := 3) hx hb dX10_add_54 (by decide) ?_
    refine lv_iadd (pc := 55) hx hb dX10_add_55 ?_
    refine lv_iload (pc := 56) hx hb dX10_add_56 (lv_at hl 5 rfl) ?_
    obtain ⟨g_58, h⟩ := gd_s h
    obtain ⟨C_58, hC_58, h⟩ := sto_s h
    refine r_iastc (pc := 58) X Y (ca_37 ad cI) g_58 hC_58 dX10_add_58 (fun H locs Y => ?_)
    refine lv_aload_n (pc := 59) hx hb dX10_add_59 rfl (lv_at hl 1 rfl) ?_
    refine lv_dup (pc := 60) hx hb dX10_add_60 rfl ?_
    refine gf_X10_15 (pc := 61) X Y dX10_add_61 ?_
    refine lv_iconst (pc := 64) (v := 1) hx hb dX10_add_64 (by decide) ?_
    refine lv_iadd (pc := 65) hx hb dX10_add_65 ?_
    obtain ⟨C_66, hC_66, h⟩ := sto_s h
    refine pf_X10_15 (pc := 66) X Y hC_66 dX10_add_66 (fun H locs Y => ?_)
    refine lv_aload_n (pc := 69) hx hb dX10_add_69 rfl (lv_at hl 1 rfl) ?_
    refine gf_X10_15 (pc := 70) X Y dX10_add_70 ?_
    refine lv_iconst (pc := 73) (v := 1) hx hb dX10_add_73 (by decide) ?_
    refine lv_isub (pc := 74) hx hb dX10_add_74 ?_
    obtain ⟨hr9, hm9⟩ := ret_e h
    exact fin_i (pc := 75) X rfl Y hr9 hm9 rfl dX10_add_75
  · have h := itn c_6 h
    refine lv_bipush (pc := 9) (v := (-4)) hx hb dX10_add_9 (by decide) ?_
    obtain ⟨hr9, hm9⟩ := ret_e h
    exact fin_i (pc := 11) X rfl Y hr9 hm9 rfl dX10_add_11
abbrev rm_X10_together : Room := { frames := 2, cells := 0, slots := 0, locals := 45 }
set_option maxHeartbeats 4000000 in
set_option maxRecDepth 100000 in
theorem WB_X10_together_83 {r9 : Int32} (v3 : Int32) (v4 : Int32) (v5 : Int32) (v6 : Int32) (C : Mem) (X : Cx p s m args meth c cX10_together RX10 8 (some .int) dC dI ad bd cI cZ) {kb : Int32 → Int32 → Option Int32} (hkb : ∀ (v4' : Int32) (v6' : Int32) (H : Heap) (locs : List Loc) (ls : Array Slot), Ys s dC dI ad bd cI cZ C D H locs → lv_has ls 8 [(0, .ref (ad 36)), (2, .ref (ad 32)), (3, .int v3), (4, .int v4'), (5, .int v5), (6, .int v6')] → kb v4' v6' = some r9 → W p l e rm_X10_together s m args below meth c H locs 0 0 (MQ below (QC (some (.int r9)) dC dI ad bd cI cZ C D) args s 0 0 (AD ad bd)) (F0 m 19 ls [])) {H : Heap} {locs : List Loc} {ls : Array Slot} (Y : Ys s dC dI ad bd cI cZ C D H locs) (hl : lv_has ls 8 [(0, .ref (ad 36)), (2, .ref (ad 32)), (3, .int v3), (4, .int v4), (5, .int v5), (6, .int v6)]) (h : B_X10_together_83 v4 v6 kb = some r9) : W p l e rm_X10_together s m args below meth c H locs 0 0 (MQ below (QC (some (.int r9)) dC dI ad bd cI cZ C D) args s 0 0 (AD ad bd)) (F0 m 83 ls []) := by
  have hx := X.1
  have hb := X.2.1
  unfold B_X10_together_83 at h
  obtain ⟨v6_83, ev6_83, h⟩ := lt_s_ h
  refine lv_iinc (pc := 83) (v := v6_83) (lv' := [(6, .int v6_83), (0, .ref (ad 36)), (2, .ref (ad 32)), (3, .int v3), (4, .int v4), (5, .int v5)]) hx hb dX10_together_83 hl (k := 5) rfl (by rw [ev6_83]; rfl) (by decide) rfl (fun ls hl => ?_)
  refine lv_goto (pc := 86) (tgt := 19) hx hb dX10_together_86 (by decide) ?_
  exact hkb v4 v6_83 H locs ls Y (lv_sub hl [1, 2, 3, 4, 5, 0] rfl) h
set_option maxHeartbeats 4000000 in
set_option maxRecDepth 100000 in
theorem WL_X10_together_19 {r9 : Int32} (v3 : Int32) (v5 : Int32) (C : Mem) (X : Cx p s m args meth c cX10_together RX10 8 (some .int) dC dI ad bd cI cZ) {kx : Int32 → Option Int32} (hkx : ∀ (v4' : Int32) (H : Heap) (locs : List Loc) (ls : Array Slot), Ys s dC dI ad bd cI cZ C D H locs → lv_has ls 8 [(0, .ref (ad 36)), (2, .ref (ad 32)), (3, .int v3), (4, .int v4'), (5, .int v5)] → kx v4' = some r9 → W p l e rm_X10_together s m args below meth c H locs 0 0 (MQ below (QC (some (.int r9)) dC dI ad bd cI cZ C D) args s 0 0 (AD ad bd)) (F0 m 89 ls [])) : ∀ (n_ : Nat) (v4 : Int32) (v6 : Int32) (H : Heap) (locs : List Loc) (ls : Array Slot), Ys s dC dI ad bd cI cZ C D H locs → lv_has ls 8 [(0, .ref (ad 36)), (2, .ref (ad 32)), (3, .int v3), (4, .int v4), (5, .int v5), (6, .int v6)] → L_X10_together_19 v3 v5 C kx n_ v4 v6 = some r9 → W p l e rm_X10_together s m args below meth c H locs 0 0 (MQ below (QC (some (.int r9)) dC dI ad bd cI cZ C D) args s 0 0 (AD ad bd)) (F0 m 19 ls []) := by
  have hx := X.1
  have hb := X.2.1
  intro n_
  induction n_ with
  | zero =>
    intro v4 v6 H locs ls Y hl h
    cases h
  | succ n_ ih =>
    intro v4 v6 H locs ls Y hl h
    unfold L_X10_together_19 at h
    refine lv_iload (pc := 19) hx hb dX10_together_19 (lv_at hl 5 rfl) ?_
    refine lv_iload (pc := 21) hx hb dX10_together_21 (lv_at hl 4 rfl) ?_
    refine lv_icmp_ge (pc := 23) (tgt := 89) hx hb dX10_together_23 (by decide) (fun c_23 => ?_) (fun c_23 => ?_)
    · have h := itp c_23 h
      exact hkx v4 H locs ls Y (lv_sub hl [0, 1, 2, 3, 4] rfl) h
    · have h := itn c_23 h
      refine lv_aload_n (pc := 26) hx hb dX10_together_26 rfl (lv_at hl 1 rfl) ?_
      refine lv_iload (pc := 27) hx hb dX10_together_27 (lv_at hl 4 rfl) ?_
      obtain ⟨r_29, e_29, h⟩ := bnd_s h
      refine call_vNi (pc := 29) (rest := []) [.int v5] X Y (c_X3_isKnown v5 e_29) sw_X10_19 (rv_X3 X Y) rfl ⟨rfl, rfl, Nat.le_of_ble_eq_true rfl, Nat.le_of_ble_eq_true rfl⟩ hl rfl (Nat.le_of_ble_eq_true rfl) dX10_together_29 (fun H locs Y => ?_)
      refine lv_if_eq (pc := 32) (tgt := 83) hx hb dX10_together_32 (by decide) (fun c_32 => ?_) (fun c_32 => ?_)
      · have h := itn (b2i_f c_32) h
        exact WB_X10_together_83 v3 v4 v5 v6 C X (kb := (L_X10_together_19 v3 v5 C kx n_)) ih Y (lv_sub hl [0, 1, 2, 3, 4, 5] rfl) h
      · have h := itp (b2i_t c_32) h
        refine lv_aload_n (pc := 35) hx hb dX10_together_35 rfl (lv_at hl 1 rfl) ?_
        refine lv_iload (pc := 36) hx hb dX10_together_36 (lv_at hl 5 rfl) ?_
        obtain ⟨r_38, e_38, h⟩ := bnd_s h
        refine call_vNi (pc := 38) (rest := []) [.int v6] X Y (c_X3_isKnown v6 e_38) sw_X10_19 (rv_X3 X Y) rfl ⟨rfl, rfl, Nat.le_of_ble_eq_true rfl, Nat.le_of_ble_eq_true rfl⟩ hl rfl (Nat.le_of_ble_eq_true rfl) dX10_together_38 (fun H locs Y => ?_)
        refine lv_if_eq (pc := 41) (tgt := 83) hx hb dX10_together_41 (by decide) (fun c_41 => ?_) (fun c_41 => ?_)
        · have h := itn (b2i_f c_41) h
          exact WB_X10_together_83 v3 v4 v5 v6 C X (kb := (L_X10_together_19 v3 v5 C kx n_)) ih Y (lv_sub hl [0, 1, 2, 3, 4, 5] rfl) h
        · have h := itp (b2i_t c_41) h
          refine lv_aload_n (pc := 44) hx hb dX10_together_44 rfl (lv_at hl 0 rfl) ?_
          refine gf_X10_11 (pc := 45) X Y dX10_together_45 ?_
          refine lv_iload_n (pc := 48) hx hb dX10_together_48 rfl (lv_at hl 2 rfl) ?_
          refine lv_iload (pc := 49) hx hb dX10_together_49 (lv_at hl 4 rfl) ?_
          refine lv_iadd (pc := 51) hx hb dX10_together_51 ?_
          obtain ⟨g_52, h⟩ := gd_s h
          refine r_ialdc (pc := 52) X Y (ca_37 ad cI) g_52 dX10_together_52 ?_
          refine lv_aload_n (pc := 53) hx hb dX10_together_53 rfl (lv_at hl 0 rfl) ?_
          refine gf_X10_11 (pc := 54) X Y dX10_together_54 ?_
          refine lv_iload_n (pc := 57) hx hb dX10_together_57 rfl (lv_at hl 2 rfl) ?_
          refine lv_iload (pc := 58) hx hb dX10_together_58 (lv_at hl 5 rfl) ?_
          refine lv_iadd (pc := 60) hx hb dX10_together_60 ?_
          obtain ⟨g_61, h⟩ := gd_s h
          refine r_ialdc (pc := 61) X Y (ca_37 ad cI) g_61 dX10_together_61 ?_
          refine call_si (pc := 62) (rest := []) [.int (C 37 (v3 + v5).toNatClampNeg), .int (C 37 (v3 + v6).toNatClampNeg)] X Y (c_J6_compare_7cf53 (C 37 (v3 + v5).toNatClampNeg) (C 37 (v3 + v6).toNatClampNeg)) sw_X10_25 rfl ⟨rfl, rfl, Nat.le_of_ble_eq_true rfl, Nat.le_of_ble_eq_true rfl⟩ hl rfl (Nat.le_of_ble_eq_true rfl) dX10_together_62 (fun H locs Y => ?_)
          obtain ⟨v7_65, ev7_65, h⟩ := lt_s_ h
          refine top_i ev7_65 ?_
          refine lv_istore (pc := 65) (lv' := [(7, .int v7_65), (0, .ref (ad 36)), (2, .ref (ad 32)), (3, .int v3), (4, .int v4), (5, .int v5), (6, .int v6)]) hx hb dX10_together_65 hl (by decide) rfl (fun ls hl => ?_)
          refine lv_iload (pc := 67) hx hb dX10_together_67 (lv_at hl 4 rfl) ?_
          refine lv_iload (pc := 69) hx hb dX10_together_69 (lv_at hl 0 rfl) ?_
          refine lv_aload_n (pc := 71) hx hb dX10_together_71 rfl (lv_at hl 2 rfl) ?_
          refine lv_iload (pc := 72) hx hb dX10_together_72 (lv_at hl 5 rfl) ?_
          refine lv_iload (pc := 74) hx hb dX10_together_74 (lv_at hl 6 rfl) ?_
          obtain ⟨r_76, e_76, h⟩ := bnd_s h
          refine call_vNi (pc := 76) (rest := [.int v7_65, .int v4]) [.int v5, .int v6] X Y (c_X3_order v5 v6 e_76) sw_X10_31 (rv_X3 X Y) rfl ⟨rfl, rfl, Nat.le_of_ble_eq_true rfl, Nat.le_of_ble_eq_true rfl⟩ hl rfl (Nat.le_of_ble_eq_true rfl) dX10_together_76 (fun H locs Y => ?_)
          refine lv_imul (pc := 79) hx hb dX10_together_79 ?_
          refine lv_iadd (pc := 80) hx hb dX10_together_80 ?_
          obtain ⟨v4_81, ev4_81, h⟩ := lt_s_ h
          refine top_i ev4_81 ?_
          refine lv_istore (pc := 81) (lv' := [(4, .int v4_81), (7, .int v7_65), (0, .ref (ad 36)), (2, .ref (ad 32)), (3, .int v3), (5, .int v5), (6, .int v6)]) hx hb dX10_together_81 hl (by decide) rfl (fun ls hl => ?_)
          exact WB_X10_together_83 v3 v4_81 v5 v6 C X (kb := (L_X10_together_19 v3 v5 C kx n_)) ih Y (lv_sub hl [2, 3, 4, 0, 5, 6] rfl) h
set_option maxHeartbeats 4000000 in
set_option maxRecDepth 100000 in
theorem WL_X10_together_10 {r9 : Int32} (v3 : Int32) (C : Mem) (X : Cx p s m args meth c cX10_together RX10 8 (some .int) dC dI ad bd cI cZ) {kx : Int32 → Option Int32} (hkx : ∀ (v4' : Int32) (H : Heap) (locs : List Loc) (ls : Array Slot), Ys s dC dI ad bd cI cZ C D H locs → lv_has ls 8 [(4, .int v4')] → kx v4' = some r9 → W p l e rm_X10_together s m args below meth c H locs 0 0 (MQ below (QC (some (.int r9)) dC dI ad bd cI cZ C D) args s 0 0 (AD ad bd)) (F0 m 95 ls [])) : ∀ (n_ : Nat) (v4 : Int32) (v5 : Int32) (H : Heap) (locs : List Loc) (ls : Array Slot), Ys s dC dI ad bd cI cZ C D H locs → lv_has ls 8 [(0, .ref (ad 36)), (2, .ref (ad 32)), (3, .int v3), (4, .int v4), (5, .int v5)] → L_X10_together_10 v3 C kx n_ v4 v5 = some r9 → W p l e rm_X10_together s m args below meth c H locs 0 0 (MQ below (QC (some (.int r9)) dC dI ad bd cI cZ C D) args s 0 0 (AD ad bd)) (F0 m 10 ls []) := by
  have hx := X.1
  have hb := X.2.1
  intro n_
  induction n_ with
  | zero =>
    intro v4 v5 H locs ls Y hl h
    cases h
  | succ n_ ih =>
    intro v4 v5 H locs ls Y hl h
    unfold L_X10_together_10 at h
    refine lv_iload (pc := 10) hx hb dX10_together_10 (lv_at hl 4 rfl) ?_
    refine lv_iconst (pc := 12) (v := 4) hx hb dX10_together_12 (by decide) ?_
    refine lv_icmp_ge (pc := 13) (tgt := 95) hx hb dX10_together_13 (by decide) (fun c_13 => ?_) (fun c_13 => ?_)
    · have h := itp c_13 h
      exact hkx v4 H locs ls Y (lv_sub hl [3] rfl) h
    · have h := itn c_13 h
      refine lv_iconst (pc := 16) (v := 0) hx hb dX10_together_16 (by decide) ?_
      refine lv_istore (pc := 17) (lv' := [(6, .int 0), (0, .ref (ad 36)), (2, .ref (ad 32)), (3, .int v3), (4, .int v4), (5, .int v5)]) hx hb dX10_together_17 hl (by decide) rfl (fun ls hl => ?_)
      refine WL_X10_together_19 v3 v5 C X (fun v4_89 H locs ls Y hl h => ?_) FU v4 0 H locs ls Y (lv_sub hl [1, 2, 3, 4, 5, 0] rfl) h
      obtain ⟨v5_89, ev5_89, h⟩ := lt_s_ h
      refine lv_iinc (pc := 89) (v := v5_89) (lv' := [(5, .int v5_89), (0, .ref (ad 36)), (2, .ref (ad 32)), (3, .int v3), (4, .int v4_89)]) hx hb dX10_together_89 hl (k := 4) rfl (by rw [ev5_89]; rfl) (by decide) rfl (fun ls hl => ?_)
      refine lv_goto (pc := 92) (tgt := 10) hx hb dX10_together_92 (by decide) ?_
      exact ih v4_89 v5_89 H locs ls Y (lv_sub hl [1, 2, 3, 4, 0] rfl) h
set_option maxHeartbeats 4000000 in
set_option maxRecDepth 100000 in
theorem c_X10_together {r9 : Int32} (v1 : Int32) (h : f_X10_together v1 C = some r9) : Ct l dC dI ad bd cI cZ yX10_together cX10_together 8 (some .int) rm_X10_together [.ref (ad 36), .int v1, .ref (ad 32)] C D (some (.int r9)) C D := by
  unfold f_X10_together at h
  refine Ct.intro (own := RX10) (by decide) rfl (Nat.le_of_ble_eq_true rfl) ?_
  intro p e s m args below meth c H locs ls X Y hl
  have hx := X.1
  have hb := X.2.1
  have hl : lv_has ls 8 [(0, .ref (ad 36)), (1, .int v1), (2, .ref (ad 32))] := hl
  refine lv_iload_n (pc := 0) hx hb dX10_together_0 rfl (lv_at hl 1 rfl) ?_
  refine lv_iconst (pc := 1) (v := 4) hx hb dX10_together_1 (by decide) ?_
  refine lv_imul (pc := 2) hx hb dX10_together_2 ?_
  obtain ⟨v3_3, ev3_3, h⟩ := lt_s_ h
  refine top_i ev3_3 ?_
  refine lv_istore_n (pc := 3) (lv' := [(3, .int v3_3), (0, .ref (ad 36)), (1, .int v1), (2, .ref (ad 32))]) hx hb dX10_together_3 rfl hl (by decide) rfl (fun ls hl => ?_)
  refine lv_iconst (pc := 4) (v := 0) hx hb dX10_together_4 (by decide) ?_
  refine lv_istore (pc := 5) (lv' := [(4, .int 0), (3, .int v3_3), (0, .ref (ad 36)), (1, .int v1), (2, .ref (ad 32))]) hx hb dX10_together_5 hl (by decide) rfl (fun ls hl => ?_)
  refine lv_iconst (pc := 7) (v := 0) hx hb dX10_together_7 (by decide) ?_
  refine lv_istore (pc := 8) (lv' := [(5, .int 0), (4, .int 0), (3, .int v3_3), (0, .ref (ad 36)), (1, .int v1), (2, .ref (ad 32))]) hx hb dX10_together_8 hl (by decide) rfl (fun ls hl => ?_)
  refine WL_X10_together_10 v3_3 C X (fun v4_95 H locs ls Y hl h => ?_) FU 0 0 H locs ls Y (lv_sub hl [3, 5, 2, 1, 0] rfl) h
  refine lv_iload (pc := 95) hx hb dX10_together_95 (lv_at hl 0 rfl) ?_
  have hr9 := ret_p h
  exact fin_i (pc := 97) X rfl Y hr9 rfl rfl dX10_together_97
abbrev rm_X10_greatest : Room := { frames := 3, cells := 0, slots := 0, locals := 72 }
set_option maxHeartbeats 4000000 in
set_option maxRecDepth 100000 in
theorem WL_X10_greatest_4 {r9 : Int32} (C : Mem) (X : Cx p s m args meth c cX10_greatest RX10 4 (some .int) dC dI ad bd cI cZ) {kx : Int32 → Option Int32} (hkx : ∀ (v2' : Int32) (H : Heap) (locs : List Loc) (ls : Array Slot), Ys s dC dI ad bd cI cZ C D H locs → lv_has ls 4 [(2, .int v2')] → kx v2' = some r9 → W p l e rm_X10_greatest s m args below meth c H locs 0 0 (MQ below (QC (some (.int r9)) dC dI ad bd cI cZ C D) args s 0 0 (AD ad bd)) (F0 m 32 ls [])) : ∀ (n_ : Nat) (v2 : Int32) (v3 : Int32) (H : Heap) (locs : List Loc) (ls : Array Slot), Ys s dC dI ad bd cI cZ C D H locs → lv_has ls 4 [(0, .ref (ad 36)), (1, .ref (ad 32)), (2, .int v2), (3, .int v3)] → L_X10_greatest_4 C kx n_ v2 v3 = some r9 → W p l e rm_X10_greatest s m args below meth c H locs 0 0 (MQ below (QC (some (.int r9)) dC dI ad bd cI cZ C D) args s 0 0 (AD ad bd)) (F0 m 4 ls []) := by
  have hx := X.1
  have hb := X.2.1
  intro n_
  induction n_ with
  | zero =>
    intro v2 v3 H locs ls Y hl h
    cases h
  | succ n_ ih =>
    intro v2 v3 H locs ls Y hl h
    unfold L_X10_greatest_4 at h
    refine lv_iload_n (pc := 4) hx hb dX10_greatest_4 rfl (lv_at hl 3 rfl) ?_
    refine lv_aload_n (pc := 5) hx hb dX10_greatest_5 rfl (lv_at hl 0 rfl) ?_
    refine gf_X10_15 (pc := 6) X Y dX10_greatest_6 ?_
    refine lv_icmp_ge (pc := 9) (tgt := 32) hx hb dX10_greatest_9 (by decide) (fun c_9 => ?_) (fun c_9 => ?_)
    · have h := itp c_9 h
      exact hkx v2 H locs ls Y (lv_sub hl [2] rfl) h
    · have h := itn c_9 h
      refine lv_iload_n (pc := 12) hx hb dX10_greatest_12 rfl (lv_at hl 2 rfl) ?_
      refine lv_aload_n (pc := 13) hx hb dX10_greatest_13 rfl (lv_at hl 0 rfl) ?_
      refine lv_iload_n (pc := 14) hx hb dX10_greatest_14 rfl (lv_at hl 3 rfl) ?_
      refine lv_aload_n (pc := 15) hx hb dX10_greatest_15 rfl (lv_at hl 1 rfl) ?_
      obtain ⟨r_16, e_16, h⟩ := bnd_s h
      refine call_vi (pc := 16) (rest := [.int v2]) [.int v3, .ref (ad 32)] X Y (c_X10_together v3 e_16) sw_X10_34 (rv_X10 X Y) rfl ⟨rfl, rfl, Nat.le_of_ble_eq_true rfl, Nat.le_of_ble_eq_true rfl⟩ hl rfl (Nat.le_of_ble_eq_true rfl) dX10_greatest_16 (fun H locs Y => ?_)
      refine r_mabs (pc := 19) X w_X10_38 hl (Nat.le_of_ble_eq_true rfl) (Nat.le_of_ble_eq_true rfl) dX10_greatest_19 ?_
      refine r_mmax (pc := 22) X w_X10_44 hl (Nat.le_of_ble_eq_true rfl) (Nat.le_of_ble_eq_true rfl) dX10_greatest_22 ?_
      obtain ⟨v2_25, ev2_25, h⟩ := lt_s_ h
      refine top_i ev2_25 ?_
      refine lv_istore_n (pc := 25) (lv' := [(2, .int v2_25), (0, .ref (ad 36)), (1, .ref (ad 32)), (3, .int v3)]) hx hb dX10_greatest_25 rfl hl (by decide) rfl (fun ls hl => ?_)
      obtain ⟨v3_26, ev3_26, h⟩ := lt_s_ h
      refine lv_iinc (pc := 26) (v := v3_26) (lv' := [(3, .int v3_26), (2, .int v2_25), (0, .ref (ad 36)), (1, .ref (ad 32))]) hx hb dX10_greatest_26 hl (k := 3) rfl (by rw [ev3_26]; rfl) (by decide) rfl (fun ls hl => ?_)
      refine lv_goto (pc := 29) (tgt := 4) hx hb dX10_greatest_29 (by decide) ?_
      exact ih v2_25 v3_26 H locs ls Y (lv_sub hl [2, 3, 1, 0] rfl) h
set_option maxHeartbeats 4000000 in
set_option maxRecDepth 100000 in
theorem c_X10_greatest {r9 : Int32} (h : f_X10_greatest C = some r9) : Ct l dC dI ad bd cI cZ yX10_greatest cX10_greatest 4 (some .int) rm_X10_greatest [.ref (ad 36), .ref (ad 32)] C D (some (.int r9)) C D := by
  unfold f_X10_greatest at h
  refine Ct.intro (own := RX10) (by decide) rfl (Nat.le_of_ble_eq_true rfl) ?_
  intro p e s m args below meth c H locs ls X Y hl
  have hx := X.1
  have hb := X.2.1
  have hl : lv_has ls 4 [(0, .ref (ad 36)), (1, .ref (ad 32))] := hl
  refine lv_iconst (pc := 0) (v := 0) hx hb dX10_greatest_0 (by decide) ?_
  refine lv_istore_n (pc := 1) (lv' := [(2, .int 0), (0, .ref (ad 36)), (1, .ref (ad 32))]) hx hb dX10_greatest_1 rfl hl (by decide) rfl (fun ls hl => ?_)
  refine lv_iconst (pc := 2) (v := 0) hx hb dX10_greatest_2 (by decide) ?_
  refine lv_istore_n (pc := 3) (lv' := [(3, .int 0), (2, .int 0), (0, .ref (ad 36)), (1, .ref (ad 32))]) hx hb dX10_greatest_3 rfl hl (by decide) rfl (fun ls hl => ?_)
  refine WL_X10_greatest_4 C X (fun v2_32 H locs ls Y hl h => ?_) FU 0 0 H locs ls Y (lv_sub hl [2, 3, 1, 0] rfl) h
  refine lv_iload_n (pc := 32) hx hb dX10_greatest_32 rfl (lv_at hl 0 rfl) ?_
  have hr9 := ret_p h
  exact fin_i (pc := 33) X rfl Y hr9 rfl rfl dX10_greatest_33
end walk
