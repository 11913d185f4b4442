section walk
variable {p : Program} {l : Launch} {e : Env} {R : Room} {s : State} {m : MethodId} {args : Array Value} {below : List Frame} {meth : Method} {c : Code} {H : Heap} {locs : List Loc} {Q : State → Prop} {cc : ByteArray} {own : String} {nL : Nat} {ret : Option FieldType} {dC : Nat → ClassId} {dI : Nat → Nat → Nat} {ad bd : Nat → Nat} {cI cZ : ClassId} {C D C' D' : Mem} {pc : Nat} {ls : Array Slot} {rest : List Value}
abbrev rm_X0_has : Room := { frames := 0, cells := 0, slots := 0, locals := 0 }
set_option maxHeartbeats 4000000 in
set_option maxRecDepth 100000 in
theorem c_X0_has (v1 : Int32) : Ct l dC dI ad bd cI cZ yX0_has cX0_has 2 (some .boolean) rm_X0_has [.ref (ad 18), .int v1] C D (some (.int (b2i (f_X0_has v1 C)))) C D := by
  obtain ⟨r9, h⟩ : ∃ r9, f_X0_has v1 C = r9 := ⟨_, rfl⟩
  rw [h]
  unfold f_X0_has at h
  refine Ct.intro (own := RX0) (by decide) rfl (Nat.le_of_ble_eq_true rfl) ?_
  intro p e s m args below meth c H locs ls X Y hl
  have hx := X.1
  have hb := X.2.1
  have hl : lv_has ls 2 [(0, .ref (ad 18)), (1, .int v1)] := hl
  refine lv_iload_n (pc := 0) hx hb dX0_has_0 rfl (lv_at hl 1 rfl) ?_
  refine lv_if_lt (pc := 1) (tgt := 16) hx hb dX0_has_1 (by decide) (fun c_1 => ?_) (fun c_1 => ?_)
  · have h := itp c_1 h
    refine lv_iconst (pc := 16) (v := 0) hx hb dX0_has_16 (by decide) ?_
    have hr9 := h
    exact fin_z (b := false) (pc := 17) X rfl Y rfl hr9 rfl rfl dX0_has_17
  · have h := itn c_1 h
    refine lv_iload_n (pc := 4) hx hb dX0_has_4 rfl (lv_at hl 1 rfl) ?_
    refine lv_aload_n (pc := 5) hx hb dX0_has_5 rfl (lv_at hl 0 rfl) ?_
    refine gf_X0_21 (pc := 6) X Y dX0_has_6 ?_
    refine lv_icmp_ge (pc := 9) (tgt := 16) hx hb dX0_has_9 (by decide) (fun c_9 => ?_) (fun c_9 => ?_)
    · have h := itp c_9 h
      refine lv_iconst (pc := 16) (v := 0) hx hb dX0_has_16 (by decide) ?_
      have hr9 := h
      exact fin_z (b := false) (pc := 17) X rfl Y rfl hr9 rfl rfl dX0_has_17
    · have h := itn c_9 h
      refine lv_iconst (pc := 12) (v := 1) hx hb dX0_has_12 (by decide) ?_
      refine lv_goto (pc := 13) (tgt := 17) hx hb dX0_has_13 (by decide) ?_
      have hr9 := h
      exact fin_z (b := true) (pc := 17) X rfl Y rfl hr9 rfl rfl dX0_has_17
abbrev rm_X0_add : Room := { frames := 0, cells := 0, slots := 0, locals := 0 }
set_option maxHeartbeats 4000000 in
set_option maxRecDepth 100000 in
theorem c_X0_add {r9 : Int32} {C9 : Mem} (v1 : Int32) (h : f_X0_add v1 C = some (r9, C9)) : Ct l dC dI ad bd cI cZ yX0_add cX0_add 2 (some .int) rm_X0_add [.ref (ad 18), .int v1] C D (some (.int r9)) C9 D := by
  unfold f_X0_add at h
  refine Ct.intro (own := RX0) (by decide) rfl (Nat.le_of_ble_eq_true rfl) ?_
  intro p e s m args below meth c H locs ls X Y hl
  have hx := X.1
  have hb := X.2.1
  have hl : lv_has ls 2 [(0, .ref (ad 18)), (1, .int v1)] := hl
  refine lv_aload_n (pc := 0) hx hb dX0_add_0 rfl (lv_at hl 0 rfl) ?_
  refine gf_X0_21 (pc := 1) X Y dX0_add_1 ?_
  refine lv_bipush (pc := 4) (v := 8) hx hb dX0_add_4 (by decide) ?_
  refine lv_icmp_lt (pc := 6) (tgt := 12) hx hb dX0_add_6 (by decide) (fun c_6 => ?_) (fun c_6 => ?_)
  · have h := itp c_6 h
    refine lv_aload_n (pc := 12) hx hb dX0_add_12 rfl (lv_at hl 0 rfl) ?_
    refine gf_X0_11 (pc := 13) X Y dX0_add_13 ?_
    refine lv_aload_n (pc := 16) hx hb dX0_add_16 rfl (lv_at hl 0 rfl) ?_
    refine gf_X0_21 (pc := 17) X Y dX0_add_17 ?_
    refine lv_iload_n (pc := 20) hx hb dX0_add_20 rfl (lv_at hl 1 rfl) ?_
    obtain ⟨g_21, h⟩ := gd_s h
    obtain ⟨C_21, hC_21, h⟩ := sto_s h
    refine r_iastc (pc := 21) X Y (ca_19 ad cI) g_21 hC_21 dX0_add_21 (fun H locs Y => ?_)
    refine lv_aload_n (pc := 22) hx hb dX0_add_22 rfl (lv_at hl 0 rfl) ?_
    refine lv_dup (pc := 23) hx hb dX0_add_23 rfl ?_
    refine gf_X0_21 (pc := 24) X Y dX0_add_24 ?_
    refine lv_iconst (pc := 27) (v := 1) hx hb dX0_add_27 (by decide) ?_
    refine lv_iadd (pc := 28) hx hb dX0_add_28 ?_
    obtain ⟨C_29, hC_29, h⟩ := sto_s h
    refine pf_X0_21 (pc := 29) X Y hC_29 dX0_add_29 (fun H locs Y => ?_)
    refine lv_aload_n (pc := 32) hx hb dX0_add_32 rfl (lv_at hl 0 rfl) ?_
    refine gf_X0_21 (pc := 33) X Y dX0_add_33 ?_
    refine lv_iconst (pc := 36) (v := 1) hx hb dX0_add_36 (by decide) ?_
    refine lv_isub (pc := 37) hx hb dX0_add_37 ?_
    obtain ⟨hr9, hm9⟩ := ret_e h
    exact fin_i (pc := 38) X rfl Y hr9 hm9 rfl dX0_add_38
  · have h := itn c_6 h
    refine lv_bipush (pc := 9) (v := (-4)) hx hb dX0_add_9 (by decide) ?_
    obtain ⟨hr9, hm9⟩ := ret_e h
    exact fin_i (pc := 11) X rfl Y hr9 hm9 rfl dX0_add_11
abbrev rm_X0_said : Room := { frames := 0, cells := 0, slots := 0, locals := 0 }
set_option maxHeartbeats 4000000 in
set_option maxRecDepth 100000 in
theorem c_X0_said {r9 : Int32} (v1 : Int32) (v2 : Int32) (h : f_X0_said v1 v2 C = some r9) : Ct l dC dI ad bd cI cZ yX0_said cX0_said 3 (some .int) rm_X0_said [.ref (ad 18), .int v1, .int v2] C D (some (.int r9)) C D := by
  unfold f_X0_said at h
  refine Ct.intro (own := RX0) (by decide) rfl (Nat.le_of_ble_eq_true rfl) ?_
  intro p e s m args below meth c H locs ls X Y hl
  have hx := X.1
  have hb := X.2.1
  have hl : lv_has ls 3 [(0, .ref (ad 18)), (1, .int v1), (2, .int v2)] := hl
  refine lv_aload_n (pc := 0) hx hb dX0_said_0 rfl (lv_at hl 0 rfl) ?_
  refine gf_X0_15 (pc := 1) X Y dX0_said_1 ?_
  refine lv_iload_n (pc := 4) hx hb dX0_said_4 rfl (lv_at hl 1 rfl) ?_
  refine lv_bipush (pc := 5) (v := 11) hx hb dX0_said_5 (by decide) ?_
  refine lv_imul (pc := 7) hx hb dX0_said_7 ?_
  refine lv_iload_n (pc := 8) hx hb dX0_said_8 rfl (lv_at hl 2 rfl) ?_
  refine lv_iadd (pc := 9) hx hb dX0_said_9 ?_
  obtain ⟨g_10, h⟩ := gd_s h
  refine r_ialdc (pc := 10) X Y (ca_20 ad cI) g_10 dX0_said_10 ?_
  have hr9 := ret_p h
  exact fin_i (pc := 11) X rfl Y hr9 rfl rfl dX0_said_11
abbrev rm_X0_change : Room := { frames := 1, cells := 0, slots := 0, locals := 22 }
set_option maxHeartbeats 4000000 in
set_option maxRecDepth 100000 in
theorem c_X0_change {r9 : Int32} {C9 : Mem} (v1 : Int32) (v2 : Int32) (v3 : Int32) (h : f_X0_change v1 v2 v3 C = some (r9, C9)) : Ct l dC dI ad bd cI cZ yX0_change cX0_change 5 (some .int) rm_X0_change [.ref (ad 18), .int v1, .int v2, .int v3] C D (some (.int r9)) C9 D := by
  unfold f_X0_change at h
  refine Ct.intro (own := RX0) (by decide) rfl (Nat.le_of_ble_eq_true rfl) ?_
  intro p e s m args below meth c H locs ls X Y hl
  have hx := X.1
  have hb := X.2.1
  have hl : lv_has ls 5 [(0, .ref (ad 18)), (1, .int v1), (2, .int v2), (3, .int v3)] := hl
  refine lv_aload_n (pc := 0) hx hb dX0_change_0 rfl (lv_at hl 0 rfl) ?_
  refine lv_iload_n (pc := 1) hx hb dX0_change_1 rfl (lv_at hl 1 rfl) ?_
  refine lv_iload_n (pc := 2) hx hb dX0_change_2 rfl (lv_at hl 2 rfl) ?_
  obtain ⟨r_3, e_3, h⟩ := bnd_s h
  refine call_vi (pc := 3) (rest := []) [.int v1, .int v2] X Y (c_X0_said v1 v2 e_3) sw_X0_25 (rv_X0 X Y) rfl ⟨rfl, rfl, Nat.le_of_ble_eq_true rfl, Nat.le_of_ble_eq_true rfl⟩ hl rfl (Nat.le_of_ble_eq_true rfl) dX0_change_3 (fun H locs Y => ?_)
  refine lv_istore (pc := 6) (lv' := [(4, .int r_3), (0, .ref (ad 18)), (1, .int v1), (2, .int v2), (3, .int v3)]) hx hb dX0_change_6 hl (by decide) rfl (fun ls hl => ?_)
  refine lv_aload_n (pc := 8) hx hb dX0_change_8 rfl (lv_at hl 1 rfl) ?_
  refine gf_X0_15 (pc := 9) X Y dX0_change_9 ?_
  refine lv_iload_n (pc := 12) hx hb dX0_change_12 rfl (lv_at hl 2 rfl) ?_
  refine lv_bipush (pc := 13) (v := 11) hx hb dX0_change_13 (by decide) ?_
  refine lv_imul (pc := 15) hx hb dX0_change_15 ?_
  refine lv_iload_n (pc := 16) hx hb dX0_change_16 rfl (lv_at hl 3 rfl) ?_
  refine lv_iadd (pc := 17) hx hb dX0_change_17 ?_
  refine lv_iload_n (pc := 18) hx hb dX0_change_18 rfl (lv_at hl 4 rfl) ?_
  obtain ⟨g_19, h⟩ := gd_s h
  obtain ⟨C_19, hC_19, h⟩ := sto_s h
  refine r_iastc (pc := 19) X Y (ca_20 ad cI) g_19 hC_19 dX0_change_19 (fun H locs Y => ?_)
  refine lv_iload (pc := 20) hx hb dX0_change_20 (lv_at hl 0 rfl) ?_
  obtain ⟨hr9, hm9⟩ := ret_e h
  exact fin_i (pc := 22) X rfl Y hr9 hm9 rfl dX0_change_22
abbrev rm_X0_bestOffer : Room := { frames := 1, cells := 0, slots := 0, locals := 22 }
set_option maxHeartbeats 4000000 in
set_option maxRecDepth 100000 in
theorem WL_X0_bestOffer_2 {r9 : Int32} {C9 : Mem} (v1 : Int32) (X : Cx p s m args meth c cX0_bestOffer RX0 3 (some .int) dC dI ad bd cI cZ) {kx : Mem → Option (Int32 × Mem)} (hkx : ∀ (C' : Mem) (H : Heap) (locs : List Loc) (ls : Array Slot), Ys s dC dI ad bd cI cZ C' D H locs → lv_has ls 3 [(0, .ref (ad 18))] → kx C' = some (r9, C9) → W p l e rm_X0_bestOffer s m args below meth c H locs 0 0 (MQ below (QC (some (.int r9)) dC dI ad bd cI cZ C9 D) args s 0 0 (AD ad bd)) (F0 m 31 ls [])) : ∀ (n_ : Nat) (v2 : Int32) (C : Mem) (H : Heap) (locs : List Loc) (ls : Array Slot), Ys s dC dI ad bd cI cZ C D H locs → lv_has ls 3 [(0, .ref (ad 18)), (1, .int v1), (2, .int v2)] → L_X0_bestOffer_2 v1 kx n_ v2 C = some (r9, C9) → W p l e rm_X0_bestOffer s m args below meth c H locs 0 0 (MQ below (QC (some (.int r9)) dC dI ad bd cI cZ C9 D) args s 0 0 (AD ad bd)) (F0 m 2 ls []) := by
  have hx := X.1
  have hb := X.2.1
  intro n_
  induction n_ with
  | zero =>
    intro v2 C H locs ls Y hl h
    cases h
  | succ n_ ih =>
    intro v2 C H locs ls Y hl h
    unfold L_X0_bestOffer_2 at h
    refine lv_iload_n (pc := 2) hx hb dX0_bestOffer_2 rfl (lv_at hl 2 rfl) ?_
    refine lv_bipush (pc := 3) (v := 11) hx hb dX0_bestOffer_3 (by decide) ?_
    refine lv_icmp_ge (pc := 5) (tgt := 31) hx hb dX0_bestOffer_5 (by decide) (fun c_5 => ?_) (fun c_5 => ?_)
    · have h := itp c_5 h
      exact hkx C H locs ls Y (lv_sub hl [0] rfl) h
    · have h := itn c_5 h
      refine lv_aload_n (pc := 8) hx hb dX0_bestOffer_8 rfl (lv_at hl 0 rfl) ?_
      refine gf_X0_18 (pc := 9) X Y dX0_bestOffer_9 ?_
      refine lv_iload_n (pc := 12) hx hb dX0_bestOffer_12 rfl (lv_at hl 2 rfl) ?_
      refine lv_bipush (pc := 13) (v := 10) hx hb dX0_bestOffer_13 (by decide) ?_
      refine lv_iload_n (pc := 15) hx hb dX0_bestOffer_15 rfl (lv_at hl 2 rfl) ?_
      refine lv_isub (pc := 16) hx hb dX0_bestOffer_16 ?_
      refine lv_aload_n (pc := 17) hx hb dX0_bestOffer_17 rfl (lv_at hl 0 rfl) ?_
      refine lv_iload_n (pc := 18) hx hb dX0_bestOffer_18 rfl (lv_at hl 1 rfl) ?_
      refine lv_iload_n (pc := 19) hx hb dX0_bestOffer_19 rfl (lv_at hl 2 rfl) ?_
      obtain ⟨r_20, e_20, h⟩ := bnd_s h
      refine call_vi (pc := 20) (rest := [.int (10 - v2), .int v2, .ref (ad 21)]) [.int v1, .int v2] X Y (c_X0_said v1 v2 e_20) sw_X0_25 (rv_X0 X Y) rfl ⟨rfl, rfl, Nat.le_of_ble_eq_true rfl, Nat.le_of_ble_eq_true rfl⟩ hl rfl (Nat.le_of_ble_eq_true rfl) dX0_bestOffer_20 (fun H locs Y => ?_)
      refine lv_imul (pc := 23) hx hb dX0_bestOffer_23 ?_
      obtain ⟨g_24, h⟩ := gd_s h
      obtain ⟨C_24, hC_24, h⟩ := sto_s h
      refine r_iastc (pc := 24) X Y (ca_21 ad cI) g_24 hC_24 dX0_bestOffer_24 (fun H locs Y => ?_)
      obtain ⟨v2_25, ev2_25, h⟩ := lt_s_ h
      refine lv_iinc (pc := 25) (v := v2_25) (lv' := [(2, .int v2_25), (0, .ref (ad 18)), (1, .int v1)]) hx hb dX0_bestOffer_25 hl (k := 2) rfl (by rw [ev2_25]; rfl) (by decide) rfl (fun ls hl => ?_)
      refine lv_goto (pc := 28) (tgt := 2) hx hb dX0_bestOffer_28 (by decide) ?_
      exact ih v2_25 C_24 H locs ls Y (lv_sub hl [1, 2, 0] rfl) h
set_option maxHeartbeats 4000000 in
set_option maxRecDepth 100000 in
theorem c_X0_bestOffer {r9 : Int32} {C9 : Mem} (v1 : Int32) (h : f_X0_bestOffer v1 C = some (r9, C9)) : Ct l dC dI ad bd cI cZ yX0_bestOffer cX0_bestOffer 3 (some .int) rm_X0_bestOffer [.ref (ad 18), .int v1] C D (some (.int r9)) C9 D := by
  unfold f_X0_bestOffer at h
  refine Ct.intro (own := RX0) (by decide) rfl (Nat.le_of_ble_eq_true rfl) ?_
  intro p e s m args below meth c H locs ls X Y hl
  have hx := X.1
  have hb := X.2.1
  have hl : lv_has ls 3 [(0, .ref (ad 18)), (1, .int v1)] := hl
  refine lv_iconst (pc := 0) (v := 0) hx hb dX0_bestOffer_0 (by decide) ?_
  refine lv_istore_n (pc := 1) (lv' := [(2, .int 0), (0, .ref (ad 18)), (1, .int v1)]) hx hb dX0_bestOffer_1 rfl hl (by decide) rfl (fun ls hl => ?_)
  refine WL_X0_bestOffer_2 v1 X (fun C_31 H locs ls Y hl h => ?_) FU 0 C H locs ls Y (lv_sub hl [1, 2, 0] rfl) h
  refine lv_aload_n (pc := 31) hx hb dX0_bestOffer_31 rfl (lv_at hl 0 rfl) ?_
  refine gf_X0_18 (pc := 32) X Y dX0_bestOffer_32 ?_
  obtain ⟨r_35, e_35, h⟩ := bnd_s h
  refine call_sNi (pc := 35) (rest := []) [.ref (ad 21)] X Y (c_X11_firstGreatest 21 11 (ca_21 ad cI) e_35) sw_X0_29 rfl ⟨rfl, rfl, Nat.le_of_ble_eq_true rfl, Nat.le_of_ble_eq_true rfl⟩ hl rfl (Nat.le_of_ble_eq_true rfl) dX0_bestOffer_35 (fun H locs Y => ?_)
  obtain ⟨hr9, hm9⟩ := ret_e h
  exact fin_i (pc := 38) X rfl Y hr9 hm9 rfl dX0_bestOffer_38
abbrev rm_X4_mayBeTold : Room := { frames := 2, cells := 0, slots := 0, locals := 41 }
set_option maxHeartbeats 4000000 in
set_option maxRecDepth 100000 in
theorem c_X4_mayBeTold (v1 : Int32) : Ct l dC dI ad bd cI cZ yX4_mayBeTold cX4_mayBeTold 2 (some .boolean) rm_X4_mayBeTold [.ref (ad 1), .int v1] C D (some (.int (b2i (f_X4_mayBeTold v1 C)))) C D := by
  obtain ⟨r9, h⟩ : ∃ r9, f_X4_mayBeTold v1 C = r9 := ⟨_, rfl⟩
  rw [h]
  unfold f_X4_mayBeTold at h
  refine Ct.intro (own := RX4) (by decide) rfl (Nat.le_of_ble_eq_true rfl) ?_
  intro p e s m args below meth c H locs ls X Y hl
  have hx := X.1
  have hb := X.2.1
  have hl : lv_has ls 2 [(0, .ref (ad 1)), (1, .int v1)] := hl
  refine lv_iload_n (pc := 0) hx hb dX4_mayBeTold_0 rfl (lv_at hl 1 rfl) ?_
  refine call_sNi (pc := 1) (rest := []) [.int v1] X Y (c_X11_isTime v1) sw_X4_34 rfl ⟨rfl, rfl, Nat.le_of_ble_eq_true rfl, Nat.le_of_ble_eq_true rfl⟩ hl rfl (Nat.le_of_ble_eq_true rfl) dX4_mayBeTold_1 (fun H locs Y => ?_)
  refine lv_if_eq (pc := 4) (tgt := 19) hx hb dX4_mayBeTold_4 (by decide) (fun c_4 => ?_) (fun c_4 => ?_)
  · have h := itn (b2i_f c_4) h
    refine lv_iconst (pc := 19) (v := 0) hx hb dX4_mayBeTold_19 (by decide) ?_
    have hr9 := h
    exact fin_z (b := false) (pc := 20) X rfl Y rfl hr9 rfl rfl dX4_mayBeTold_20
  · have h := itp (b2i_t c_4) h
    refine lv_iload_n (pc := 7) hx hb dX4_mayBeTold_7 rfl (lv_at hl 1 rfl) ?_
    refine lv_aload_n (pc := 8) hx hb dX4_mayBeTold_8 rfl (lv_at hl 0 rfl) ?_
    refine gf_X4_38 (pc := 9) X Y dX4_mayBeTold_9 ?_
    refine lv_icmp_lt (pc := 12) (tgt := 19) hx hb dX4_mayBeTold_12 (by decide) (fun c_12 => ?_) (fun c_12 => ?_)
    · have h := itp c_12 h
      refine lv_iconst (pc := 19) (v := 0) hx hb dX4_mayBeTold_19 (by decide) ?_
      have hr9 := h
      exact fin_z (b := false) (pc := 20) X rfl Y rfl hr9 rfl rfl dX4_mayBeTold_20
    · have h := itn c_12 h
      refine lv_iconst (pc := 15) (v := 1) hx hb dX4_mayBeTold_15 (by decide) ?_
      refine lv_goto (pc := 16) (tgt := 20) hx hb dX4_mayBeTold_16 (by decide) ?_
      have hr9 := h
      exact fin_z (b := true) (pc := 20) X rfl Y rfl hr9 rfl rfl dX4_mayBeTold_20
abbrev rm_X4_has : Room := { frames := 0, cells := 0, slots := 0, locals := 0 }
set_option maxHeartbeats 4000000 in
set_option maxRecDepth 100000 in
theorem c_X4_has (v1 : Int32) : Ct l dC dI ad bd cI cZ yX4_has cX4_has 2 (some .boolean) rm_X4_has [.ref (ad 1), .int v1] C D (some (.int (b2i (f_X4_has v1 C)))) C D := by
  obtain ⟨r9, h⟩ : ∃ r9, f_X4_has v1 C = r9 := ⟨_, rfl⟩
  rw [h]
  unfold f_X4_has at h
  refine Ct.intro (own := RX4) (by decide) rfl (Nat.le_of_ble_eq_true rfl) ?_
  intro p e s m args below meth c H locs ls X Y hl
  have hx := X.1
  have hb := X.2.1
  have hl : lv_has ls 2 [(0, .ref (ad 1)), (1, .int v1)] := hl
  refine lv_iload_n (pc := 0) hx hb dX4_has_0 rfl (lv_at hl 1 rfl) ?_
  refine lv_if_lt (pc := 1) (tgt := 16) hx hb dX4_has_1 (by decide) (fun c_1 => ?_) (fun c_1 => ?_)
  · have h := itp c_1 h
    refine lv_iconst (pc := 16) (v := 0) hx hb dX4_has_16 (by decide) ?_
    have hr9 := h
    exact fin_z (b := false) (pc := 17) X rfl Y rfl hr9 rfl rfl dX4_has_17
  · have h := itn c_1 h
    refine lv_iload_n (pc := 4) hx hb dX4_has_4 rfl (lv_at hl 1 rfl) ?_
    refine lv_aload_n (pc := 5) hx hb dX4_has_5 rfl (lv_at hl 0 rfl) ?_
    refine gf_X4_41 (pc := 6) X Y dX4_has_6 ?_
    refine lv_icmp_ge (pc := 9) (tgt := 16) hx hb dX4_has_9 (by decide) (fun c_9 => ?_) (fun c_9 => ?_)
    · have h := itp c_9 h
      refine lv_iconst (pc := 16) (v := 0) hx hb dX4_has_16 (by decide) ?_
      have hr9 := h
      exact fin_z (b := false) (pc := 17) X rfl Y rfl hr9 rfl rfl dX4_has_17
    · have h := itn c_9 h
      refine lv_iconst (pc := 12) (v := 1) hx hb dX4_has_12 (by decide) ?_
      refine lv_goto (pc := 13) (tgt := 17) hx hb dX4_has_13 (by decide) ?_
      have hr9 := h
      exact fin_z (b := true) (pc := 17) X rfl Y rfl hr9 rfl rfl dX4_has_17
abbrev rm_X4_add : Room := { frames := 0, cells := 0, slots := 0, locals := 0 }
set_option maxHeartbeats 4000000 in
set_option maxRecDepth 100000 in
theorem c_X4_add {r9 : Int32} {C9 : Mem} (v1 : Int32) (v2 : Int32) (v3 : Int32) (v4 : Int32) (v5 : Int32) (h : f_X4_add v1 v2 v3 v4 v5 C = some (r9, C9)) : Ct l dC dI ad bd cI cZ yX4_add cX4_add 6 (some .int) rm_X4_add [.ref (ad 1), .int v1, .int v2, .int v3, .int v4, .int v5] C D (some (.int r9)) C9 D := by
  unfold f_X4_add at h
  refine Ct.intro (own := RX4) (by decide) rfl (Nat.le_of_ble_eq_true rfl) ?_
  intro p e s m args below meth c H locs ls X Y hl
  have hx := X.1
  have hb := X.2.1
  have hl : lv_has ls 6 [(0, .ref (ad 1)), (1, .int v1), (2, .int v2), (3, .int v3), (4, .int v4), (5, .int v5)] := hl
  refine lv_aload_n (pc := 0) hx hb dX4_add_0 rfl (lv_at hl 0 rfl) ?_
  refine gf_X4_41 (pc := 1) X Y dX4_add_1 ?_
  refine lv_bipush (pc := 4) (v := 60) hx hb dX4_add_4 (by decide) ?_
  refine lv_icmp_lt (pc := 6) (tgt := 12) hx hb dX4_add_6 (by decide) (fun c_6 => ?_) (fun c_6 => ?_)
  · have h := itp c_6 h
    refine lv_aload_n (pc := 12) hx hb dX4_add_12 rfl (lv_at hl 0 rfl) ?_
    refine gf_X4_11 (pc := 13) X Y dX4_add_13 ?_
    refine lv_aload_n (pc := 16) hx hb dX4_add_16 rfl (lv_at hl 0 rfl) ?_
    refine gf_X4_41 (pc := 17) X Y dX4_add_17 ?_
    refine lv_iload_n (pc := 20) hx hb dX4_add_20 rfl (lv_at hl 1 rfl) ?_
    obtain ⟨g_21, h⟩ := gd_s h
    obtain ⟨C_21, hC_21, h⟩ := sto_s h
    refine r_iastc (pc := 21) X Y (ca_2 ad cI) g_21 hC_21 dX4_add_21 (fun H locs Y => ?_)
    refine lv_aload_n (pc := 22) hx hb dX4_add_22 rfl (lv_at hl 0 rfl) ?_
    refine gf_X4_15 (pc := 23) X Y dX4_add_23 ?_
    refine lv_aload_n (pc := 26) hx hb dX4_add_26 rfl (lv_at hl 0 rfl) ?_
    refine gf_X4_41 (pc := 27) X Y dX4_add_27 ?_
    refine lv_iload_n (pc := 30) hx hb dX4_add_30 rfl (lv_at hl 2 rfl) ?_
    obtain ⟨g_31, h⟩ := gd_s h
    obtain ⟨C_31, hC_31, h⟩ := sto_s h
    refine r_iastc (pc := 31) X Y (ca_3 ad cI) g_31 hC_31 dX4_add_31 (fun H locs Y => ?_)
    refine lv_aload_n (pc := 32) hx hb dX4_add_32 rfl (lv_at hl 0 rfl) ?_
    refine gf_X4_18 (pc := 33) X Y dX4_add_33 ?_
    refine lv_aload_n (pc := 36) hx hb dX4_add_36 rfl (lv_at hl 0 rfl) ?_
    refine gf_X4_41 (pc := 37) X Y dX4_add_37 ?_
    refine lv_iload_n (pc := 40) hx hb dX4_add_40 rfl (lv_at hl 3 rfl) ?_
    obtain ⟨g_41, h⟩ := gd_s h
    obtain ⟨C_41, hC_41, h⟩ := sto_s h
    refine r_iastc (pc := 41) X Y (ca_4 ad cI) g_41 hC_41 dX4_add_41 (fun H locs Y => ?_)
    refine lv_aload_n (pc := 42) hx hb dX4_add_42 rfl (lv_at hl 0 rfl) ?_
    refine gf_X4_21 (pc := 43) X Y dX4_add_43 ?_
    refine lv_aload_n (pc := 46) hx hb dX4_add_46 rfl (lv_at hl 0 rfl) ?_
    refine gf_X4_41 (pc := 47) X Y dX4_add_47 ?_
    refine lv_iload (pc := 50) hx hb dX4_add_50 (lv_at hl 4 rfl) ?_
    obtain ⟨g_52, h⟩ := gd_s h
    obtain ⟨C_52, hC_52, h⟩ := sto_s h
    refine r_iastc (pc := 52) X Y (ca_5 ad cI) g_52 hC_52 dX4_add_52 (fun H locs Y => ?_)
    refine lv_aload_n (pc := 53) hx hb dX4_add_53 rfl (lv_at hl 0 rfl) ?_
    refine gf_X4_24 (pc := 54) X Y dX4_add_54 ?_
    refine lv_aload_n (pc := 57) hx hb dX4_add_57 rfl (lv_at hl 0 rfl) ?_
    refine gf_X4_41 (pc := 58) X Y dX4_add_58 ?_
    refine lv_iload (pc := 61) hx hb dX4_add_61 (lv_at hl 5 rfl) ?_
    obtain ⟨g_63, h⟩ := gd_s h
    obtain ⟨C_63, hC_63, h⟩ := sto_s h
    refine r_iastc (pc := 63) X Y (ca_6 ad cI) g_63 hC_63 dX4_add_63 (fun H locs Y => ?_)
    refine lv_aload_n (pc := 64) hx hb dX4_add_64 rfl (lv_at hl 0 rfl) ?_
    refine gf_X4_27 (pc := 65) X Y dX4_add_65 ?_
    refine lv_aload_n (pc := 68) hx hb dX4_add_68 rfl (lv_at hl 0 rfl) ?_
    refine gf_X4_41 (pc := 69) X Y dX4_add_69 ?_
    refine lv_sipush (pc := 72) (v := 1000) hx hb dX4_add_72 (by decide) ?_
    obtain ⟨g_75, h⟩ := gd_s h
    obtain ⟨C_75, hC_75, h⟩ := sto_s h
    refine r_iastc (pc := 75) X Y (ca_7 ad cI) g_75 hC_75 dX4_add_75 (fun H locs Y => ?_)
    refine lv_aload_n (pc := 76) hx hb dX4_add_76 rfl (lv_at hl 0 rfl) ?_
    refine lv_iload (pc := 77) hx hb dX4_add_77 (lv_at hl 5 rfl) ?_
    obtain ⟨C_79, hC_79, h⟩ := sto_s h
    refine pf_X4_38 (pc := 79) X Y hC_79 dX4_add_79 (fun H locs Y => ?_)
    refine lv_aload_n (pc := 82) hx hb dX4_add_82 rfl (lv_at hl 0 rfl) ?_
    refine lv_dup (pc := 83) hx hb dX4_add_83 rfl ?_
    refine gf_X4_41 (pc := 84) X Y dX4_add_84 ?_
    refine lv_iconst (pc := 87) (v := 1) hx hb dX4_add_87 (by decide) ?_
    refine lv_iadd (pc := 88) hx hb dX4_add_88 ?_
    obtain ⟨C_89, hC_89, h⟩ := sto_s h
    refine pf_X4_41 (pc := 89) X Y hC_89 dX4_add_89 (fun H locs Y => ?_)
    refine lv_aload_n (pc := 92) hx hb dX4_add_92 rfl (lv_at hl 0 rfl) ?_
    refine gf_X4_41 (pc := 93) X Y dX4_add_93 ?_
    refine lv_iconst (pc := 96) (v := 1) hx hb dX4_add_96 (by decide) ?_
    refine lv_isub (pc := 97) hx hb dX4_add_97 ?_
    obtain ⟨hr9, hm9⟩ := ret_e h
    exact fin_i (pc := 98) X rfl Y hr9 hm9 rfl dX4_add_98
  · have h := itn c_6 h
    refine lv_bipush (pc := 9) (v := (-4)) hx hb dX4_add_9 (by decide) ?_
    obtain ⟨hr9, hm9⟩ := ret_e h
    exact fin_i (pc := 11) X rfl Y hr9 hm9 rfl dX4_add_11
abbrev rm_X4_withdraw : Room := { frames := 0, cells := 0, slots := 0, locals := 0 }
set_option maxHeartbeats 4000000 in
set_option maxRecDepth 100000 in
theorem c_X4_withdraw {r9 : Int32} {C9 : Mem} (v1 : Int32) (v2 : Int32) (h : f_X4_withdraw v1 v2 C = some (r9, C9)) : Ct l dC dI ad bd cI cZ yX4_withdraw cX4_withdraw 3 (some .int) rm_X4_withdraw [.ref (ad 1), .int v1, .int v2] C D (some (.int r9)) C9 D := by
  unfold f_X4_withdraw at h
  refine Ct.intro (own := RX4) (by decide) rfl (Nat.le_of_ble_eq_true rfl) ?_
  intro p e s m args below meth c H locs ls X Y hl
  have hx := X.1
  have hb := X.2.1
  have hl : lv_has ls 3 [(0, .ref (ad 1)), (1, .int v1), (2, .int v2)] := hl
  refine lv_aload_n (pc := 0) hx hb dX4_withdraw_0 rfl (lv_at hl 0 rfl) ?_
  refine gf_X4_27 (pc := 1) X Y dX4_withdraw_1 ?_
  refine lv_iload_n (pc := 4) hx hb dX4_withdraw_4 rfl (lv_at hl 1 rfl) ?_
  obtain ⟨g_5, h⟩ := gd_s h
  refine r_ialdc (pc := 5) X Y (ca_7 ad cI) g_5 dX4_withdraw_5 ?_
  refine lv_sipush (pc := 6) (v := 1000) hx hb dX4_withdraw_6 (by decide) ?_
  refine lv_icmp_eq (pc := 9) (tgt := 15) hx hb dX4_withdraw_9 (by decide) (fun c_9 => ?_) (fun c_9 => ?_)
  · have h := itp c_9 h
    refine lv_aload_n (pc := 15) hx hb dX4_withdraw_15 rfl (lv_at hl 0 rfl) ?_
    refine gf_X4_27 (pc := 16) X Y dX4_withdraw_16 ?_
    refine lv_iload_n (pc := 19) hx hb dX4_withdraw_19 rfl (lv_at hl 1 rfl) ?_
    refine lv_iload_n (pc := 20) hx hb dX4_withdraw_20 rfl (lv_at hl 2 rfl) ?_
    obtain ⟨g_21, h⟩ := gd_s h
    obtain ⟨C_21, hC_21, h⟩ := sto_s h
    refine r_iastc (pc := 21) X Y (ca_7 ad cI) g_21 hC_21 dX4_withdraw_21 (fun H locs Y => ?_)
    refine lv_aload_n (pc := 22) hx hb dX4_withdraw_22 rfl (lv_at hl 0 rfl) ?_
    refine lv_iload_n (pc := 23) hx hb dX4_withdraw_23 rfl (lv_at hl 2 rfl) ?_
    obtain ⟨C_24, hC_24, h⟩ := sto_s h
    refine pf_X4_38 (pc := 24) X Y hC_24 dX4_withdraw_24 (fun H locs Y => ?_)
    refine lv_iconst (pc := 27) (v := 1) hx hb dX4_withdraw_27 (by decide) ?_
    obtain ⟨hr9, hm9⟩ := ret_e h
    exact fin_i (pc := 28) X rfl Y hr9 hm9 rfl dX4_withdraw_28
  · have h := itn c_9 h
    refine lv_bipush (pc := 12) (v := (-3)) hx hb dX4_withdraw_12 (by decide) ?_
    obtain ⟨hr9, hm9⟩ := ret_e h
    exact fin_i (pc := 14) X rfl Y hr9 hm9 rfl dX4_withdraw_14
abbrev rm_X4_counts : Room := { frames := 0, cells := 0, slots := 0, locals := 0 }
set_option maxHeartbeats 4000000 in
set_option maxRecDepth 100000 in
theorem c_X4_counts {r9 : Bool} (v1 : Int32) (h : f_X4_counts v1 C = some r9) : Ct l dC dI ad bd cI cZ yX4_counts cX4_counts 2 (some .boolean) rm_X4_counts [.ref (ad 1), .int v1] C D (some (.int (b2i r9))) C D := by
  unfold f_X4_counts at h
  refine Ct.intro (own := RX4) (by decide) rfl (Nat.le_of_ble_eq_true rfl) ?_
  intro p e s m args below meth c H locs ls X Y hl
  have hx := X.1
  have hb := X.2.1
  have hl : lv_has ls 2 [(0, .ref (ad 1)), (1, .int v1)] := hl
  refine lv_aload_n (pc := 0) hx hb dX4_counts_0 rfl (lv_at hl 0 rfl) ?_
  refine gf_X4_24 (pc := 1) X Y dX4_counts_1 ?_
  refine lv_iload_n (pc := 4) hx hb dX4_counts_4 rfl (lv_at hl 1 rfl) ?_
  obtain ⟨g_5, h⟩ := gd_s h
  refine r_ialdc (pc := 5) X Y (ca_6 ad cI) g_5 dX4_counts_5 ?_
  refine lv_aload_n (pc := 6) hx hb dX4_counts_6 rfl (lv_at hl 0 rfl) ?_
  refine gf_X4_30 (pc := 7) X Y dX4_counts_7 ?_
  refine lv_icmp_gt (pc := 10) (tgt := 30) hx hb dX4_counts_10 (by decide) (fun c_10 => ?_) (fun c_10 => ?_)
  · have h := itp c_10 h
    refine lv_iconst (pc := 30) (v := 0) hx hb dX4_counts_30 (by decide) ?_
    have hr9 := ret_p h
    exact fin_z (b := false) (pc := 31) X rfl Y rfl hr9 rfl rfl dX4_counts_31
  · have h := itn c_10 h
    refine lv_aload_n (pc := 13) hx hb dX4_counts_13 rfl (lv_at hl 0 rfl) ?_
    refine gf_X4_27 (pc := 14) X Y dX4_counts_14 ?_
    refine lv_iload_n (pc := 17) hx hb dX4_counts_17 rfl (lv_at hl 1 rfl) ?_
    obtain ⟨g_18, h⟩ := gd_s h
    refine r_ialdc (pc := 18) X Y (ca_7 ad cI) g_18 dX4_counts_18 ?_
    refine lv_aload_n (pc := 19) hx hb dX4_counts_19 rfl (lv_at hl 0 rfl) ?_
    refine gf_X4_30 (pc := 20) X Y dX4_counts_20 ?_
    refine lv_icmp_le (pc := 23) (tgt := 30) hx hb dX4_counts_23 (by decide) (fun c_23 => ?_) (fun c_23 => ?_)
    · have h := itp c_23 h
      refine lv_iconst (pc := 30) (v := 0) hx hb dX4_counts_30 (by decide) ?_
      have hr9 := ret_p h
      exact fin_z (b := false) (pc := 31) X rfl Y rfl hr9 rfl rfl dX4_counts_31
    · have h := itn c_23 h
      refine lv_iconst (pc := 26) (v := 1) hx hb dX4_counts_26 (by decide) ?_
      refine lv_goto (pc := 27) (tgt := 31) hx hb dX4_counts_27 (by decide) ?_
      have hr9 := ret_p h
      exact fin_z (b := true) (pc := 31) X rfl Y rfl hr9 rfl rfl dX4_counts_31
abbrev rm_X4_isOf : Room := { frames := 0, cells := 0, slots := 0, locals := 0 }
set_option maxHeartbeats 4000000 in
set_option maxRecDepth 100000 in
theorem WB_X4_isOf_25 {r9 : Bool} (C : Mem) (X : Cx p s m args meth c cX4_isOf RX4 4 (some .boolean) dC dI ad bd cI cZ) {H : Heap} {locs : List Loc} {ls : Array Slot} (Y : Ys s dC dI ad bd cI cZ C D H locs) (hl : lv_has ls 4 []) (h : B_X4_isOf_25 = some r9) : W p l e rm_X4_isOf s m args below meth c H locs 0 0 (MQ below (QC (some (.int (b2i r9))) dC dI ad bd cI cZ C D) args s 0 0 (AD ad bd)) (F0 m 25 ls []) := by
  have hx := X.1
  have hb := X.2.1
  unfold B_X4_isOf_25 at h
  refine lv_iconst (pc := 25) (v := 1) hx hb dX4_isOf_25 (by decide) ?_
  refine lv_goto (pc := 26) (tgt := 30) hx hb dX4_isOf_26 (by decide) ?_
  have hr9 := ret_p h
  exact fin_z (b := true) (pc := 30) X rfl Y rfl hr9 rfl rfl dX4_isOf_30
set_option maxHeartbeats 4000000 in
set_option maxRecDepth 100000 in
theorem c_X4_isOf {r9 : Bool} (v1 : Int32) (v2 : Int32) (v3 : Int32) (h : f_X4_isOf v1 v2 v3 C = some r9) : Ct l dC dI ad bd cI cZ yX4_isOf cX4_isOf 4 (some .boolean) rm_X4_isOf [.ref (ad 1), .int v1, .int v2, .int v3] C D (some (.int (b2i r9))) C D := by
  unfold f_X4_isOf at h
  refine Ct.intro (own := RX4) (by decide) rfl (Nat.le_of_ble_eq_true rfl) ?_
  intro p e s m args below meth c H locs ls X Y hl
  have hx := X.1
  have hb := X.2.1
  have hl : lv_has ls 4 [(0, .ref (ad 1)), (1, .int v1), (2, .int v2), (3, .int v3)] := hl
  refine lv_aload_n (pc := 0) hx hb dX4_isOf_0 rfl (lv_at hl 0 rfl) ?_
  refine gf_X4_15 (pc := 1) X Y dX4_isOf_1 ?_
  refine lv_iload_n (pc := 4) hx hb dX4_isOf_4 rfl (lv_at hl 1 rfl) ?_
  obtain ⟨g_5, h⟩ := gd_s h
  refine r_ialdc (pc := 5) X Y (ca_3 ad cI) g_5 dX4_isOf_5 ?_
  refine lv_iload_n (pc := 6) hx hb dX4_isOf_6 rfl (lv_at hl 3 rfl) ?_
  refine lv_icmp_ne (pc := 7) (tgt := 29) hx hb dX4_isOf_7 (by decide) (fun c_7 => ?_) (fun c_7 => ?_)
  · have h := itn c_7 h
    refine lv_iconst (pc := 29) (v := 0) hx hb dX4_isOf_29 (by decide) ?_
    have hr9 := ret_p h
    exact fin_z (b := false) (pc := 30) X rfl Y rfl hr9 rfl rfl dX4_isOf_30
  · have h := itp c_7 h
    refine lv_iload_n (pc := 10) hx hb dX4_isOf_10 rfl (lv_at hl 2 rfl) ?_
    refine lv_iconst (pc := 11) (v := (-1)) hx hb dX4_isOf_11 (by decide) ?_
    refine lv_icmp_eq (pc := 12) (tgt := 25) hx hb dX4_isOf_12 (by decide) (fun c_12 => ?_) (fun c_12 => ?_)
    · have h := itp c_12 h
      exact WB_X4_isOf_25  C X Y (lv_sub hl [] rfl) h
    · have h := itn c_12 h
      refine lv_aload_n (pc := 15) hx hb dX4_isOf_15 rfl (lv_at hl 0 rfl) ?_
      refine gf_X4_11 (pc := 16) X Y dX4_isOf_16 ?_
      refine lv_iload_n (pc := 19) hx hb dX4_isOf_19 rfl (lv_at hl 1 rfl) ?_
      obtain ⟨g_20, h⟩ := gd_s h
      refine r_ialdc (pc := 20) X Y (ca_2 ad cI) g_20 dX4_isOf_20 ?_
      refine lv_iload_n (pc := 21) hx hb dX4_isOf_21 rfl (lv_at hl 2 rfl) ?_
      refine lv_icmp_ne (pc := 22) (tgt := 29) hx hb dX4_isOf_22 (by decide) (fun c_22 => ?_) (fun c_22 => ?_)
      · have h := itn c_22 h
        refine lv_iconst (pc := 29) (v := 0) hx hb dX4_isOf_29 (by decide) ?_
        have hr9 := ret_p h
        exact fin_z (b := false) (pc := 30) X rfl Y rfl hr9 rfl rfl dX4_isOf_30
      · have h := itp c_22 h
        exact WB_X4_isOf_25  C X Y (lv_sub hl [] rfl) h
abbrev rm_X4_howManyCount : Room := { frames := 1, cells := 0, slots := 0, locals := 21 }
set_option maxHeartbeats 4000000 in
set_option maxRecDepth 100000 in
theorem WB_X4_howManyCount_26 {r9 : Int32} (x0 : Int32) (x1 : Int32) (v2 : Int32) (C : Mem) (X : Cx p s m args meth c cX4_howManyCount RX4 3 (some .int) dC dI ad bd cI cZ) {kb : Int32 → Int32 → Option Int32} (hkb : ∀ (v1' : Int32) (v2' : Int32) (H : Heap) (locs : List Loc) (ls : Array Slot), Ys s dC dI ad bd cI cZ C D H locs → lv_has ls 3 [(0, .ref (ad 1)), (1, .int v1'), (2, .int v2')] → kb v1' v2' = some r9 → W p l e rm_X4_howManyCount s m args below meth c H locs 0 0 (MQ below (QC (some (.int r9)) dC dI ad bd cI cZ C D) args s 0 0 (AD ad bd)) (F0 m 4 ls [])) {H : Heap} {locs : List Loc} {ls : Array Slot} (Y : Ys s dC dI ad bd cI cZ C D H locs) (hl : lv_has ls 3 [(0, .ref (ad 1)), (2, .int v2)]) (h : B_X4_howManyCount_26 x0 x1 v2 kb = some r9) : W p l e rm_X4_howManyCount s m args below meth c H locs 0 0 (MQ below (QC (some (.int r9)) dC dI ad bd cI cZ C D) args s 0 0 (AD ad bd)) (F0 m 26 ls [.int x1, .int x0]) := by
  have hx := X.1
  have hb := X.2.1
  unfold B_X4_howManyCount_26 at h
  refine lv_iadd (pc := 26) hx hb dX4_howManyCount_26 ?_
  obtain ⟨v1_27, ev1_27, h⟩ := lt_s_ h
  refine top_i ev1_27 ?_
  refine lv_istore_n (pc := 27) (lv' := [(1, .int v1_27), (0, .ref (ad 1)), (2, .int v2)]) hx hb dX4_howManyCount_27 rfl hl (by decide) rfl (fun ls hl => ?_)
  obtain ⟨v2_28, ev2_28, h⟩ := lt_s_ h
  refine lv_iinc (pc := 28) (v := v2_28) (lv' := [(2, .int v2_28), (1, .int v1_27), (0, .ref (ad 1))]) hx hb dX4_howManyCount_28 hl (k := 2) rfl (by rw [ev2_28]; rfl) (by decide) rfl (fun ls hl => ?_)
  refine lv_goto (pc := 31) (tgt := 4) hx hb dX4_howManyCount_31 (by decide) ?_
  exact hkb v1_27 v2_28 H locs ls Y (lv_sub hl [2, 1, 0] rfl) h
set_option maxHeartbeats 4000000 in
set_option maxRecDepth 100000 in
theorem WL_X4_howManyCount_4 {r9 : Int32} (C : Mem) (X : Cx p s m args meth c cX4_howManyCount RX4 3 (some .int) dC dI ad bd cI cZ) {kx : Int32 → Option Int32} (hkx : ∀ (v1' : Int32) (H : Heap) (locs : List Loc) (ls : Array Slot), Ys s dC dI ad bd cI cZ C D H locs → lv_has ls 3 [(1, .int v1')] → kx v1' = some r9 → W p l e rm_X4_howManyCount s m args below meth c H locs 0 0 (MQ below (QC (some (.int r9)) dC dI ad bd cI cZ C D) args s 0 0 (AD ad bd)) (F0 m 34 ls [])) : ∀ (n_ : Nat) (v1 : Int32) (v2 : Int32) (H : Heap) (locs : List Loc) (ls : Array Slot), Ys s dC dI ad bd cI cZ C D H locs → lv_has ls 3 [(0, .ref (ad 1)), (1, .int v1), (2, .int v2)] → L_X4_howManyCount_4 C kx n_ v1 v2 = some r9 → W p l e rm_X4_howManyCount s m args below meth c H locs 0 0 (MQ below (QC (some (.int r9)) dC dI ad bd cI cZ C D) args s 0 0 (AD ad bd)) (F0 m 4 ls []) := by
  have hx := X.1
  have hb := X.2.1
  intro n_
  induction n_ with
  | zero =>
    intro v1 v2 H locs ls Y hl h
    cases h
  | succ n_ ih =>
    intro v1 v2 H locs ls Y hl h
    unfold L_X4_howManyCount_4 at h
    refine lv_iload_n (pc := 4) hx hb dX4_howManyCount_4 rfl (lv_at hl 2 rfl) ?_
    refine lv_aload_n (pc := 5) hx hb dX4_howManyCount_5 rfl (lv_at hl 0 rfl) ?_
    refine gf_X4_41 (pc := 6) X Y dX4_howManyCount_6 ?_
    refine lv_icmp_ge (pc := 9) (tgt := 34) hx hb dX4_howManyCount_9 (by decide) (fun c_9 => ?_) (fun c_9 => ?_)
    · have h := itp c_9 h
      exact hkx v1 H locs ls Y (lv_sub hl [1] rfl) h
    · have h := itn c_9 h
      refine lv_iload_n (pc := 12) hx hb dX4_howManyCount_12 rfl (lv_at hl 1 rfl) ?_
      refine lv_aload_n (pc := 13) hx hb dX4_howManyCount_13 rfl (lv_at hl 0 rfl) ?_
      refine lv_iload_n (pc := 14) hx hb dX4_howManyCount_14 rfl (lv_at hl 2 rfl) ?_
      obtain ⟨r_15, e_15, h⟩ := bnd_s h
      refine call_vi (pc := 15) (rest := [.int v1]) [.int v2] X Y (c_X4_counts v2 e_15) sw_X4_44 (rv_X4 X Y) rfl ⟨rfl, rfl, Nat.le_of_ble_eq_true rfl, Nat.le_of_ble_eq_true rfl⟩ hl rfl (Nat.le_of_ble_eq_true rfl) dX4_howManyCount_15 (fun H locs Y => ?_)
      refine lv_if_eq (pc := 18) (tgt := 25) hx hb dX4_howManyCount_18 (by decide) (fun c_18 => ?_) (fun c_18 => ?_)
      · have h := itn (b2i_f c_18) h
        refine lv_iconst (pc := 25) (v := 0) hx hb dX4_howManyCount_25 (by decide) ?_
        exact WB_X4_howManyCount_26 v1 0 v2 C X (kb := (L_X4_howManyCount_4 C kx n_)) ih Y (lv_sub hl [0, 2] rfl) h
      · have h := itp (b2i_t c_18) h
        refine lv_iconst (pc := 21) (v := 1) hx hb dX4_howManyCount_21 (by decide) ?_
        refine lv_goto (pc := 22) (tgt := 26) hx hb dX4_howManyCount_22 (by decide) ?_
        exact WB_X4_howManyCount_26 v1 1 v2 C X (kb := (L_X4_howManyCount_4 C kx n_)) ih Y (lv_sub hl [0, 2] rfl) h
set_option maxHeartbeats 4000000 in
set_option maxRecDepth 100000 in
theorem c_X4_howManyCount {r9 : Int32} (h : f_X4_howManyCount C = some r9) : Ct l dC dI ad bd cI cZ yX4_howManyCount cX4_howManyCount 3 (some .int) rm_X4_howManyCount [.ref (ad 1)] C D (some (.int r9)) C D := by
  unfold f_X4_howManyCount at h
  refine Ct.intro (own := RX4) (by decide) rfl (Nat.le_of_ble_eq_true rfl) ?_
  intro p e s m args below meth c H locs ls X Y hl
  have hx := X.1
  have hb := X.2.1
  have hl : lv_has ls 3 [(0, .ref (ad 1))] := hl
  refine lv_iconst (pc := 0) (v := 0) hx hb dX4_howManyCount_0 (by decide) ?_
  refine lv_istore_n (pc := 1) (lv' := [(1, .int 0), (0, .ref (ad 1))]) hx hb dX4_howManyCount_1 rfl hl (by decide) rfl (fun ls hl => ?_)
  refine lv_iconst (pc := 2) (v := 0) hx hb dX4_howManyCount_2 (by decide) ?_
  refine lv_istore_n (pc := 3) (lv' := [(2, .int 0), (1, .int 0), (0, .ref (ad 1))]) hx hb dX4_howManyCount_3 rfl hl (by decide) rfl (fun ls hl => ?_)
  refine WL_X4_howManyCount_4 C X (fun v1_34 H locs ls Y hl h => ?_) FU 0 0 H locs ls Y (lv_sub hl [2, 1, 0] rfl) h
  refine lv_iload_n (pc := 34) hx hb dX4_howManyCount_34 rfl (lv_at hl 0 rfl) ?_
  have hr9 := ret_p h
  exact fin_i (pc := 35) X rfl Y hr9 rfl rfl dX4_howManyCount_35
abbrev rm_X9_clear : Room := { frames := 1, cells := 0, slots := 0, locals := 23 }
set_option maxHeartbeats 4000000 in
set_option maxRecDepth 100000 in
theorem c_X9_clear {C9 : Mem} (t : Nat) (ht : tl t) (h : f_X9_clear t C = some C9) : Ct l dC dI ad bd cI cZ yX9_clear cX9_clear 1 (none) rm_X9_clear [.ref (ad t)] C D (none) C9 D := by
  unfold f_X9_clear at h
  refine Ct.intro (own := RX9) (by decide) rfl (Nat.le_of_ble_eq_true rfl) ?_
  intro p e s m args below meth c H locs ls X Y hl
  have hx := X.1
  have hb := X.2.1
  have hl : lv_has ls 1 [(0, .ref (ad t))] := hl
  refine lv_aload_n (pc := 0) hx hb dX9_clear_0 rfl (lv_at hl 0 rfl) ?_
  refine gf_X9_9 (pc := 1) X Y ht dX9_clear_1 ?_
  refine lv_iconst (pc := 4) (v := 0) hx hb dX9_clear_4 (by decide) ?_
  obtain ⟨C_5, e_5, h⟩ := bnd_s h
  refine call_sv (pc := 5) (rest := []) [.ref (ad (t + 1)), .int 0] X Y (c_J7_fill_53178 (t + 1) 11 0 (tl_a1 ht ad cI) e_5) sw_X9_18 rfl ⟨rfl, rfl, Nat.le_of_ble_eq_true rfl, Nat.le_of_ble_eq_true rfl⟩ hl rfl (Nat.le_of_ble_eq_true rfl) dX9_clear_5 (fun H locs Y => ?_)
  refine lv_aload_n (pc := 8) hx hb dX9_clear_8 rfl (lv_at hl 0 rfl) ?_
  refine gf_X9_15 (pc := 9) X Y ht dX9_clear_9 ?_
  refine lv_iconst (pc := 12) (v := 0) hx hb dX9_clear_12 (by decide) ?_
  obtain ⟨C_13, e_13, h⟩ := bnd_s h
  refine call_sv (pc := 13) (rest := []) [.ref (ad (t + 2)), .int 0] X Y (c_J7_fill_53178 (t + 2) 11 0 (tl_a2 ht ad cI) e_13) sw_X9_18 rfl ⟨rfl, rfl, Nat.le_of_ble_eq_true rfl, Nat.le_of_ble_eq_true rfl⟩ hl rfl (Nat.le_of_ble_eq_true rfl) dX9_clear_13 (fun H locs Y => ?_)
  refine lv_aload_n (pc := 16) hx hb dX9_clear_16 rfl (lv_at hl 0 rfl) ?_
  refine lv_iconst (pc := 17) (v := 0) hx hb dX9_clear_17 (by decide) ?_
  obtain ⟨C_18, hC_18, h⟩ := sto_s h
  refine pf_X9_24 (pc := 18) X Y ht hC_18 dX9_clear_18 (fun H locs Y => ?_)
  refine lv_aload_n (pc := 21) hx hb dX9_clear_21 rfl (lv_at hl 0 rfl) ?_
  refine lv_iconst (pc := 22) (v := 0) hx hb dX9_clear_22 (by decide) ?_
  obtain ⟨C_23, hC_23, h⟩ := sto_s h
  refine pf_X9_28 (pc := 23) X Y ht hC_23 dX9_clear_23 (fun H locs Y => ?_)
  refine lv_aload_n (pc := 26) hx hb dX9_clear_26 rfl (lv_at hl 0 rfl) ?_
  refine lv_iconst (pc := 27) (v := 0) hx hb dX9_clear_27 (by decide) ?_
  obtain ⟨C_28, hC_28, h⟩ := sto_s h
  refine pf_X9_31 (pc := 28) X Y ht hC_28 dX9_clear_28 (fun H locs Y => ?_)
  have hm9 := ret_v h
  exact fin_v (pc := 31) X rfl Y hm9 rfl dX9_clear_31
abbrev rm_X9_add : Room := { frames := 0, cells := 0, slots := 0, locals := 0 }
set_option maxHeartbeats 4000000 in
set_option maxRecDepth 100000 in
theorem c_X9_add {C9 : Mem} (t : Nat) (v1 : Int32) (v2 : Int32) (ht : tl t) (h : f_X9_add t v1 v2 C = some C9) : Ct l dC dI ad bd cI cZ yX9_add cX9_add 4 (none) rm_X9_add [.ref (ad t), .int v1, .int v2] C D (none) C9 D := by
  unfold f_X9_add at h
  refine Ct.intro (own := RX9) (by decide) rfl (Nat.le_of_ble_eq_true rfl) ?_
  intro p e s m args below meth c H locs ls X Y hl
  have hx := X.1
  have hb := X.2.1
  have hl : lv_has ls 4 [(0, .ref (ad t)), (1, .int v1), (2, .int v2)] := hl
  refine lv_iconst (pc := 0) (v := 1) hx hb dX9_add_0 (by decide) ?_
  refine lv_iload_n (pc := 1) hx hb dX9_add_1 rfl (lv_at hl 2 rfl) ?_
  refine lv_isub (pc := 2) hx hb dX9_add_2 ?_
  obtain ⟨v3_3, ev3_3, h⟩ := lt_s_ h
  refine top_i ev3_3 ?_
  refine lv_istore_n (pc := 3) (lv' := [(3, .int v3_3), (0, .ref (ad t)), (1, .int v1), (2, .int v2)]) hx hb dX9_add_3 rfl hl (by decide) rfl (fun ls hl => ?_)
  refine lv_aload_n (pc := 4) hx hb dX9_add_4 rfl (lv_at hl 1 rfl) ?_
  refine gf_X9_9 (pc := 5) X Y ht dX9_add_5 ?_
  refine lv_iload_n (pc := 8) hx hb dX9_add_8 rfl (lv_at hl 2 rfl) ?_
  refine lv_dup2_11 (pc := 9) hx hb dX9_add_9 rfl rfl ?_
  obtain ⟨g_10, h⟩ := gd_s h
  refine r_ialdc (pc := 10) X Y (tl_a1 ht ad cI) g_10 dX9_add_10 ?_
  refine lv_iconst (pc := 11) (v := 1) hx hb dX9_add_11 (by decide) ?_
  refine lv_iadd (pc := 12) hx hb dX9_add_12 ?_
  obtain ⟨g_13, h⟩ := gd_s h
  obtain ⟨C_13, hC_13, h⟩ := sto_s h
  refine r_iastc (pc := 13) X Y (tl_a1 ht ad cI) g_13 hC_13 dX9_add_13 (fun H locs Y => ?_)
  refine lv_aload_n (pc := 14) hx hb dX9_add_14 rfl (lv_at hl 1 rfl) ?_
  refine gf_X9_15 (pc := 15) X Y ht dX9_add_15 ?_
  refine lv_iload_n (pc := 18) hx hb dX9_add_18 rfl (lv_at hl 2 rfl) ?_
  refine lv_dup2_11 (pc := 19) hx hb dX9_add_19 rfl rfl ?_
  obtain ⟨g_20, h⟩ := gd_s h
  refine r_ialdc (pc := 20) X Y (tl_a2 ht ad cI) g_20 dX9_add_20 ?_
  refine lv_iload_n (pc := 21) hx hb dX9_add_21 rfl (lv_at hl 0 rfl) ?_
  refine lv_iadd (pc := 22) hx hb dX9_add_22 ?_
  obtain ⟨g_23, h⟩ := gd_s h
  obtain ⟨C_23, hC_23, h⟩ := sto_s h
  refine r_iastc (pc := 23) X Y (tl_a2 ht ad cI) g_23 hC_23 dX9_add_23 (fun H locs Y => ?_)
  refine lv_aload_n (pc := 24) hx hb dX9_add_24 rfl (lv_at hl 1 rfl) ?_
  refine lv_dup (pc := 25) hx hb dX9_add_25 rfl ?_
  refine gf_X9_24 (pc := 26) X Y ht dX9_add_26 ?_
  refine lv_iconst (pc := 29) (v := 1) hx hb dX9_add_29 (by decide) ?_
  refine lv_iadd (pc := 30) hx hb dX9_add_30 ?_
  obtain ⟨C_31, hC_31, h⟩ := sto_s h
  refine pf_X9_24 (pc := 31) X Y ht hC_31 dX9_add_31 (fun H locs Y => ?_)
  refine lv_aload_n (pc := 34) hx hb dX9_add_34 rfl (lv_at hl 1 rfl) ?_
  refine lv_dup (pc := 35) hx hb dX9_add_35 rfl ?_
  refine gf_X9_28 (pc := 36) X Y ht dX9_add_36 ?_
  refine lv_iload_n (pc := 39) hx hb dX9_add_39 rfl (lv_at hl 0 rfl) ?_
  refine lv_iadd (pc := 40) hx hb dX9_add_40 ?_
  obtain ⟨C_41, hC_41, h⟩ := sto_s h
  refine pf_X9_28 (pc := 41) X Y ht hC_41 dX9_add_41 (fun H locs Y => ?_)
  refine lv_aload_n (pc := 44) hx hb dX9_add_44 rfl (lv_at hl 1 rfl) ?_
  refine lv_dup (pc := 45) hx hb dX9_add_45 rfl ?_
  refine gf_X9_31 (pc := 46) X Y ht dX9_add_46 ?_
  refine lv_iload_n (pc := 49) hx hb dX9_add_49 rfl (lv_at hl 2 rfl) ?_
  refine lv_iadd (pc := 50) hx hb dX9_add_50 ?_
  obtain ⟨C_51, hC_51, h⟩ := sto_s h
  refine pf_X9_31 (pc := 51) X Y ht hC_51 dX9_add_51 (fun H locs Y => ?_)
  have hm9 := ret_v h
  exact fin_v (pc := 54) X rfl Y hm9 rfl dX9_add_54
abbrev rm_X4_tally : Room := { frames := 2, cells := 0, slots := 0, locals := 43 }
set_option maxHeartbeats 4000000 in
set_option maxRecDepth 100000 in
theorem WB_X4_tally_54 {C9 : Mem} {t : Nat} (ht : tl t) (v1 : Int32) (v2 : Int32) (v4 : Int32) (C : Mem) (X : Cx p s m args meth c cX4_tally RX4 5 (none) dC dI ad bd cI cZ) {kb : Int32 → Mem → Option Mem} (hkb : ∀ (v4' : Int32) (C' : Mem) (H : Heap) (locs : List Loc) (ls : Array Slot), Ys s dC dI ad bd cI cZ C' D H locs → lv_has ls 5 [(0, .ref (ad 1)), (1, .int v1), (2, .int v2), (3, .ref (ad t)), (4, .int v4')] → kb v4' C' = some C9 → W p l e rm_X4_tally s m args below meth c H locs 0 0 (MQ below (QC (none) dC dI ad bd cI cZ C9 D) args s 0 0 (AD ad bd)) (F0 m 7 ls [])) {H : Heap} {locs : List Loc} {ls : Array Slot} (Y : Ys s dC dI ad bd cI cZ C D H locs) (hl : lv_has ls 5 [(0, .ref (ad 1)), (1, .int v1), (2, .int v2), (3, .ref (ad t)), (4, .int v4)]) (h : B_X4_tally_54 v4 C kb = some C9) : W p l e rm_X4_tally s m args below meth c H locs 0 0 (MQ below (QC (none) dC dI ad bd cI cZ C9 D) args s 0 0 (AD ad bd)) (F0 m 54 ls []) := by
  have hx := X.1
  have hb := X.2.1
  unfold B_X4_tally_54 at h
  obtain ⟨v4_54, ev4_54, h⟩ := lt_s_ h
  refine lv_iinc (pc := 54) (v := v4_54) (lv' := [(4, .int v4_54), (0, .ref (ad 1)), (1, .int v1), (2, .int v2), (3, .ref (ad t))]) hx hb dX4_tally_54 hl (k := 4) rfl (by rw [ev4_54]; rfl) (by decide) rfl (fun ls hl => ?_)
  refine lv_goto (pc := 57) (tgt := 7) hx hb dX4_tally_57 (by decide) ?_
  exact hkb v4_54 C H locs ls Y (lv_sub hl [1, 2, 3, 4, 0] rfl) h
set_option maxHeartbeats 4000000 in
set_option maxRecDepth 100000 in
theorem WL_X4_tally_7 {C9 : Mem} {t : Nat} (ht : tl t) (v1 : Int32) (v2 : Int32) (X : Cx p s m args meth c cX4_tally RX4 5 (none) dC dI ad bd cI cZ) {kx : Mem → Option Mem} (hkx : ∀ (C' : Mem) (H : Heap) (locs : List Loc) (ls : Array Slot), Ys s dC dI ad bd cI cZ C' D H locs → lv_has ls 5 [] → kx C' = some C9 → W p l e rm_X4_tally s m args below meth c H locs 0 0 (MQ below (QC (none) dC dI ad bd cI cZ C9 D) args s 0 0 (AD ad bd)) (F0 m 60 ls [])) : ∀ (n_ : Nat) (v4 : Int32) (C : Mem) (H : Heap) (locs : List Loc) (ls : Array Slot), Ys s dC dI ad bd cI cZ C D H locs → lv_has ls 5 [(0, .ref (ad 1)), (1, .int v1), (2, .int v2), (3, .ref (ad t)), (4, .int v4)] → L_X4_tally_7 t v1 v2 kx n_ v4 C = some C9 → W p l e rm_X4_tally s m args below meth c H locs 0 0 (MQ below (QC (none) dC dI ad bd cI cZ C9 D) args s 0 0 (AD ad bd)) (F0 m 7 ls []) := by
  have hx := X.1
  have hb := X.2.1
  intro n_
  induction n_ with
  | zero =>
    intro v4 C H locs ls Y hl h
    cases h
  | succ n_ ih =>
    intro v4 C H locs ls Y hl h
    unfold L_X4_tally_7 at h
    refine lv_iload (pc := 7) hx hb dX4_tally_7 (lv_at hl 4 rfl) ?_
    refine lv_aload_n (pc := 9) hx hb dX4_tally_9 rfl (lv_at hl 0 rfl) ?_
    refine gf_X4_41 (pc := 10) X Y dX4_tally_10 ?_
    refine lv_icmp_ge (pc := 13) (tgt := 60) hx hb dX4_tally_13 (by decide) (fun c_13 => ?_) (fun c_13 => ?_)
    · have h := itp c_13 h
      exact hkx C H locs ls Y (lv_sub hl [] rfl) h
    · have h := itn c_13 h
      refine lv_aload_n (pc := 16) hx hb dX4_tally_16 rfl (lv_at hl 0 rfl) ?_
      refine lv_iload (pc := 17) hx hb dX4_tally_17 (lv_at hl 4 rfl) ?_
      refine lv_iload_n (pc := 19) hx hb dX4_tally_19 rfl (lv_at hl 1 rfl) ?_
      refine lv_iload_n (pc := 20) hx hb dX4_tally_20 rfl (lv_at hl 2 rfl) ?_
      obtain ⟨r_21, e_21, h⟩ := bnd_s h
      refine call_vi (pc := 21) (rest := []) [.int v4, .int v1, .int v2] X Y (c_X4_isOf v4 v1 v2 e_21) sw_X4_52 (rv_X4 X Y) rfl ⟨rfl, rfl, Nat.le_of_ble_eq_true rfl, Nat.le_of_ble_eq_true rfl⟩ hl rfl (Nat.le_of_ble_eq_true rfl) dX4_tally_21 (fun H locs Y => ?_)
      refine lv_if_eq (pc := 24) (tgt := 54) hx hb dX4_tally_24 (by decide) (fun c_24 => ?_) (fun c_24 => ?_)
      · have h := itn (b2i_f c_24) h
        exact WB_X4_tally_54 ht v1 v2 v4 C X (kb := (L_X4_tally_7 t v1 v2 kx n_)) ih Y (lv_sub hl [0, 1, 2, 3, 4] rfl) h
      · have h := itp (b2i_t c_24) h
        refine lv_aload_n (pc := 27) hx hb dX4_tally_27 rfl (lv_at hl 0 rfl) ?_
        refine lv_iload (pc := 28) hx hb dX4_tally_28 (lv_at hl 4 rfl) ?_
        obtain ⟨r_30, e_30, h⟩ := bnd_s h
        refine call_vi (pc := 30) (rest := []) [.int v4] X Y (c_X4_counts v4 e_30) sw_X4_44 (rv_X4 X Y) rfl ⟨rfl, rfl, Nat.le_of_ble_eq_true rfl, Nat.le_of_ble_eq_true rfl⟩ hl rfl (Nat.le_of_ble_eq_true rfl) dX4_tally_30 (fun H locs Y => ?_)
        refine lv_if_eq (pc := 33) (tgt := 54) hx hb dX4_tally_33 (by decide) (fun c_33 => ?_) (fun c_33 => ?_)
        · have h := itn (b2i_f c_33) h
          exact WB_X4_tally_54 ht v1 v2 v4 C X (kb := (L_X4_tally_7 t v1 v2 kx n_)) ih Y (lv_sub hl [0, 1, 2, 3, 4] rfl) h
        · have h := itp (b2i_t c_33) h
          refine lv_aload_n (pc := 36) hx hb dX4_tally_36 rfl (lv_at hl 3 rfl) ?_
          refine lv_aload_n (pc := 37) hx hb dX4_tally_37 rfl (lv_at hl 0 rfl) ?_
          refine gf_X4_18 (pc := 38) X Y dX4_tally_38 ?_
          refine lv_iload (pc := 41) hx hb dX4_tally_41 (lv_at hl 4 rfl) ?_
          obtain ⟨g_43, h⟩ := gd_s h
          refine r_ialdc (pc := 43) X Y (ca_4 ad cI) g_43 dX4_tally_43 ?_
          refine lv_aload_n (pc := 44) hx hb dX4_tally_44 rfl (lv_at hl 0 rfl) ?_
          refine gf_X4_21 (pc := 45) X Y dX4_tally_45 ?_
          refine lv_iload (pc := 48) hx hb dX4_tally_48 (lv_at hl 4 rfl) ?_
          obtain ⟨g_50, h⟩ := gd_s h
          refine r_ialdc (pc := 50) X Y (ca_5 ad cI) g_50 dX4_tally_50 ?_
          obtain ⟨C_51, e_51, h⟩ := bnd_s h
          refine call_vNv (pc := 51) (rest := []) [.int (C 4 v4.toNatClampNeg), .int (C 5 v4.toNatClampNeg)] X Y (c_X9_add t (C 4 v4.toNatClampNeg) (C 5 v4.toNatClampNeg) ht e_51) sw_X4_56 (rv_X9 X Y ht) rfl ⟨rfl, rfl, Nat.le_of_ble_eq_true rfl, Nat.le_of_ble_eq_true rfl⟩ hl rfl (Nat.le_of_ble_eq_true rfl) dX4_tally_51 (fun H locs Y => ?_)
          exact WB_X4_tally_54 ht v1 v2 v4 C_51 X (kb := (L_X4_tally_7 t v1 v2 kx n_)) ih Y (lv_sub hl [0, 1, 2, 3, 4] rfl) h
set_option maxHeartbeats 4000000 in
set_option maxRecDepth 100000 in
theorem c_X4_tally {C9 : Mem} (v1 : Int32) (v2 : Int32) (t : Nat) (ht : tl t) (h : f_X4_tally v1 v2 t C = some C9) : Ct l dC dI ad bd cI cZ yX4_tally cX4_tally 5 (none) rm_X4_tally [.ref (ad 1), .int v1, .int v2, .ref (ad t)] C D (none) C9 D := by
  unfold f_X4_tally at h
  refine Ct.intro (own := RX4) (by decide) rfl (Nat.le_of_ble_eq_true rfl) ?_
  intro p e s m args below meth c H locs ls X Y hl
  have hx := X.1
  have hb := X.2.1
  have hl : lv_has ls 5 [(0, .ref (ad 1)), (1, .int v1), (2, .int v2), (3, .ref (ad t))] := hl
  refine lv_aload_n (pc := 0) hx hb dX4_tally_0 rfl (lv_at hl 3 rfl) ?_
  obtain ⟨C_1, e_1, h⟩ := bnd_s h
  refine call_vNv (pc := 1) (rest := []) [] X Y (c_X9_clear t ht e_1) sw_X4_47 (rv_X9 X Y ht) rfl ⟨rfl, rfl, Nat.le_of_ble_eq_true rfl, Nat.le_of_ble_eq_true rfl⟩ hl rfl (Nat.le_of_ble_eq_true rfl) dX4_tally_1 (fun H locs Y => ?_)
  refine lv_iconst (pc := 4) (v := 0) hx hb dX4_tally_4 (by decide) ?_
  refine lv_istore (pc := 5) (lv' := [(4, .int 0), (0, .ref (ad 1)), (1, .int v1), (2, .int v2), (3, .ref (ad t))]) hx hb dX4_tally_5 hl (by decide) rfl (fun ls hl => ?_)
  refine WL_X4_tally_7 ht v1 v2 X (fun C_60 H locs ls Y hl h => ?_) FU 0 C_1 H locs ls Y (lv_sub hl [1, 2, 3, 4, 0] rfl) h
  have hm9 := ret_v h
  exact fin_v (pc := 60) X rfl Y hm9 rfl dX4_tally_60
abbrev rm_X5_add : Room := { frames := 0, cells := 0, slots := 0, locals := 0 }
set_option maxHeartbeats 4000000 in
set_option maxRecDepth 100000 in
theorem c_X5_add {r9 : Int32} {C9 : Mem} (v1 : Int32) (v2 : Int32) (h : f_X5_add v1 v2 C = some (r9, C9)) : Ct l dC dI ad bd cI cZ yX5_add cX5_add 3 (some .int) rm_X5_add [.ref (ad 40), .int v1, .int v2] C D (some (.int r9)) C9 D := by
  unfold f_X5_add at h
  refine Ct.intro (own := RX5) (by decide) rfl (Nat.le_of_ble_eq_true rfl) ?_
  intro p e s m args below meth c H locs ls X Y hl
  have hx := X.1
  have hb := X.2.1
  have hl : lv_has ls 3 [(0, .ref (ad 40)), (1, .int v1), (2, .int v2)] := hl
  refine lv_aload_n (pc := 0) hx hb dX5_add_0 rfl (lv_at hl 0 rfl) ?_
  refine gf_X5_18 (pc := 1) X Y dX5_add_1 ?_
  refine lv_bipush (pc := 4) (v := 24) hx hb dX5_add_4 (by decide) ?_
  refine lv_icmp_lt (pc := 6) (tgt := 12) hx hb dX5_add_6 (by decide) (fun c_6 => ?_) (fun c_6 => ?_)
  · have h := itp c_6 h
    refine lv_aload_n (pc := 12) hx hb dX5_add_12 rfl (lv_at hl 0 rfl) ?_
    refine gf_X5_11 (pc := 13) X Y dX5_add_13 ?_
    refine lv_aload_n (pc := 16) hx hb dX5_add_16 rfl (lv_at hl 0 rfl) ?_
    refine gf_X5_18 (pc := 17) X Y dX5_add_17 ?_
    refine lv_iload_n (pc := 20) hx hb dX5_add_20 rfl (lv_at hl 1 rfl) ?_
    obtain ⟨g_21, h⟩ := gd_s h
    obtain ⟨C_21, hC_21, h⟩ := sto_s h
    refine r_iastc (pc := 21) X Y (ca_41 ad cI) g_21 hC_21 dX5_add_21 (fun H locs Y => ?_)
    refine lv_aload_n (pc := 22) hx hb dX5_add_22 rfl (lv_at hl 0 rfl) ?_
    refine gf_X5_15 (pc := 23) X Y dX5_add_23 ?_
    refine lv_aload_n (pc := 26) hx hb dX5_add_26 rfl (lv_at hl 0 rfl) ?_
    refine gf_X5_18 (pc := 27) X Y dX5_add_27 ?_
    refine lv_iload_n (pc := 30) hx hb dX5_add_30 rfl (lv_at hl 2 rfl) ?_
    obtain ⟨g_31, h⟩ := gd_s h
    obtain ⟨C_31, hC_31, h⟩ := sto_s h
    refine r_iastc (pc := 31) X Y (ca_42 ad cI) g_31 hC_31 dX5_add_31 (fun H locs Y => ?_)
    refine lv_aload_n (pc := 32) hx hb dX5_add_32 rfl (lv_at hl 0 rfl) ?_
    refine lv_dup (pc := 33) hx hb dX5_add_33 rfl ?_
    refine gf_X5_18 (pc := 34) X Y dX5_add_34 ?_
    refine lv_iconst (pc := 37) (v := 1) hx hb dX5_add_37 (by decide) ?_
    refine lv_iadd (pc := 38) hx hb dX5_add_38 ?_
    obtain ⟨C_39, hC_39, h⟩ := sto_s h
    refine pf_X5_18 (pc := 39) X Y hC_39 dX5_add_39 (fun H locs Y => ?_)
    refine lv_aload_n (pc := 42) hx hb dX5_add_42 rfl (lv_at hl 0 rfl) ?_
    refine gf_X5_18 (pc := 43) X Y dX5_add_43 ?_
    obtain ⟨hr9, hm9⟩ := ret_e h
    exact fin_i (pc := 46) X rfl Y hr9 hm9 rfl dX5_add_46
  · have h := itn c_6 h
    refine lv_bipush (pc := 9) (v := (-4)) hx hb dX5_add_9 (by decide) ?_
    obtain ⟨hr9, hm9⟩ := ret_e h
    exact fin_i (pc := 11) X rfl Y hr9 hm9 rfl dX5_add_11
abbrev rm_X5_missesOf : Room := { frames := 1, cells := 0, slots := 0, locals := 21 }
set_option maxHeartbeats 4000000 in
set_option maxRecDepth 100000 in
theorem WB_X5_missesOf_33 {r9 : Int32} (x0 : Int32) (v1 : Int32) (v2 : Int32) (v3 : Int32) (v4 : Int32) (C : Mem) (X : Cx p s m args meth c cX5_missesOf RX5 7 (some .int) dC dI ad bd cI cZ) {kb : Int32 → Int32 → Option Int32} (hkb : ∀ (v3' : Int32) (v4' : Int32) (H : Heap) (locs : List Loc) (ls : Array Slot), Ys s dC dI ad bd cI cZ C D H locs → lv_has ls 7 [(0, .ref (ad 40)), (1, .int v1), (2, .int v2), (3, .int v3'), (4, .int v4')] → kb v3' v4' = some r9 → W p l e rm_X5_missesOf s m args below meth c H locs 0 0 (MQ below (QC (some (.int r9)) dC dI ad bd cI cZ C D) args s 0 0 (AD ad bd)) (F0 m 5 ls [])) {H : Heap} {locs : List Loc} {ls : Array Slot} (Y : Ys s dC dI ad bd cI cZ C D H locs) (hl : lv_has ls 7 [(0, .ref (ad 40)), (1, .int v1), (2, .int v2), (3, .int v3), (4, .int v4)]) (h : B_X5_missesOf_33 x0 v3 v4 C kb = some r9) : W p l e rm_X5_missesOf s m args below meth c H locs 0 0 (MQ below (QC (some (.int r9)) dC dI ad bd cI cZ C D) args s 0 0 (AD ad bd)) (F0 m 33 ls [.int x0]) := by
  have hx := X.1
  have hb := X.2.1
  unfold B_X5_missesOf_33 at h
  refine lv_istore (pc := 33) (lv' := [(5, .int x0), (0, .ref (ad 40)), (1, .int v1), (2, .int v2), (3, .int v3), (4, .int v4)]) hx hb dX5_missesOf_33 hl (by decide) rfl (fun ls hl => ?_)
  refine lv_iconst (pc := 35) (v := 0) hx hb dX5_missesOf_35 (by decide) ?_
  refine lv_bipush (pc := 36) (v := 10) hx hb dX5_missesOf_36 (by decide) ?_
  refine lv_aload_n (pc := 38) hx hb dX5_missesOf_38 rfl (lv_at hl 1 rfl) ?_
  refine gf_X5_11 (pc := 39) X Y dX5_missesOf_39 ?_
  refine lv_iload (pc := 42) hx hb dX5_missesOf_42 (lv_at hl 5 rfl) ?_
  refine lv_iconst (pc := 44) (v := 1) hx hb dX5_missesOf_44 (by decide) ?_
  refine lv_isub (pc := 45) hx hb dX5_missesOf_45 ?_
  obtain ⟨g_46, h⟩ := gd_s h
  refine r_ialdc (pc := 46) X Y (ca_41 ad cI) g_46 dX5_missesOf_46 ?_
  refine lv_iload (pc := 47) hx hb dX5_missesOf_47 (lv_at hl 0 rfl) ?_
  refine lv_iadd (pc := 49) hx hb dX5_missesOf_49 ?_
  refine r_mmin (pc := 50) X w_X5_22 hl (Nat.le_of_ble_eq_true rfl) (Nat.le_of_ble_eq_true rfl) dX5_missesOf_50 ?_
  refine r_mmax (pc := 53) X w_X5_28 hl (Nat.le_of_ble_eq_true rfl) (Nat.le_of_ble_eq_true rfl) dX5_missesOf_53 ?_
  obtain ⟨v6_56, ev6_56, h⟩ := lt_s_ h
  refine top_i ev6_56 ?_
  refine lv_istore (pc := 56) (lv' := [(6, .int v6_56), (5, .int x0), (0, .ref (ad 40)), (1, .int v1), (2, .int v2), (3, .int v3), (4, .int v4)]) hx hb dX5_missesOf_56 hl (by decide) rfl (fun ls hl => ?_)
  refine lv_iload_n (pc := 58) hx hb dX5_missesOf_58 rfl (lv_at hl 5 rfl) ?_
  refine lv_aload_n (pc := 59) hx hb dX5_missesOf_59 rfl (lv_at hl 2 rfl) ?_
  refine gf_X5_11 (pc := 60) X Y dX5_missesOf_60 ?_
  refine lv_iload (pc := 63) hx hb dX5_missesOf_63 (lv_at hl 6 rfl) ?_
  obtain ⟨g_65, h⟩ := gd_s h
  refine r_ialdc (pc := 65) X Y (ca_41 ad cI) g_65 dX5_missesOf_65 ?_
  refine lv_iload (pc := 66) hx hb dX5_missesOf_66 (lv_at hl 0 rfl) ?_
  refine lv_isub (pc := 68) hx hb dX5_missesOf_68 ?_
  refine r_mabs (pc := 69) X w_X5_31 hl (Nat.le_of_ble_eq_true rfl) (Nat.le_of_ble_eq_true rfl) dX5_missesOf_69 ?_
  refine lv_iadd (pc := 72) hx hb dX5_missesOf_72 ?_
  obtain ⟨v3_73, ev3_73, h⟩ := lt_s_ h
  refine top_i ev3_73 ?_
  refine lv_istore_n (pc := 73) (lv' := [(3, .int v3_73), (6, .int v6_56), (5, .int x0), (0, .ref (ad 40)), (1, .int v1), (2, .int v2), (4, .int v4)]) hx hb dX5_missesOf_73 rfl hl (by decide) rfl (fun ls hl => ?_)
  obtain ⟨v4_74, ev4_74, h⟩ := lt_s_ h
  refine lv_iinc (pc := 74) (v := v4_74) (lv' := [(4, .int v4_74), (3, .int v3_73), (6, .int v6_56), (5, .int x0), (0, .ref (ad 40)), (1, .int v1), (2, .int v2)]) hx hb dX5_missesOf_74 hl (k := 6) rfl (by rw [ev4_74]; rfl) (by decide) rfl (fun ls hl => ?_)
  refine lv_goto (pc := 77) (tgt := 5) hx hb dX5_missesOf_77 (by decide) ?_
  exact hkb v3_73 v4_74 H locs ls Y (lv_sub hl [4, 5, 6, 1, 0] rfl) h
set_option maxHeartbeats 4000000 in
set_option maxRecDepth 100000 in
theorem WL_X5_missesOf_5 {r9 : Int32} (v1 : Int32) (v2 : Int32) (C : Mem) (X : Cx p s m args meth c cX5_missesOf RX5 7 (some .int) dC dI ad bd cI cZ) {kx : Int32 → Option Int32} (hkx : ∀ (v3' : Int32) (H : Heap) (locs : List Loc) (ls : Array Slot), Ys s dC dI ad bd cI cZ C D H locs → lv_has ls 7 [(3, .int v3')] → kx v3' = some r9 → W p l e rm_X5_missesOf s m args below meth c H locs 0 0 (MQ below (QC (some (.int r9)) dC dI ad bd cI cZ C D) args s 0 0 (AD ad bd)) (F0 m 80 ls [])) : ∀ (n_ : Nat) (v3 : Int32) (v4 : Int32) (H : Heap) (locs : List Loc) (ls : Array Slot), Ys s dC dI ad bd cI cZ C D H locs → lv_has ls 7 [(0, .ref (ad 40)), (1, .int v1), (2, .int v2), (3, .int v3), (4, .int v4)] → L_X5_missesOf_5 v1 v2 C kx n_ v3 v4 = some r9 → W p l e rm_X5_missesOf s m args below meth c H locs 0 0 (MQ below (QC (some (.int r9)) dC dI ad bd cI cZ C D) args s 0 0 (AD ad bd)) (F0 m 5 ls []) := by
  have hx := X.1
  have hb := X.2.1
  intro n_
  induction n_ with
  | zero =>
    intro v3 v4 H locs ls Y hl h
    cases h
  | succ n_ ih =>
    intro v3 v4 H locs ls Y hl h
    unfold L_X5_missesOf_5 at h
    refine lv_iload (pc := 5) hx hb dX5_missesOf_5 (lv_at hl 4 rfl) ?_
    refine lv_aload_n (pc := 7) hx hb dX5_missesOf_7 rfl (lv_at hl 0 rfl) ?_
    refine gf_X5_18 (pc := 8) X Y dX5_missesOf_8 ?_
    refine lv_icmp_ge (pc := 11) (tgt := 80) hx hb dX5_missesOf_11 (by decide) (fun c_11 => ?_) (fun c_11 => ?_)
    · have h := itp c_11 h
      exact hkx v3 H locs ls Y (lv_sub hl [3] rfl) h
    · have h := itn c_11 h
      refine lv_aload_n (pc := 14) hx hb dX5_missesOf_14 rfl (lv_at hl 0 rfl) ?_
      refine gf_X5_15 (pc := 15) X Y dX5_missesOf_15 ?_
      refine lv_iload (pc := 18) hx hb dX5_missesOf_18 (lv_at hl 4 rfl) ?_
      refine lv_iconst (pc := 20) (v := 1) hx hb dX5_missesOf_20 (by decide) ?_
      refine lv_isub (pc := 21) hx hb dX5_missesOf_21 ?_
      obtain ⟨g_22, h⟩ := gd_s h
      refine r_ialdc (pc := 22) X Y (ca_42 ad cI) g_22 dX5_missesOf_22 ?_
      refine lv_iconst (pc := 23) (v := 1) hx hb dX5_missesOf_23 (by decide) ?_
      refine lv_icmp_ne (pc := 24) (tgt := 32) hx hb dX5_missesOf_24 (by decide) (fun c_24 => ?_) (fun c_24 => ?_)
      · have h := itn c_24 h
        refine lv_iload_n (pc := 32) hx hb dX5_missesOf_32 rfl (lv_at hl 1 rfl) ?_
        exact WB_X5_missesOf_33 v1 v1 v2 v3 v4 C X (kb := (L_X5_missesOf_5 v1 v2 C kx n_)) ih Y (lv_sub hl [0, 1, 2, 3, 4] rfl) h
      · have h := itp c_24 h
        refine lv_iload_n (pc := 27) hx hb dX5_missesOf_27 rfl (lv_at hl 2 rfl) ?_
        refine lv_ineg (pc := 28) hx hb dX5_missesOf_28 ?_
        refine lv_goto (pc := 29) (tgt := 33) hx hb dX5_missesOf_29 (by decide) ?_
        exact WB_X5_missesOf_33 (-v2) v1 v2 v3 v4 C X (kb := (L_X5_missesOf_5 v1 v2 C kx n_)) ih Y (lv_sub hl [0, 1, 2, 3, 4] rfl) h
set_option maxHeartbeats 4000000 in
set_option maxRecDepth 100000 in
theorem c_X5_missesOf {r9 : Int32} (v1 : Int32) (v2 : Int32) (h : f_X5_missesOf v1 v2 C = some r9) : Ct l dC dI ad bd cI cZ yX5_missesOf cX5_missesOf 7 (some .int) rm_X5_missesOf [.ref (ad 40), .int v1, .int v2] C D (some (.int r9)) C D := by
  unfold f_X5_missesOf at h
  refine Ct.intro (own := RX5) (by decide) rfl (Nat.le_of_ble_eq_true rfl) ?_
  intro p e s m args below meth c H locs ls X Y hl
  have hx := X.1
  have hb := X.2.1
  have hl : lv_has ls 7 [(0, .ref (ad 40)), (1, .int v1), (2, .int v2)] := hl
  refine lv_iconst (pc := 0) (v := 0) hx hb dX5_missesOf_0 (by decide) ?_
  refine lv_istore_n (pc := 1) (lv' := [(3, .int 0), (0, .ref (ad 40)), (1, .int v1), (2, .int v2)]) hx hb dX5_missesOf_1 rfl hl (by decide) rfl (fun ls hl => ?_)
  refine lv_iconst (pc := 2) (v := 1) hx hb dX5_missesOf_2 (by decide) ?_
  refine lv_istore (pc := 3) (lv' := [(4, .int 1), (3, .int 0), (0, .ref (ad 40)), (1, .int v1), (2, .int v2)]) hx hb dX5_missesOf_3 hl (by decide) rfl (fun ls hl => ?_)
  refine WL_X5_missesOf_5 v1 v2 C X (fun v3_80 H locs ls Y hl h => ?_) FU 0 1 H locs ls Y (lv_sub hl [2, 3, 4, 1, 0] rfl) h
  refine lv_iload_n (pc := 80) hx hb dX5_missesOf_80 rfl (lv_at hl 0 rfl) ?_
  have hr9 := ret_p h
  exact fin_i (pc := 81) X rfl Y hr9 rfl rfl dX5_missesOf_81
abbrev rm_X5_learn : Room := { frames := 2, cells := 0, slots := 0, locals := 47 }
set_option maxHeartbeats 4000000 in
set_option maxRecDepth 100000 in
theorem WB_X5_learn_64 {C9 : Mem} (v1 : Int32) (v2 : Int32) (C : Mem) (X : Cx p s m args meth c cX5_learn RX5 4 (none) dC dI ad bd cI cZ) {kb : Int32 → Mem → Option Mem} (hkb : ∀ (v2' : Int32) (C' : Mem) (H : Heap) (locs : List Loc) (ls : Array Slot), Ys s dC dI ad bd cI cZ C' D H locs → lv_has ls 4 [(0, .ref (ad 40)), (1, .int v1), (2, .int v2')] → kb v2' C' = some C9 → W p l e rm_X5_learn s m args below meth c H locs 0 0 (MQ below (QC (none) dC dI ad bd cI cZ C9 D) args s 0 0 (AD ad bd)) (F0 m 29 ls [])) {H : Heap} {locs : List Loc} {ls : Array Slot} (Y : Ys s dC dI ad bd cI cZ C D H locs) (hl : lv_has ls 4 [(0, .ref (ad 40)), (1, .int v1), (2, .int v2)]) (h : B_X5_learn_64 v2 C kb = some C9) : W p l e rm_X5_learn s m args below meth c H locs 0 0 (MQ below (QC (none) dC dI ad bd cI cZ C9 D) args s 0 0 (AD ad bd)) (F0 m 64 ls []) := by
  have hx := X.1
  have hb := X.2.1
  unfold B_X5_learn_64 at h
  obtain ⟨v2_64, ev2_64, h⟩ := lt_s_ h
  refine lv_iinc (pc := 64) (v := v2_64) (lv' := [(2, .int v2_64), (0, .ref (ad 40)), (1, .int v1)]) hx hb dX5_learn_64 hl (k := 2) rfl (by rw [ev2_64]; rfl) (by decide) rfl (fun ls hl => ?_)
  refine lv_goto (pc := 67) (tgt := 29) hx hb dX5_learn_67 (by decide) ?_
  exact hkb v2_64 C H locs ls Y (lv_sub hl [1, 2, 0] rfl) h
set_option maxHeartbeats 4000000 in
set_option maxRecDepth 100000 in
theorem WL_X5_learn_29 {C9 : Mem} (v1 : Int32) (X : Cx p s m args meth c cX5_learn RX5 4 (none) dC dI ad bd cI cZ) {kx : Mem → Option Mem} (hkx : ∀ (C' : Mem) (H : Heap) (locs : List Loc) (ls : Array Slot), Ys s dC dI ad bd cI cZ C' D H locs → lv_has ls 4 [(0, .ref (ad 40)), (1, .int v1)] → kx C' = some C9 → W p l e rm_X5_learn s m args below meth c H locs 0 0 (MQ below (QC (none) dC dI ad bd cI cZ C9 D) args s 0 0 (AD ad bd)) (F0 m 70 ls [])) : ∀ (n_ : Nat) (v2 : Int32) (C : Mem) (H : Heap) (locs : List Loc) (ls : Array Slot), Ys s dC dI ad bd cI cZ C D H locs → lv_has ls 4 [(0, .ref (ad 40)), (1, .int v1), (2, .int v2)] → L_X5_learn_29 v1 kx n_ v2 C = some C9 → W p l e rm_X5_learn s m args below meth c H locs 0 0 (MQ below (QC (none) dC dI ad bd cI cZ C9 D) args s 0 0 (AD ad bd)) (F0 m 29 ls []) := by
  have hx := X.1
  have hb := X.2.1
  intro n_
  induction n_ with
  | zero =>
    intro v2 C H locs ls Y hl h
    cases h
  | succ n_ ih =>
    intro v2 C H locs ls Y hl h
    unfold L_X5_learn_29 at h
    refine lv_iload_n (pc := 29) hx hb dX5_learn_29 rfl (lv_at hl 2 rfl) ?_
    refine lv_iconst (pc := 30) (v := 4) hx hb dX5_learn_30 (by decide) ?_
    refine lv_icmp_gt (pc := 31) (tgt := 70) hx hb dX5_learn_31 (by decide) (fun c_31 => ?_) (fun c_31 => ?_)
    · have h := itp c_31 h
      exact hkx C H locs ls Y (lv_sub hl [0, 1] rfl) h
    · have h := itn c_31 h
      refine lv_aload_n (pc := 34) hx hb dX5_learn_34 rfl (lv_at hl 0 rfl) ?_
      refine lv_iload_n (pc := 35) hx hb dX5_learn_35 rfl (lv_at hl 1 rfl) ?_
      refine lv_iload_n (pc := 36) hx hb dX5_learn_36 rfl (lv_at hl 2 rfl) ?_
      obtain ⟨r_37, e_37, h⟩ := bnd_s h
      refine call_vi (pc := 37) (rest := []) [.int v1, .int v2] X Y (c_X5_missesOf v1 v2 e_37) sw_X5_41 (rv_X5 X Y) rfl ⟨rfl, rfl, Nat.le_of_ble_eq_true rfl, Nat.le_of_ble_eq_true rfl⟩ hl rfl (Nat.le_of_ble_eq_true rfl) dX5_learn_37 (fun H locs Y => ?_)
      refine lv_istore_n (pc := 40) (lv' := [(3, .int r_37), (0, .ref (ad 40)), (1, .int v1), (2, .int v2)]) hx hb dX5_learn_40 rfl hl (by decide) rfl (fun ls hl => ?_)
      refine lv_iload_n (pc := 41) hx hb dX5_learn_41 rfl (lv_at hl 0 rfl) ?_
      refine lv_aload_n (pc := 42) hx hb dX5_learn_42 rfl (lv_at hl 1 rfl) ?_
      refine gf_X5_44 (pc := 43) X Y dX5_learn_43 ?_
      refine lv_icmp_ge (pc := 46) (tgt := 64) hx hb dX5_learn_46 (by decide) (fun c_46 => ?_) (fun c_46 => ?_)
      · have h := itp c_46 h
        exact WB_X5_learn_64 v1 v2 C X (kb := (L_X5_learn_29 v1 kx n_)) ih Y (lv_sub hl [1, 2, 3] rfl) h
      · have h := itn c_46 h
        refine lv_aload_n (pc := 49) hx hb dX5_learn_49 rfl (lv_at hl 1 rfl) ?_
        refine lv_iload_n (pc := 50) hx hb dX5_learn_50 rfl (lv_at hl 0 rfl) ?_
        obtain ⟨C_51, hC_51, h⟩ := sto_s h
        refine pf_X5_44 (pc := 51) X Y hC_51 dX5_learn_51 (fun H locs Y => ?_)
        refine lv_aload_n (pc := 54) hx hb dX5_learn_54 rfl (lv_at hl 1 rfl) ?_
        refine lv_iload_n (pc := 55) hx hb dX5_learn_55 rfl (lv_at hl 2 rfl) ?_
        obtain ⟨C_56, hC_56, h⟩ := sto_s h
        refine pf_X5_35 (pc := 56) X Y hC_56 dX5_learn_56 (fun H locs Y => ?_)
        refine lv_aload_n (pc := 59) hx hb dX5_learn_59 rfl (lv_at hl 1 rfl) ?_
        refine lv_iload_n (pc := 60) hx hb dX5_learn_60 rfl (lv_at hl 3 rfl) ?_
        obtain ⟨C_61, hC_61, h⟩ := sto_s h
        refine pf_X5_38 (pc := 61) X Y hC_61 dX5_learn_61 (fun H locs Y => ?_)
        exact WB_X5_learn_64 v1 v2 C_61 X (kb := (L_X5_learn_29 v1 kx n_)) ih Y (lv_sub hl [1, 2, 3] rfl) h
set_option maxHeartbeats 4000000 in
set_option maxRecDepth 100000 in
theorem WL_X5_learn_22 {C9 : Mem} (X : Cx p s m args meth c cX5_learn RX5 4 (none) dC dI ad bd cI cZ) {kx : Mem → Option Mem} (hkx : ∀ (C' : Mem) (H : Heap) (locs : List Loc) (ls : Array Slot), Ys s dC dI ad bd cI cZ C' D H locs → lv_has ls 4 [] → kx C' = some C9 → W p l e rm_X5_learn s m args below meth c H locs 0 0 (MQ below (QC (none) dC dI ad bd cI cZ C9 D) args s 0 0 (AD ad bd)) (F0 m 76 ls [])) : ∀ (n_ : Nat) (v1 : Int32) (C : Mem) (H : Heap) (locs : List Loc) (ls : Array Slot), Ys s dC dI ad bd cI cZ C D H locs → lv_has ls 4 [(0, .ref (ad 40)), (1, .int v1)] → L_X5_learn_22 kx n_ v1 C = some C9 → W p l e rm_X5_learn s m args below meth c H locs 0 0 (MQ below (QC (none) dC dI ad bd cI cZ C9 D) args s 0 0 (AD ad bd)) (F0 m 22 ls []) := by
  have hx := X.1
  have hb := X.2.1
  intro n_
  induction n_ with
  | zero =>
    intro v1 C H locs ls Y hl h
    cases h
  | succ n_ ih =>
    intro v1 C H locs ls Y hl h
    unfold L_X5_learn_22 at h
    refine lv_iload_n (pc := 22) hx hb dX5_learn_22 rfl (lv_at hl 1 rfl) ?_
    refine lv_iconst (pc := 23) (v := 4) hx hb dX5_learn_23 (by decide) ?_
    refine lv_icmp_gt (pc := 24) (tgt := 76) hx hb dX5_learn_24 (by decide) (fun c_24 => ?_) (fun c_24 => ?_)
    · have h := itp c_24 h
      exact hkx C H locs ls Y (lv_sub hl [] rfl) h
    · have h := itn c_24 h
      refine lv_iconst (pc := 27) (v := 0) hx hb dX5_learn_27 (by decide) ?_
      refine lv_istore_n (pc := 28) (lv' := [(2, .int 0), (0, .ref (ad 40)), (1, .int v1)]) hx hb dX5_learn_28 rfl hl (by decide) rfl (fun ls hl => ?_)
      refine WL_X5_learn_29 v1 X (fun C_70 H locs ls Y hl h => ?_) FU 0 C H locs ls Y (lv_sub hl [1, 2, 0] rfl) h
      obtain ⟨v1_70, ev1_70, h⟩ := lt_s_ h
      refine lv_iinc (pc := 70) (v := v1_70) (lv' := [(1, .int v1_70), (0, .ref (ad 40))]) hx hb dX5_learn_70 hl (k := 1) rfl (by rw [ev1_70]; rfl) (by decide) rfl (fun ls hl => ?_)
      refine lv_goto (pc := 73) (tgt := 22) hx hb dX5_learn_73 (by decide) ?_
      exact ih v1_70 C_70 H locs ls Y (lv_sub hl [1, 0] rfl) h
set_option maxHeartbeats 4000000 in
set_option maxRecDepth 100000 in
theorem c_X5_learn {C9 : Mem} (h : f_X5_learn C = some C9) : Ct l dC dI ad bd cI cZ yX5_learn cX5_learn 4 (none) rm_X5_learn [.ref (ad 40)] C D (none) C9 D := by
  unfold f_X5_learn at h
  refine Ct.intro (own := RX5) (by decide) rfl (Nat.le_of_ble_eq_true rfl) ?_
  intro p e s m args below meth c H locs ls X Y hl
  have hx := X.1
  have hb := X.2.1
  have hl : lv_has ls 4 [(0, .ref (ad 40))] := hl
  refine lv_aload_n (pc := 0) hx hb dX5_learn_0 rfl (lv_at hl 0 rfl) ?_
  refine lv_iconst (pc := 1) (v := 0) hx hb dX5_learn_1 (by decide) ?_
  obtain ⟨C_2, hC_2, h⟩ := sto_s h
  refine pf_X5_35 (pc := 2) X Y hC_2 dX5_learn_2 (fun H locs Y => ?_)
  refine lv_aload_n (pc := 5) hx hb dX5_learn_5 rfl (lv_at hl 0 rfl) ?_
  refine lv_iconst (pc := 6) (v := 0) hx hb dX5_learn_6 (by decide) ?_
  obtain ⟨C_7, hC_7, h⟩ := sto_s h
  refine pf_X5_38 (pc := 7) X Y hC_7 dX5_learn_7 (fun H locs Y => ?_)
  refine lv_aload_n (pc := 10) hx hb dX5_learn_10 rfl (lv_at hl 0 rfl) ?_
  refine lv_aload_n (pc := 11) hx hb dX5_learn_11 rfl (lv_at hl 0 rfl) ?_
  refine lv_iconst (pc := 12) (v := 0) hx hb dX5_learn_12 (by decide) ?_
  refine lv_iconst (pc := 13) (v := 0) hx hb dX5_learn_13 (by decide) ?_
  obtain ⟨r_14, e_14, h⟩ := bnd_s h
  refine call_vi (pc := 14) (rest := [.ref (ad 40)]) [.int 0, .int 0] X Y (c_X5_missesOf 0 0 e_14) sw_X5_41 (rv_X5 X Y) rfl ⟨rfl, rfl, Nat.le_of_ble_eq_true rfl, Nat.le_of_ble_eq_true rfl⟩ hl rfl (Nat.le_of_ble_eq_true rfl) dX5_learn_14 (fun H locs Y => ?_)
  obtain ⟨C_17, hC_17, h⟩ := sto_s h
  refine pf_X5_44 (pc := 17) X Y hC_17 dX5_learn_17 (fun H locs Y => ?_)
  refine lv_iconst (pc := 20) (v := 0) hx hb dX5_learn_20 (by decide) ?_
  refine lv_istore_n (pc := 21) (lv' := [(1, .int 0), (0, .ref (ad 40))]) hx hb dX5_learn_21 rfl hl (by decide) rfl (fun ls hl => ?_)
  refine WL_X5_learn_22 X (fun C_76 H locs ls Y hl h => ?_) FU 0 C_17 H locs ls Y (lv_sub hl [1, 0] rfl) h
  have hm9 := ret_v h
  exact fin_v (pc := 76) X rfl Y hm9 rfl dX5_learn_76
abbrev rm_X5_got : Room := { frames := 0, cells := 0, slots := 0, locals := 0 }
set_option maxHeartbeats 4000000 in
set_option maxRecDepth 100000 in
theorem WL_X5_got_4 {r9 : Int32} (C : Mem) (X : Cx p s m args meth c cX5_got RX5 3 (some .int) dC dI ad bd cI cZ) {kx : Int32 → Option Int32} (hkx : ∀ (v1' : Int32) (H : Heap) (locs : List Loc) (ls : Array Slot), Ys s dC dI ad bd cI cZ C D H locs → lv_has ls 3 [(1, .int v1')] → kx v1' = some r9 → W p l e rm_X5_got s m args below meth c H locs 0 0 (MQ below (QC (some (.int r9)) dC dI ad bd cI cZ C D) args s 0 0 (AD ad bd)) (F0 m 37 ls [])) : ∀ (n_ : Nat) (v1 : Int32) (v2 : Int32) (H : Heap) (locs : List Loc) (ls : Array Slot), Ys s dC dI ad bd cI cZ C D H locs → lv_has ls 3 [(0, .ref (ad 40)), (1, .int v1), (2, .int v2)] → L_X5_got_4 C kx n_ v1 v2 = some r9 → W p l e rm_X5_got s m args below meth c H locs 0 0 (MQ below (QC (some (.int r9)) dC dI ad bd cI cZ C D) args s 0 0 (AD ad bd)) (F0 m 4 ls []) := by
  have hx := X.1
  have hb := X.2.1
  intro n_
  induction n_ with
  | zero =>
    intro v1 v2 H locs ls Y hl h
    cases h
  | succ n_ ih =>
    intro v1 v2 H locs ls Y hl h
    unfold L_X5_got_4 at h
    refine lv_iload_n (pc := 4) hx hb dX5_got_4 rfl (lv_at hl 2 rfl) ?_
    refine lv_aload_n (pc := 5) hx hb dX5_got_5 rfl (lv_at hl 0 rfl) ?_
    refine gf_X5_18 (pc := 6) X Y dX5_got_6 ?_
    refine lv_icmp_ge (pc := 9) (tgt := 37) hx hb dX5_got_9 (by decide) (fun c_9 => ?_) (fun c_9 => ?_)
    · have h := itp c_9 h
      exact hkx v1 H locs ls Y (lv_sub hl [1] rfl) h
    · have h := itn c_9 h
      refine lv_iload_n (pc := 12) hx hb dX5_got_12 rfl (lv_at hl 1 rfl) ?_
      refine lv_aload_n (pc := 13) hx hb dX5_got_13 rfl (lv_at hl 0 rfl) ?_
      refine gf_X5_15 (pc := 14) X Y dX5_got_14 ?_
      refine lv_iload_n (pc := 17) hx hb dX5_got_17 rfl (lv_at hl 2 rfl) ?_
      obtain ⟨g_18, h⟩ := gd_s h
      refine r_ialdc (pc := 18) X Y (ca_42 ad cI) g_18 dX5_got_18 ?_
      refine lv_bipush (pc := 19) (v := 10) hx hb dX5_got_19 (by decide) ?_
      refine lv_aload_n (pc := 21) hx hb dX5_got_21 rfl (lv_at hl 0 rfl) ?_
      refine gf_X5_11 (pc := 22) X Y dX5_got_22 ?_
      refine lv_iload_n (pc := 25) hx hb dX5_got_25 rfl (lv_at hl 2 rfl) ?_
      obtain ⟨g_26, h⟩ := gd_s h
      refine r_ialdc (pc := 26) X Y (ca_41 ad cI) g_26 dX5_got_26 ?_
      refine lv_isub (pc := 27) hx hb dX5_got_27 ?_
      refine lv_imul (pc := 28) hx hb dX5_got_28 ?_
      refine lv_iadd (pc := 29) hx hb dX5_got_29 ?_
      obtain ⟨v1_30, ev1_30, h⟩ := lt_s_ h
      refine top_i ev1_30 ?_
      refine lv_istore_n (pc := 30) (lv' := [(1, .int v1_30), (0, .ref (ad 40)), (2, .int v2)]) hx hb dX5_got_30 rfl hl (by decide) rfl (fun ls hl => ?_)
      obtain ⟨v2_31, ev2_31, h⟩ := lt_s_ h
      refine lv_iinc (pc := 31) (v := v2_31) (lv' := [(2, .int v2_31), (1, .int v1_30), (0, .ref (ad 40))]) hx hb dX5_got_31 hl (k := 2) rfl (by rw [ev2_31]; rfl) (by decide) rfl (fun ls hl => ?_)
      refine lv_goto (pc := 34) (tgt := 4) hx hb dX5_got_34 (by decide) ?_
      exact ih v1_30 v2_31 H locs ls Y (lv_sub hl [2, 1, 0] rfl) h
set_option maxHeartbeats 4000000 in
set_option maxRecDepth 100000 in
theorem c_X5_got {r9 : Int32} (h : f_X5_got C = some r9) : Ct l dC dI ad bd cI cZ yX5_got cX5_got 3 (some .int) rm_X5_got [.ref (ad 40)] C D (some (.int r9)) C D := by
  unfold f_X5_got at h
  refine Ct.intro (own := RX5) (by decide) rfl (Nat.le_of_ble_eq_true rfl) ?_
  intro p e s m args below meth c H locs ls X Y hl
  have hx := X.1
  have hb := X.2.1
  have hl : lv_has ls 3 [(0, .ref (ad 40))] := hl
  refine lv_iconst (pc := 0) (v := 0) hx hb dX5_got_0 (by decide) ?_
  refine lv_istore_n (pc := 1) (lv' := [(1, .int 0), (0, .ref (ad 40))]) hx hb dX5_got_1 rfl hl (by decide) rfl (fun ls hl => ?_)
  refine lv_iconst (pc := 2) (v := 0) hx hb dX5_got_2 (by decide) ?_
  refine lv_istore_n (pc := 3) (lv' := [(2, .int 0), (1, .int 0), (0, .ref (ad 40))]) hx hb dX5_got_3 rfl hl (by decide) rfl (fun ls hl => ?_)
  refine WL_X5_got_4 C X (fun v1_37 H locs ls Y hl h => ?_) FU 0 0 H locs ls Y (lv_sub hl [2, 1, 0] rfl) h
  refine lv_iload_n (pc := 37) hx hb dX5_got_37 rfl (lv_at hl 0 rfl) ?_
  have hr9 := ret_p h
  exact fin_i (pc := 38) X rfl Y hr9 rfl rfl dX5_got_38
abbrev rm_X5_takenUpTo : Room := { frames := 0, cells := 0, slots := 0, locals := 0 }
set_option maxHeartbeats 4000000 in
set_option maxRecDepth 100000 in
theorem WB_X5_takenUpTo_33 {r9 : Int32} (x0 : Int32) (x1 : Int32) (v1 : Int32) (v3 : Int32) (C : Mem) (X : Cx p s m args meth c cX5_takenUpTo RX5 4 (some .int) dC dI ad bd cI cZ) {kb : Int32 → Int32 → Option Int32} (hkb : ∀ (v2' : Int32) (v3' : Int32) (H : Heap) (locs : List Loc) (ls : Array Slot), Ys s dC dI ad bd cI cZ C D H locs → lv_has ls 4 [(0, .ref (ad 40)), (1, .int v1), (2, .int v2'), (3, .int v3')] → kb v2' v3' = some r9 → W p l e rm_X5_takenUpTo s m args below meth c H locs 0 0 (MQ below (QC (some (.int r9)) dC dI ad bd cI cZ C D) args s 0 0 (AD ad bd)) (F0 m 4 ls [])) {H : Heap} {locs : List Loc} {ls : Array Slot} (Y : Ys s dC dI ad bd cI cZ C D H locs) (hl : lv_has ls 4 [(0, .ref (ad 40)), (1, .int v1), (3, .int v3)]) (h : B_X5_takenUpTo_33 x0 x1 v3 kb = some r9) : W p l e rm_X5_takenUpTo s m args below meth c H locs 0 0 (MQ below (QC (some (.int r9)) dC dI ad bd cI cZ C D) args s 0 0 (AD ad bd)) (F0 m 33 ls [.int x1, .int x0]) := by
  have hx := X.1
  have hb := X.2.1
  unfold B_X5_takenUpTo_33 at h
  refine lv_iadd (pc := 33) hx hb dX5_takenUpTo_33 ?_
  obtain ⟨v2_34, ev2_34, h⟩ := lt_s_ h
  refine top_i ev2_34 ?_
  refine lv_istore_n (pc := 34) (lv' := [(2, .int v2_34), (0, .ref (ad 40)), (1, .int v1), (3, .int v3)]) hx hb dX5_takenUpTo_34 rfl hl (by decide) rfl (fun ls hl => ?_)
  obtain ⟨v3_35, ev3_35, h⟩ := lt_s_ h
  refine lv_iinc (pc := 35) (v := v3_35) (lv' := [(3, .int v3_35), (2, .int v2_34), (0, .ref (ad 40)), (1, .int v1)]) hx hb dX5_takenUpTo_35 hl (k := 3) rfl (by rw [ev3_35]; rfl) (by decide) rfl (fun ls hl => ?_)
  refine lv_goto (pc := 38) (tgt := 4) hx hb dX5_takenUpTo_38 (by decide) ?_
  exact hkb v2_34 v3_35 H locs ls Y (lv_sub hl [2, 3, 1, 0] rfl) h
set_option maxHeartbeats 4000000 in
set_option maxRecDepth 100000 in
theorem WL_X5_takenUpTo_4 {r9 : Int32} (v1 : Int32) (C : Mem) (X : Cx p s m args meth c cX5_takenUpTo RX5 4 (some .int) dC dI ad bd cI cZ) {kx : Int32 → Option Int32} (hkx : ∀ (v2' : Int32) (H : Heap) (locs : List Loc) (ls : Array Slot), Ys s dC dI ad bd cI cZ C D H locs → lv_has ls 4 [(2, .int v2')] → kx v2' = some r9 → W p l e rm_X5_takenUpTo s m args below meth c H locs 0 0 (MQ below (QC (some (.int r9)) dC dI ad bd cI cZ C D) args s 0 0 (AD ad bd)) (F0 m 41 ls [])) : ∀ (n_ : Nat) (v2 : Int32) (v3 : Int32) (H : Heap) (locs : List Loc) (ls : Array Slot), Ys s dC dI ad bd cI cZ C D H locs → lv_has ls 4 [(0, .ref (ad 40)), (1, .int v1), (2, .int v2), (3, .int v3)] → L_X5_takenUpTo_4 v1 C kx n_ v2 v3 = some r9 → W p l e rm_X5_takenUpTo s m args below meth c H locs 0 0 (MQ below (QC (some (.int r9)) dC dI ad bd cI cZ C D) args s 0 0 (AD ad bd)) (F0 m 4 ls []) := by
  have hx := X.1
  have hb := X.2.1
  intro n_
  induction n_ with
  | zero =>
    intro v2 v3 H locs ls Y hl h
    cases h
  | succ n_ ih =>
    intro v2 v3 H locs ls Y hl h
    unfold L_X5_takenUpTo_4 at h
    refine lv_iload_n (pc := 4) hx hb dX5_takenUpTo_4 rfl (lv_at hl 3 rfl) ?_
    refine lv_aload_n (pc := 5) hx hb dX5_takenUpTo_5 rfl (lv_at hl 0 rfl) ?_
    refine gf_X5_18 (pc := 6) X Y dX5_takenUpTo_6 ?_
    refine lv_icmp_ge (pc := 9) (tgt := 41) hx hb dX5_takenUpTo_9 (by decide) (fun c_9 => ?_) (fun c_9 => ?_)
    · have h := itp c_9 h
      exact hkx v2 H locs ls Y (lv_sub hl [2] rfl) h
    · have h := itn c_9 h
      refine lv_iload_n (pc := 12) hx hb dX5_takenUpTo_12 rfl (lv_at hl 2 rfl) ?_
      refine lv_aload_n (pc := 13) hx hb dX5_takenUpTo_13 rfl (lv_at hl 0 rfl) ?_
      refine gf_X5_11 (pc := 14) X Y dX5_takenUpTo_14 ?_
      refine lv_iload_n (pc := 17) hx hb dX5_takenUpTo_17 rfl (lv_at hl 3 rfl) ?_
      obtain ⟨g_18, h⟩ := gd_s h
      refine r_ialdc (pc := 18) X Y (ca_41 ad cI) g_18 dX5_takenUpTo_18 ?_
      refine lv_iload_n (pc := 19) hx hb dX5_takenUpTo_19 rfl (lv_at hl 1 rfl) ?_
      refine lv_icmp_gt (pc := 20) (tgt := 32) hx hb dX5_takenUpTo_20 (by decide) (fun c_20 => ?_) (fun c_20 => ?_)
      · have h := itp c_20 h
        refine lv_iconst (pc := 32) (v := 0) hx hb dX5_takenUpTo_32 (by decide) ?_
        exact WB_X5_takenUpTo_33 v2 0 v1 v3 C X (kb := (L_X5_takenUpTo_4 v1 C kx n_)) ih Y (lv_sub hl [0, 1, 3] rfl) h
      · have h := itn c_20 h
        refine lv_aload_n (pc := 23) hx hb dX5_takenUpTo_23 rfl (lv_at hl 0 rfl) ?_
        refine gf_X5_15 (pc := 24) X Y dX5_takenUpTo_24 ?_
        refine lv_iload_n (pc := 27) hx hb dX5_takenUpTo_27 rfl (lv_at hl 3 rfl) ?_
        obtain ⟨g_28, h⟩ := gd_s h
        refine r_ialdc (pc := 28) X Y (ca_42 ad cI) g_28 dX5_takenUpTo_28 ?_
        refine lv_goto (pc := 29) (tgt := 33) hx hb dX5_takenUpTo_29 (by decide) ?_
        exact WB_X5_takenUpTo_33 v2 (C 42 v3.toNatClampNeg) v1 v3 C X (kb := (L_X5_takenUpTo_4 v1 C kx n_)) ih Y (lv_sub hl [0, 1, 3] rfl) h
set_option maxHeartbeats 4000000 in
set_option maxRecDepth 100000 in
theorem c_X5_takenUpTo {r9 : Int32} (v1 : Int32) (h : f_X5_takenUpTo v1 C = some r9) : Ct l dC dI ad bd cI cZ yX5_takenUpTo cX5_takenUpTo 4 (some .int) rm_X5_takenUpTo [.ref (ad 40), .int v1] C D (some (.int r9)) C D := by
  unfold f_X5_takenUpTo at h
  refine Ct.intro (own := RX5) (by decide) rfl (Nat.le_of_ble_eq_true rfl) ?_
  intro p e s m args below meth c H locs ls X Y hl
  have hx := X.1
  have hb := X.2.1
  have hl : lv_has ls 4 [(0, .ref (ad 40)), (1, .int v1)] := hl
  refine lv_iconst (pc := 0) (v := 0) hx hb dX5_takenUpTo_0 (by decide) ?_
  refine lv_istore_n (pc := 1) (lv' := [(2, .int 0), (0, .ref (ad 40)), (1, .int v1)]) hx hb dX5_takenUpTo_1 rfl hl (by decide) rfl (fun ls hl => ?_)
  refine lv_iconst (pc := 2) (v := 0) hx hb dX5_takenUpTo_2 (by decide) ?_
  refine lv_istore_n (pc := 3) (lv' := [(3, .int 0), (2, .int 0), (0, .ref (ad 40)), (1, .int v1)]) hx hb dX5_takenUpTo_3 rfl hl (by decide) rfl (fun ls hl => ?_)
  refine WL_X5_takenUpTo_4 v1 C X (fun v2_41 H locs ls Y hl h => ?_) FU 0 0 H locs ls Y (lv_sub hl [2, 3, 1, 0] rfl) h
  refine lv_iload_n (pc := 41) hx hb dX5_takenUpTo_41 rfl (lv_at hl 0 rfl) ?_
  have hr9 := ret_p h
  exact fin_i (pc := 42) X rfl Y hr9 rfl rfl dX5_takenUpTo_42
abbrev rm_X5_could : Room := { frames := 1, cells := 0, slots := 0, locals := 23 }
set_option maxHeartbeats 4000000 in
set_option maxRecDepth 100000 in
theorem WL_X5_could_4 {r9 : Int32} (C : Mem) (X : Cx p s m args meth c cX5_could RX5 3 (some .int) dC dI ad bd cI cZ) {kx : Int32 → Option Int32} (hkx : ∀ (v1' : Int32) (H : Heap) (locs : List Loc) (ls : Array Slot), Ys s dC dI ad bd cI cZ C D H locs → lv_has ls 3 [(1, .int v1')] → kx v1' = some r9 → W p l e rm_X5_could s m args below meth c H locs 0 0 (MQ below (QC (some (.int r9)) dC dI ad bd cI cZ C D) args s 0 0 (AD ad bd)) (F0 m 31 ls [])) : ∀ (n_ : Nat) (v1 : Int32) (v2 : Int32) (H : Heap) (locs : List Loc) (ls : Array Slot), Ys s dC dI ad bd cI cZ C D H locs → lv_has ls 3 [(0, .ref (ad 40)), (1, .int v1), (2, .int v2)] → L_X5_could_4 C kx n_ v1 v2 = some r9 → W p l e rm_X5_could s m args below meth c H locs 0 0 (MQ below (QC (some (.int r9)) dC dI ad bd cI cZ C D) args s 0 0 (AD ad bd)) (F0 m 4 ls []) := by
  have hx := X.1
  have hb := X.2.1
  intro n_
  induction n_ with
  | zero =>
    intro v1 v2 H locs ls Y hl h
    cases h
  | succ n_ ih =>
    intro v1 v2 H locs ls Y hl h
    unfold L_X5_could_4 at h
    refine lv_iload_n (pc := 4) hx hb dX5_could_4 rfl (lv_at hl 2 rfl) ?_
    refine lv_bipush (pc := 5) (v := 11) hx hb dX5_could_5 (by decide) ?_
    refine lv_icmp_ge (pc := 7) (tgt := 31) hx hb dX5_could_7 (by decide) (fun c_7 => ?_) (fun c_7 => ?_)
    · have h := itp c_7 h
      exact hkx v1 H locs ls Y (lv_sub hl [1] rfl) h
    · have h := itn c_7 h
      refine lv_iload_n (pc := 10) hx hb dX5_could_10 rfl (lv_at hl 1 rfl) ?_
      refine lv_bipush (pc := 11) (v := 10) hx hb dX5_could_11 (by decide) ?_
      refine lv_iload_n (pc := 13) hx hb dX5_could_13 rfl (lv_at hl 2 rfl) ?_
      refine lv_isub (pc := 14) hx hb dX5_could_14 ?_
      refine lv_aload_n (pc := 15) hx hb dX5_could_15 rfl (lv_at hl 0 rfl) ?_
      refine lv_iload_n (pc := 16) hx hb dX5_could_16 rfl (lv_at hl 2 rfl) ?_
      obtain ⟨r_17, e_17, h⟩ := bnd_s h
      refine call_vi (pc := 17) (rest := [.int (10 - v2), .int v1]) [.int v2] X Y (c_X5_takenUpTo v2 e_17) sw_X5_47 (rv_X5 X Y) rfl ⟨rfl, rfl, Nat.le_of_ble_eq_true rfl, Nat.le_of_ble_eq_true rfl⟩ hl rfl (Nat.le_of_ble_eq_true rfl) dX5_could_17 (fun H locs Y => ?_)
      refine lv_imul (pc := 20) hx hb dX5_could_20 ?_
      refine r_mmax (pc := 21) X w_X5_28 hl (Nat.le_of_ble_eq_true rfl) (Nat.le_of_ble_eq_true rfl) dX5_could_21 ?_
      obtain ⟨v1_24, ev1_24, h⟩ := lt_s_ h
      refine top_i ev1_24 ?_
      refine lv_istore_n (pc := 24) (lv' := [(1, .int v1_24), (0, .ref (ad 40)), (2, .int v2)]) hx hb dX5_could_24 rfl hl (by decide) rfl (fun ls hl => ?_)
      obtain ⟨v2_25, ev2_25, h⟩ := lt_s_ h
      refine lv_iinc (pc := 25) (v := v2_25) (lv' := [(2, .int v2_25), (1, .int v1_24), (0, .ref (ad 40))]) hx hb dX5_could_25 hl (k := 2) rfl (by rw [ev2_25]; rfl) (by decide) rfl (fun ls hl => ?_)
      refine lv_goto (pc := 28) (tgt := 4) hx hb dX5_could_28 (by decide) ?_
      exact ih v1_24 v2_25 H locs ls Y (lv_sub hl [2, 1, 0] rfl) h
set_option maxHeartbeats 4000000 in
set_option maxRecDepth 100000 in
theorem c_X5_could {r9 : Int32} (h : f_X5_could C = some r9) : Ct l dC dI ad bd cI cZ yX5_could cX5_could 3 (some .int) rm_X5_could [.ref (ad 40)] C D (some (.int r9)) C D := by
  unfold f_X5_could at h
  refine Ct.intro (own := RX5) (by decide) rfl (Nat.le_of_ble_eq_true rfl) ?_
  intro p e s m args below meth c H locs ls X Y hl
  have hx := X.1
  have hb := X.2.1
  have hl : lv_has ls 3 [(0, .ref (ad 40))] := hl
  refine lv_iconst (pc := 0) (v := 0) hx hb dX5_could_0 (by decide) ?_
  refine lv_istore_n (pc := 1) (lv' := [(1, .int 0), (0, .ref (ad 40))]) hx hb dX5_could_1 rfl hl (by decide) rfl (fun ls hl => ?_)
  refine lv_iconst (pc := 2) (v := 0) hx hb dX5_could_2 (by decide) ?_
  refine lv_istore_n (pc := 3) (lv' := [(2, .int 0), (1, .int 0), (0, .ref (ad 40))]) hx hb dX5_could_3 rfl hl (by decide) rfl (fun ls hl => ?_)
  refine WL_X5_could_4 C X (fun v1_31 H locs ls Y hl h => ?_) FU 0 0 H locs ls Y (lv_sub hl [2, 1, 0] rfl) h
  refine lv_iload_n (pc := 31) hx hb dX5_could_31 rfl (lv_at hl 0 rfl) ?_
  have hr9 := ret_p h
  exact fin_i (pc := 32) X rfl Y hr9 rfl rfl dX5_could_32
abbrev rm_X6_has : Room := { frames := 0, cells := 0, slots := 0, locals := 0 }
set_option maxHeartbeats 4000000 in
set_option maxRecDepth 100000 in
theorem c_X6_has (v1 : Int32) : Ct l dC dI ad bd cI cZ yX6_has cX6_has 2 (some .boolean) rm_X6_has [.ref (ad 14), .int v1] C D (some (.int (b2i (f_X6_has v1 C)))) C D := by
  obtain ⟨r9, h⟩ : ∃ r9, f_X6_has v1 C = r9 := ⟨_, rfl⟩
  rw [h]
  unfold f_X6_has at h
  refine Ct.intro (own := RX6) (by decide) rfl (Nat.le_of_ble_eq_true rfl) ?_
  intro p e s m args below meth c H locs ls X Y hl
  have hx := X.1
  have hb := X.2.1
  have hl : lv_has ls 2 [(0, .ref (ad 14)), (1, .int v1)] := hl
  refine lv_iload_n (pc := 0) hx hb dX6_has_0 rfl (lv_at hl 1 rfl) ?_
  refine lv_if_lt (pc := 1) (tgt := 16) hx hb dX6_has_1 (by decide) (fun c_1 => ?_) (fun c_1 => ?_)
  · have h := itp c_1 h
    refine lv_iconst (pc := 16) (v := 0) hx hb dX6_has_16 (by decide) ?_
    have hr9 := h
    exact fin_z (b := false) (pc := 17) X rfl Y rfl hr9 rfl rfl dX6_has_17
  · have h := itn c_1 h
    refine lv_iload_n (pc := 4) hx hb dX6_has_4 rfl (lv_at hl 1 rfl) ?_
    refine lv_aload_n (pc := 5) hx hb dX6_has_5 rfl (lv_at hl 0 rfl) ?_
    refine gf_X6_21 (pc := 6) X Y dX6_has_6 ?_
    refine lv_icmp_ge (pc := 9) (tgt := 16) hx hb dX6_has_9 (by decide) (fun c_9 => ?_) (fun c_9 => ?_)
    · have h := itp c_9 h
      refine lv_iconst (pc := 16) (v := 0) hx hb dX6_has_16 (by decide) ?_
      have hr9 := h
      exact fin_z (b := false) (pc := 17) X rfl Y rfl hr9 rfl rfl dX6_has_17
    · have h := itn c_9 h
      refine lv_iconst (pc := 12) (v := 1) hx hb dX6_has_12 (by decide) ?_
      refine lv_goto (pc := 13) (tgt := 17) hx hb dX6_has_13 (by decide) ?_
      have hr9 := h
      exact fin_z (b := true) (pc := 17) X rfl Y rfl hr9 rfl rfl dX6_has_17
abbrev rm_X6_add : Room := { frames := 0, cells := 0, slots := 0, locals := 0 }
set_option maxHeartbeats 4000000 in
set_option maxRecDepth 100000 in
theorem c_X6_add {r9 : Int32} {C9 : Mem} (v1 : Int32) (v2 : Int32) (h : f_X6_add v1 v2 C = some (r9, C9)) : Ct l dC dI ad bd cI cZ yX6_add cX6_add 3 (some .int) rm_X6_add [.ref (ad 14), .int v1, .int v2] C D (some (.int r9)) C9 D := by
  unfold f_X6_add at h
  refine Ct.intro (own := RX6) (by decide) rfl (Nat.le_of_ble_eq_true rfl) ?_
  intro p e s m args below meth c H locs ls X Y hl
  have hx := X.1
  have hb := X.2.1
  have hl : lv_has ls 3 [(0, .ref (ad 14)), (1, .int v1), (2, .int v2)] := hl
  refine lv_aload_n (pc := 0) hx hb dX6_add_0 rfl (lv_at hl 0 rfl) ?_
  refine gf_X6_21 (pc := 1) X Y dX6_add_1 ?_
  refine lv_bipush (pc := 4) (v := 12) hx hb dX6_add_4 (by decide) ?_
  refine lv_icmp_lt (pc := 6) (tgt := 12) hx hb dX6_add_6 (by decide) (fun c_6 => ?_) (fun c_6 => ?_)
  · have h := itp c_6 h
    refine lv_aload_n (pc := 12) hx hb dX6_add_12 rfl (lv_at hl 0 rfl) ?_
    refine gf_X6_11 (pc := 13) X Y dX6_add_13 ?_
    refine lv_aload_n (pc := 16) hx hb dX6_add_16 rfl (lv_at hl 0 rfl) ?_
    refine gf_X6_21 (pc := 17) X Y dX6_add_17 ?_
    refine lv_iload_n (pc := 20) hx hb dX6_add_20 rfl (lv_at hl 1 rfl) ?_
    obtain ⟨g_21, h⟩ := gd_s h
    obtain ⟨C_21, hC_21, h⟩ := sto_s h
    refine r_iastc (pc := 21) X Y (ca_15 ad cI) g_21 hC_21 dX6_add_21 (fun H locs Y => ?_)
    refine lv_aload_n (pc := 22) hx hb dX6_add_22 rfl (lv_at hl 0 rfl) ?_
    refine gf_X6_15 (pc := 23) X Y dX6_add_23 ?_
    refine lv_aload_n (pc := 26) hx hb dX6_add_26 rfl (lv_at hl 0 rfl) ?_
    refine gf_X6_21 (pc := 27) X Y dX6_add_27 ?_
    refine lv_iload_n (pc := 30) hx hb dX6_add_30 rfl (lv_at hl 2 rfl) ?_
    obtain ⟨g_31, h⟩ := gd_s h
    obtain ⟨C_31, hC_31, h⟩ := sto_s h
    refine r_iastc (pc := 31) X Y (ca_16 ad cI) g_31 hC_31 dX6_add_31 (fun H locs Y => ?_)
    refine lv_aload_n (pc := 32) hx hb dX6_add_32 rfl (lv_at hl 0 rfl) ?_
    refine lv_dup (pc := 33) hx hb dX6_add_33 rfl ?_
    refine gf_X6_21 (pc := 34) X Y dX6_add_34 ?_
    refine lv_iconst (pc := 37) (v := 1) hx hb dX6_add_37 (by decide) ?_
    refine lv_iadd (pc := 38) hx hb dX6_add_38 ?_
    obtain ⟨C_39, hC_39, h⟩ := sto_s h
    refine pf_X6_21 (pc := 39) X Y hC_39 dX6_add_39 (fun H locs Y => ?_)
    refine lv_aload_n (pc := 42) hx hb dX6_add_42 rfl (lv_at hl 0 rfl) ?_
    refine gf_X6_21 (pc := 43) X Y dX6_add_43 ?_
    refine lv_iconst (pc := 46) (v := 1) hx hb dX6_add_46 (by decide) ?_
    refine lv_isub (pc := 47) hx hb dX6_add_47 ?_
    obtain ⟨hr9, hm9⟩ := ret_e h
    exact fin_i (pc := 48) X rfl Y hr9 hm9 rfl dX6_add_48
  · have h := itn c_6 h
    refine lv_bipush (pc := 9) (v := (-4)) hx hb dX6_add_9 (by decide) ?_
    obtain ⟨hr9, hm9⟩ := ret_e h
    exact fin_i (pc := 11) X rfl Y hr9 hm9 rfl dX6_add_11
abbrev rm_X6_mend : Room := { frames := 1, cells := 0, slots := 0, locals := 20 }
set_option maxHeartbeats 4000000 in
set_option maxRecDepth 100000 in
theorem WB_X6_mend_74 {C9 : Mem} (v1 : Int32) (v2 : Int32) (v3 : Int32) (C : Mem) (X : Cx p s m args meth c cX6_mend RX6 6 (none) dC dI ad bd cI cZ) {kb : Int32 → Mem → Option Mem} (hkb : ∀ (v3' : Int32) (C' : Mem) (H : Heap) (locs : List Loc) (ls : Array Slot), Ys s dC dI ad bd cI cZ C' D H locs → lv_has ls 6 [(0, .ref (ad 14)), (1, .int v1), (2, .int v2), (3, .int v3')] → kb v3' C' = some C9 → W p l e rm_X6_mend s m args below meth c H locs 0 0 (MQ below (QC (none) dC dI ad bd cI cZ C9 D) args s 0 0 (AD ad bd)) (F0 m 17 ls [])) {H : Heap} {locs : List Loc} {ls : Array Slot} (Y : Ys s dC dI ad bd cI cZ C D H locs) (hl : lv_has ls 6 [(0, .ref (ad 14)), (1, .int v1), (2, .int v2), (3, .int v3)]) (h : B_X6_mend_74 v3 C kb = some C9) : W p l e rm_X6_mend s m args below meth c H locs 0 0 (MQ below (QC (none) dC dI ad bd cI cZ C9 D) args s 0 0 (AD ad bd)) (F0 m 74 ls []) := by
  have hx := X.1
  have hb := X.2.1
  unfold B_X6_mend_74 at h
  obtain ⟨v3_74, ev3_74, h⟩ := lt_s_ h
  refine lv_iinc (pc := 74) (v := v3_74) (lv' := [(3, .int v3_74), (0, .ref (ad 14)), (1, .int v1), (2, .int v2)]) hx hb dX6_mend_74 hl (k := 3) rfl (by rw [ev3_74]; rfl) (by decide) rfl (fun ls hl => ?_)
  refine lv_goto (pc := 77) (tgt := 17) hx hb dX6_mend_77 (by decide) ?_
  exact hkb v3_74 C H locs ls Y (lv_sub hl [1, 2, 3, 0] rfl) h
set_option maxHeartbeats 4000000 in
set_option maxRecDepth 100000 in
theorem WL_X6_mend_17 {C9 : Mem} (v1 : Int32) (v2 : Int32) (X : Cx p s m args meth c cX6_mend RX6 6 (none) dC dI ad bd cI cZ) {kx : Mem → Option Mem} (hkx : ∀ (C' : Mem) (H : Heap) (locs : List Loc) (ls : Array Slot), Ys s dC dI ad bd cI cZ C' D H locs → lv_has ls 6 [(0, .ref (ad 14)), (1, .int v1), (2, .int v2)] → kx C' = some C9 → W p l e rm_X6_mend s m args below meth c H locs 0 0 (MQ below (QC (none) dC dI ad bd cI cZ C9 D) args s 0 0 (AD ad bd)) (F0 m 80 ls [])) : ∀ (n_ : Nat) (v3 : Int32) (C : Mem) (H : Heap) (locs : List Loc) (ls : Array Slot), Ys s dC dI ad bd cI cZ C D H locs → lv_has ls 6 [(0, .ref (ad 14)), (1, .int v1), (2, .int v2), (3, .int v3)] → L_X6_mend_17 v1 v2 kx n_ v3 C = some C9 → W p l e rm_X6_mend s m args below meth c H locs 0 0 (MQ below (QC (none) dC dI ad bd cI cZ C9 D) args s 0 0 (AD ad bd)) (F0 m 17 ls []) := by
  have hx := X.1
  have hb := X.2.1
  intro n_
  induction n_ with
  | zero =>
    intro v3 C H locs ls Y hl h
    cases h
  | succ n_ ih =>
    intro v3 C H locs ls Y hl h
    unfold L_X6_mend_17 at h
    refine lv_iload_n (pc := 17) hx hb dX6_mend_17 rfl (lv_at hl 3 rfl) ?_
    refine lv_iload_n (pc := 18) hx hb dX6_mend_18 rfl (lv_at hl 2 rfl) ?_
    refine lv_icmp_lt (pc := 19) (tgt := 80) hx hb dX6_mend_19 (by decide) (fun c_19 => ?_) (fun c_19 => ?_)
    · have h := itp c_19 h
      exact hkx C H locs ls Y (lv_sub hl [0, 1, 2] rfl) h
    · have h := itn c_19 h
      refine lv_iconst (pc := 22) (v := 1) hx hb dX6_mend_22 (by decide) ?_
      refine lv_iload_n (pc := 23) hx hb dX6_mend_23 rfl (lv_at hl 3 rfl) ?_
      refine lv_iload_n (pc := 24) hx hb dX6_mend_24 rfl (lv_at hl 2 rfl) ?_
      refine lv_isub (pc := 25) hx hb dX6_mend_25 ?_
      refine lv_iconst (pc := 26) (v := 1) hx hb dX6_mend_26 (by decide) ?_
      refine lv_iadd (pc := 27) hx hb dX6_mend_27 ?_
      refine lv_ishl (pc := 28) hx hb dX6_mend_28 ?_
      refine lv_iconst (pc := 29) (v := 1) hx hb dX6_mend_29 (by decide) ?_
      refine lv_isub (pc := 30) hx hb dX6_mend_30 ?_
      refine lv_iload_n (pc := 31) hx hb dX6_mend_31 rfl (lv_at hl 2 rfl) ?_
      refine lv_ishl (pc := 32) hx hb dX6_mend_32 ?_
      obtain ⟨v4_33, ev4_33, h⟩ := lt_s_ h
      refine top_i ev4_33 ?_
      refine lv_istore (pc := 33) (lv' := [(4, .int v4_33), (0, .ref (ad 14)), (1, .int v1), (2, .int v2), (3, .int v3)]) hx hb dX6_mend_33 hl (by decide) rfl (fun ls hl => ?_)
      refine lv_aload_n (pc := 35) hx hb dX6_mend_35 rfl (lv_at hl 1 rfl) ?_
      refine gf_X6_15 (pc := 36) X Y dX6_mend_36 ?_
      refine lv_iload_n (pc := 39) hx hb dX6_mend_39 rfl (lv_at hl 2 rfl) ?_
      obtain ⟨g_40, h⟩ := gd_s h
      refine r_ialdc (pc := 40) X Y (ca_16 ad cI) g_40 dX6_mend_40 ?_
      refine lv_iload (pc := 41) hx hb dX6_mend_41 (lv_at hl 0 rfl) ?_
      refine lv_ixor (pc := 43) hx hb dX6_mend_43 ?_
      refine call_si (pc := 44) (rest := []) [.int ((C 16 v1.toNatClampNeg) ^^^ v4_33)] X Y (c_J6_bitCount_0f7a4 ((C 16 v1.toNatClampNeg) ^^^ v4_33)) sw_X6_28 rfl ⟨rfl, rfl, Nat.le_of_ble_eq_true rfl, Nat.le_of_ble_eq_true rfl⟩ hl rfl (Nat.le_of_ble_eq_true rfl) dX6_mend_44 (fun H locs Y => ?_)
      obtain ⟨v5_47, ev5_47, h⟩ := lt_s_ h
      refine top_i ev5_47 ?_
      refine lv_istore (pc := 47) (lv' := [(5, .int v5_47), (4, .int v4_33), (0, .ref (ad 14)), (1, .int v1), (2, .int v2), (3, .int v3)]) hx hb dX6_mend_47 hl (by decide) rfl (fun ls hl => ?_)
      refine lv_iload (pc := 49) hx hb dX6_mend_49 (lv_at hl 0 rfl) ?_
      refine lv_aload_n (pc := 51) hx hb dX6_mend_51 rfl (lv_at hl 2 rfl) ?_
      refine gf_X6_25 (pc := 52) X Y dX6_mend_52 ?_
      refine lv_icmp_ge (pc := 55) (tgt := 74) hx hb dX6_mend_55 (by decide) (fun c_55 => ?_) (fun c_55 => ?_)
      · have h := itp c_55 h
        exact WB_X6_mend_74 v1 v2 v3 C X (kb := (L_X6_mend_17 v1 v2 kx n_)) ih Y (lv_sub hl [2, 3, 4, 5] rfl) h
      · have h := itn c_55 h
        refine lv_aload_n (pc := 58) hx hb dX6_mend_58 rfl (lv_at hl 2 rfl) ?_
        refine lv_iload (pc := 59) hx hb dX6_mend_59 (lv_at hl 0 rfl) ?_
        obtain ⟨C_61, hC_61, h⟩ := sto_s h
        refine pf_X6_25 (pc := 61) X Y hC_61 dX6_mend_61 (fun H locs Y => ?_)
        refine lv_aload_n (pc := 64) hx hb dX6_mend_64 rfl (lv_at hl 2 rfl) ?_
        refine lv_iload_n (pc := 65) hx hb dX6_mend_65 rfl (lv_at hl 4 rfl) ?_
        obtain ⟨C_66, hC_66, h⟩ := sto_s h
        refine pf_X6_34 (pc := 66) X Y hC_66 dX6_mend_66 (fun H locs Y => ?_)
        refine lv_aload_n (pc := 69) hx hb dX6_mend_69 rfl (lv_at hl 2 rfl) ?_
        refine lv_iload_n (pc := 70) hx hb dX6_mend_70 rfl (lv_at hl 5 rfl) ?_
        obtain ⟨C_71, hC_71, h⟩ := sto_s h
        refine pf_X6_37 (pc := 71) X Y hC_71 dX6_mend_71 (fun H locs Y => ?_)
        exact WB_X6_mend_74 v1 v2 v3 C_71 X (kb := (L_X6_mend_17 v1 v2 kx n_)) ih Y (lv_sub hl [2, 3, 4, 5] rfl) h
set_option maxHeartbeats 4000000 in
set_option maxRecDepth 100000 in
theorem WL_X6_mend_8 {C9 : Mem} (v1 : Int32) (X : Cx p s m args meth c cX6_mend RX6 6 (none) dC dI ad bd cI cZ) {kx : Mem → Option Mem} (hkx : ∀ (C' : Mem) (H : Heap) (locs : List Loc) (ls : Array Slot), Ys s dC dI ad bd cI cZ C' D H locs → lv_has ls 6 [] → kx C' = some C9 → W p l e rm_X6_mend s m args below meth c H locs 0 0 (MQ below (QC (none) dC dI ad bd cI cZ C9 D) args s 0 0 (AD ad bd)) (F0 m 86 ls [])) : ∀ (n_ : Nat) (v2 : Int32) (C : Mem) (H : Heap) (locs : List Loc) (ls : Array Slot), Ys s dC dI ad bd cI cZ C D H locs → lv_has ls 6 [(0, .ref (ad 14)), (1, .int v1), (2, .int v2)] → L_X6_mend_8 v1 kx n_ v2 C = some C9 → W p l e rm_X6_mend s m args below meth c H locs 0 0 (MQ below (QC (none) dC dI ad bd cI cZ C9 D) args s 0 0 (AD ad bd)) (F0 m 8 ls []) := by
  have hx := X.1
  have hb := X.2.1
  intro n_
  induction n_ with
  | zero =>
    intro v2 C H locs ls Y hl h
    cases h
  | succ n_ ih =>
    intro v2 C H locs ls Y hl h
    unfold L_X6_mend_8 at h
    refine lv_iload_n (pc := 8) hx hb dX6_mend_8 rfl (lv_at hl 2 rfl) ?_
    refine lv_bipush (pc := 9) (v := 11) hx hb dX6_mend_9 (by decide) ?_
    refine lv_icmp_ge (pc := 11) (tgt := 86) hx hb dX6_mend_11 (by decide) (fun c_11 => ?_) (fun c_11 => ?_)
    · have h := itp c_11 h
      exact hkx C H locs ls Y (lv_sub hl [] rfl) h
    · have h := itn c_11 h
      refine lv_bipush (pc := 14) (v := 10) hx hb dX6_mend_14 (by decide) ?_
      refine lv_istore_n (pc := 16) (lv' := [(3, .int 10), (0, .ref (ad 14)), (1, .int v1), (2, .int v2)]) hx hb dX6_mend_16 rfl hl (by decide) rfl (fun ls hl => ?_)
      refine WL_X6_mend_17 v1 v2 X (fun C_80 H locs ls Y hl h => ?_) FU 10 C H locs ls Y (lv_sub hl [1, 2, 3, 0] rfl) h
      obtain ⟨v2_80, ev2_80, h⟩ := lt_s_ h
      refine lv_iinc (pc := 80) (v := v2_80) (lv' := [(2, .int v2_80), (0, .ref (ad 14)), (1, .int v1)]) hx hb dX6_mend_80 hl (k := 2) rfl (by rw [ev2_80]; rfl) (by decide) rfl (fun ls hl => ?_)
      refine lv_goto (pc := 83) (tgt := 8) hx hb dX6_mend_83 (by decide) ?_
      exact ih v2_80 C_80 H locs ls Y (lv_sub hl [1, 2, 0] rfl) h
set_option maxHeartbeats 4000000 in
set_option maxRecDepth 100000 in
theorem c_X6_mend {C9 : Mem} (v1 : Int32) (h : f_X6_mend v1 C = some C9) : Ct l dC dI ad bd cI cZ yX6_mend cX6_mend 6 (none) rm_X6_mend [.ref (ad 14), .int v1] C D (none) C9 D := by
  unfold f_X6_mend at h
  refine Ct.intro (own := RX6) (by decide) rfl (Nat.le_of_ble_eq_true rfl) ?_
  intro p e s m args below meth c H locs ls X Y hl
  have hx := X.1
  have hb := X.2.1
  have hl : lv_has ls 6 [(0, .ref (ad 14)), (1, .int v1)] := hl
  refine lv_aload_n (pc := 0) hx hb dX6_mend_0 rfl (lv_at hl 0 rfl) ?_
  refine lv_bipush (pc := 1) (v := 12) hx hb dX6_mend_1 (by decide) ?_
  obtain ⟨C_3, hC_3, h⟩ := sto_s h
  refine pf_X6_25 (pc := 3) X Y hC_3 dX6_mend_3 (fun H locs Y => ?_)
  refine lv_iconst (pc := 6) (v := 0) hx hb dX6_mend_6 (by decide) ?_
  refine lv_istore_n (pc := 7) (lv' := [(2, .int 0), (0, .ref (ad 14)), (1, .int v1)]) hx hb dX6_mend_7 rfl hl (by decide) rfl (fun ls hl => ?_)
  refine WL_X6_mend_8 v1 X (fun C_86 H locs ls Y hl h => ?_) FU 0 C_3 H locs ls Y (lv_sub hl [1, 2, 0] rfl) h
  have hm9 := ret_v h
  exact fin_v (pc := 86) X rfl Y hm9 rfl dX6_mend_86
abbrev rm_X6_isOf : Room := { frames := 0, cells := 0, slots := 0, locals := 0 }
set_option maxHeartbeats 4000000 in
set_option maxRecDepth 100000 in
theorem WB_X6_isOf_15 {r9 : Bool} (C : Mem) (X : Cx p s m args meth c cX6_isOf RX6 3 (some .boolean) dC dI ad bd cI cZ) {H : Heap} {locs : List Loc} {ls : Array Slot} (Y : Ys s dC dI ad bd cI cZ C D H locs) (hl : lv_has ls 3 []) (h : B_X6_isOf_15 = some r9) : W p l e rm_X6_isOf s m args below meth c H locs 0 0 (MQ below (QC (some (.int (b2i r9))) dC dI ad bd cI cZ C D) args s 0 0 (AD ad bd)) (F0 m 15 ls []) := by
  have hx := X.1
  have hb := X.2.1
  unfold B_X6_isOf_15 at h
  refine lv_iconst (pc := 15) (v := 1) hx hb dX6_isOf_15 (by decide) ?_
  refine lv_goto (pc := 16) (tgt := 20) hx hb dX6_isOf_16 (by decide) ?_
  have hr9 := ret_p h
  exact fin_z (b := true) (pc := 20) X rfl Y rfl hr9 rfl rfl dX6_isOf_20
set_option maxHeartbeats 4000000 in
set_option maxRecDepth 100000 in
theorem c_X6_isOf {r9 : Bool} (v1 : Int32) (v2 : Int32) (h : f_X6_isOf v1 v2 C = some r9) : Ct l dC dI ad bd cI cZ yX6_isOf cX6_isOf 3 (some .boolean) rm_X6_isOf [.ref (ad 14), .int v1, .int v2] C D (some (.int (b2i r9))) C D := by
  unfold f_X6_isOf at h
  refine Ct.intro (own := RX6) (by decide) rfl (Nat.le_of_ble_eq_true rfl) ?_
  intro p e s m args below meth c H locs ls X Y hl
  have hx := X.1
  have hb := X.2.1
  have hl : lv_has ls 3 [(0, .ref (ad 14)), (1, .int v1), (2, .int v2)] := hl
  refine lv_iload_n (pc := 0) hx hb dX6_isOf_0 rfl (lv_at hl 2 rfl) ?_
  refine lv_iconst (pc := 1) (v := (-1)) hx hb dX6_isOf_1 (by decide) ?_
  refine lv_icmp_eq (pc := 2) (tgt := 15) hx hb dX6_isOf_2 (by decide) (fun c_2 => ?_) (fun c_2 => ?_)
  · have h := itp c_2 h
    exact WB_X6_isOf_15  C X Y (lv_sub hl [] rfl) h
  · have h := itn c_2 h
    refine lv_aload_n (pc := 5) hx hb dX6_isOf_5 rfl (lv_at hl 0 rfl) ?_
    refine gf_X6_11 (pc := 6) X Y dX6_isOf_6 ?_
    refine lv_iload_n (pc := 9) hx hb dX6_isOf_9 rfl (lv_at hl 1 rfl) ?_
    obtain ⟨g_10, h⟩ := gd_s h
    refine r_ialdc (pc := 10) X Y (ca_15 ad cI) g_10 dX6_isOf_10 ?_
    refine lv_iload_n (pc := 11) hx hb dX6_isOf_11 rfl (lv_at hl 2 rfl) ?_
    refine lv_icmp_ne (pc := 12) (tgt := 19) hx hb dX6_isOf_12 (by decide) (fun c_12 => ?_) (fun c_12 => ?_)
    · have h := itn c_12 h
      refine lv_iconst (pc := 19) (v := 0) hx hb dX6_isOf_19 (by decide) ?_
      have hr9 := ret_p h
      exact fin_z (b := false) (pc := 20) X rfl Y rfl hr9 rfl rfl dX6_isOf_20
    · have h := itp c_12 h
      exact WB_X6_isOf_15  C X Y (lv_sub hl [] rfl) h
abbrev rm_X6_howMany : Room := { frames := 1, cells := 0, slots := 0, locals := 22 }
set_option maxHeartbeats 4000000 in
set_option maxRecDepth 100000 in
theorem WB_X6_howMany_27 {r9 : Int32} (x0 : Int32) (x1 : Int32) (v1 : Int32) (v3 : Int32) (C : Mem) (X : Cx p s m args meth c cX6_howMany RX6 4 (some .int) dC dI ad bd cI cZ) {kb : Int32 → Int32 → Option Int32} (hkb : ∀ (v2' : Int32) (v3' : Int32) (H : Heap) (locs : List Loc) (ls : Array Slot), Ys s dC dI ad bd cI cZ C D H locs → lv_has ls 4 [(0, .ref (ad 14)), (1, .int v1), (2, .int v2'), (3, .int v3')] → kb v2' v3' = some r9 → W p l e rm_X6_howMany s m args below meth c H locs 0 0 (MQ below (QC (some (.int r9)) dC dI ad bd cI cZ C D) args s 0 0 (AD ad bd)) (F0 m 4 ls [])) {H : Heap} {locs : List Loc} {ls : Array Slot} (Y : Ys s dC dI ad bd cI cZ C D H locs) (hl : lv_has ls 4 [(0, .ref (ad 14)), (1, .int v1), (3, .int v3)]) (h : B_X6_howMany_27 x0 x1 v3 kb = some r9) : W p l e rm_X6_howMany s m args below meth c H locs 0 0 (MQ below (QC (some (.int r9)) dC dI ad bd cI cZ C D) args s 0 0 (AD ad bd)) (F0 m 27 ls [.int x1, .int x0]) := by
  have hx := X.1
  have hb := X.2.1
  unfold B_X6_howMany_27 at h
  refine lv_iadd (pc := 27) hx hb dX6_howMany_27 ?_
  obtain ⟨v2_28, ev2_28, h⟩ := lt_s_ h
  refine top_i ev2_28 ?_
  refine lv_istore_n (pc := 28) (lv' := [(2, .int v2_28), (0, .ref (ad 14)), (1, .int v1), (3, .int v3)]) hx hb dX6_howMany_28 rfl hl (by decide) rfl (fun ls hl => ?_)
  obtain ⟨v3_29, ev3_29, h⟩ := lt_s_ h
  refine lv_iinc (pc := 29) (v := v3_29) (lv' := [(3, .int v3_29), (2, .int v2_28), (0, .ref (ad 14)), (1, .int v1)]) hx hb dX6_howMany_29 hl (k := 3) rfl (by rw [ev3_29]; rfl) (by decide) rfl (fun ls hl => ?_)
  refine lv_goto (pc := 32) (tgt := 4) hx hb dX6_howMany_32 (by decide) ?_
  exact hkb v2_28 v3_29 H locs ls Y (lv_sub hl [2, 3, 1, 0] rfl) h
set_option maxHeartbeats 4000000 in
set_option maxRecDepth 100000 in
theorem WL_X6_howMany_4 {r9 : Int32} (v1 : Int32) (C : Mem) (X : Cx p s m args meth c cX6_howMany RX6 4 (some .int) dC dI ad bd cI cZ) {kx : Int32 → Option Int32} (hkx : ∀ (v2' : Int32) (H : Heap) (locs : List Loc) (ls : Array Slot), Ys s dC dI ad bd cI cZ C D H locs → lv_has ls 4 [(2, .int v2')] → kx v2' = some r9 → W p l e rm_X6_howMany s m args below meth c H locs 0 0 (MQ below (QC (some (.int r9)) dC dI ad bd cI cZ C D) args s 0 0 (AD ad bd)) (F0 m 35 ls [])) : ∀ (n_ : Nat) (v2 : Int32) (v3 : Int32) (H : Heap) (locs : List Loc) (ls : Array Slot), Ys s dC dI ad bd cI cZ C D H locs → lv_has ls 4 [(0, .ref (ad 14)), (1, .int v1), (2, .int v2), (3, .int v3)] → L_X6_howMany_4 v1 C kx n_ v2 v3 = some r9 → W p l e rm_X6_howMany s m args below meth c H locs 0 0 (MQ below (QC (some (.int r9)) dC dI ad bd cI cZ C D) args s 0 0 (AD ad bd)) (F0 m 4 ls []) := by
  have hx := X.1
  have hb := X.2.1
  intro n_
  induction n_ with
  | zero =>
    intro v2 v3 H locs ls Y hl h
    cases h
  | succ n_ ih =>
    intro v2 v3 H locs ls Y hl h
    unfold L_X6_howMany_4 at h
    refine lv_iload_n (pc := 4) hx hb dX6_howMany_4 rfl (lv_at hl 3 rfl) ?_
    refine lv_aload_n (pc := 5) hx hb dX6_howMany_5 rfl (lv_at hl 0 rfl) ?_
    refine gf_X6_21 (pc := 6) X Y dX6_howMany_6 ?_
    refine lv_icmp_ge (pc := 9) (tgt := 35) hx hb dX6_howMany_9 (by decide) (fun c_9 => ?_) (fun c_9 => ?_)
    · have h := itp c_9 h
      exact hkx v2 H locs ls Y (lv_sub hl [2] rfl) h
    · have h := itn c_9 h
      refine lv_iload_n (pc := 12) hx hb dX6_howMany_12 rfl (lv_at hl 2 rfl) ?_
      refine lv_aload_n (pc := 13) hx hb dX6_howMany_13 rfl (lv_at hl 0 rfl) ?_
      refine lv_iload_n (pc := 14) hx hb dX6_howMany_14 rfl (lv_at hl 3 rfl) ?_
      refine lv_iload_n (pc := 15) hx hb dX6_howMany_15 rfl (lv_at hl 1 rfl) ?_
      obtain ⟨r_16, e_16, h⟩ := bnd_s h
      refine call_vi (pc := 16) (rest := [.int v2]) [.int v3, .int v1] X Y (c_X6_isOf v3 v1 e_16) sw_X6_40 (rv_X6 X Y) rfl ⟨rfl, rfl, Nat.le_of_ble_eq_true rfl, Nat.le_of_ble_eq_true rfl⟩ hl rfl (Nat.le_of_ble_eq_true rfl) dX6_howMany_16 (fun H locs Y => ?_)
      refine lv_if_eq (pc := 19) (tgt := 26) hx hb dX6_howMany_19 (by decide) (fun c_19 => ?_) (fun c_19 => ?_)
      · have h := itn (b2i_f c_19) h
        refine lv_iconst (pc := 26) (v := 0) hx hb dX6_howMany_26 (by decide) ?_
        exact WB_X6_howMany_27 v2 0 v1 v3 C X (kb := (L_X6_howMany_4 v1 C kx n_)) ih Y (lv_sub hl [0, 1, 3] rfl) h
      · have h := itp (b2i_t c_19) h
        refine lv_iconst (pc := 22) (v := 1) hx hb dX6_howMany_22 (by decide) ?_
        refine lv_goto (pc := 23) (tgt := 27) hx hb dX6_howMany_23 (by decide) ?_
        exact WB_X6_howMany_27 v2 1 v1 v3 C X (kb := (L_X6_howMany_4 v1 C kx n_)) ih Y (lv_sub hl [0, 1, 3] rfl) h
set_option maxHeartbeats 4000000 in
set_option maxRecDepth 100000 in
theorem c_X6_howMany {r9 : Int32} (v1 : Int32) (h : f_X6_howMany v1 C = some r9) : Ct l dC dI ad bd cI cZ yX6_howMany cX6_howMany 4 (some .int) rm_X6_howMany [.ref (ad 14), .int v1] C D (some (.int r9)) C D := by
  unfold f_X6_howMany at h
  refine Ct.intro (own := RX6) (by decide) rfl (Nat.le_of_ble_eq_true rfl) ?_
  intro p e s m args below meth c H locs ls X Y hl
  have hx := X.1
  have hb := X.2.1
  have hl : lv_has ls 4 [(0, .ref (ad 14)), (1, .int v1)] := hl
  refine lv_iconst (pc := 0) (v := 0) hx hb dX6_howMany_0 (by decide) ?_
  refine lv_istore_n (pc := 1) (lv' := [(2, .int 0), (0, .ref (ad 14)), (1, .int v1)]) hx hb dX6_howMany_1 rfl hl (by decide) rfl (fun ls hl => ?_)
  refine lv_iconst (pc := 2) (v := 0) hx hb dX6_howMany_2 (by decide) ?_
  refine lv_istore_n (pc := 3) (lv' := [(3, .int 0), (2, .int 0), (0, .ref (ad 14)), (1, .int v1)]) hx hb dX6_howMany_3 rfl hl (by decide) rfl (fun ls hl => ?_)
  refine WL_X6_howMany_4 v1 C X (fun v2_35 H locs ls Y hl h => ?_) FU 0 0 H locs ls Y (lv_sub hl [2, 3, 1, 0] rfl) h
  refine lv_iload_n (pc := 35) hx hb dX6_howMany_35 rfl (lv_at hl 0 rfl) ?_
  have hr9 := ret_p h
  exact fin_i (pc := 36) X rfl Y hr9 rfl rfl dX6_howMany_36
abbrev rm_X6_yeses : Room := { frames := 1, cells := 0, slots := 0, locals := 22 }
set_option maxHeartbeats 4000000 in
set_option maxRecDepth 100000 in
theorem WB_X6_yeses_38 {r9 : Int32} (v1 : Int32) (v2 : Int32) (v3 : Int32) (v4 : Int32) (C : Mem) (X : Cx p s m args meth c cX6_yeses RX6 5 (some .int) dC dI ad bd cI cZ) {kb : Int32 → Int32 → Option Int32} (hkb : ∀ (v3' : Int32) (v4' : Int32) (H : Heap) (locs : List Loc) (ls : Array Slot), Ys s dC dI ad bd cI cZ C D H locs → lv_has ls 5 [(0, .ref (ad 14)), (1, .int v1), (2, .int v2), (3, .int v3'), (4, .int v4')] → kb v3' v4' = some r9 → W p l e rm_X6_yeses s m args below meth c H locs 0 0 (MQ below (QC (some (.int r9)) dC dI ad bd cI cZ C D) args s 0 0 (AD ad bd)) (F0 m 5 ls [])) {H : Heap} {locs : List Loc} {ls : Array Slot} (Y : Ys s dC dI ad bd cI cZ C D H locs) (hl : lv_has ls 5 [(0, .ref (ad 14)), (1, .int v1), (2, .int v2), (3, .int v3), (4, .int v4)]) (h : B_X6_yeses_38 v3 v4 kb = some r9) : W p l e rm_X6_yeses s m args below meth c H locs 0 0 (MQ below (QC (some (.int r9)) dC dI ad bd cI cZ C D) args s 0 0 (AD ad bd)) (F0 m 38 ls []) := by
  have hx := X.1
  have hb := X.2.1
  unfold B_X6_yeses_38 at h
  obtain ⟨v4_38, ev4_38, h⟩ := lt_s_ h
  refine lv_iinc (pc := 38) (v := v4_38) (lv' := [(4, .int v4_38), (0, .ref (ad 14)), (1, .int v1), (2, .int v2), (3, .int v3)]) hx hb dX6_yeses_38 hl (k := 4) rfl (by rw [ev4_38]; rfl) (by decide) rfl (fun ls hl => ?_)
  refine lv_goto (pc := 41) (tgt := 5) hx hb dX6_yeses_41 (by decide) ?_
  exact hkb v3 v4_38 H locs ls Y (lv_sub hl [1, 2, 3, 4, 0] rfl) h
set_option maxHeartbeats 4000000 in
set_option maxRecDepth 100000 in
theorem WL_X6_yeses_5 {r9 : Int32} (v1 : Int32) (v2 : Int32) (C : Mem) (X : Cx p s m args meth c cX6_yeses RX6 5 (some .int) dC dI ad bd cI cZ) {kx : Int32 → Option Int32} (hkx : ∀ (v3' : Int32) (H : Heap) (locs : List Loc) (ls : Array Slot), Ys s dC dI ad bd cI cZ C D H locs → lv_has ls 5 [(3, .int v3')] → kx v3' = some r9 → W p l e rm_X6_yeses s m args below meth c H locs 0 0 (MQ below (QC (some (.int r9)) dC dI ad bd cI cZ C D) args s 0 0 (AD ad bd)) (F0 m 44 ls [])) : ∀ (n_ : Nat) (v3 : Int32) (v4 : Int32) (H : Heap) (locs : List Loc) (ls : Array Slot), Ys s dC dI ad bd cI cZ C D H locs → lv_has ls 5 [(0, .ref (ad 14)), (1, .int v1), (2, .int v2), (3, .int v3), (4, .int v4)] → L_X6_yeses_5 v1 v2 C kx n_ v3 v4 = some r9 → W p l e rm_X6_yeses s m args below meth c H locs 0 0 (MQ below (QC (some (.int r9)) dC dI ad bd cI cZ C D) args s 0 0 (AD ad bd)) (F0 m 5 ls []) := by
  have hx := X.1
  have hb := X.2.1
  intro n_
  induction n_ with
  | zero =>
    intro v3 v4 H locs ls Y hl h
    cases h
  | succ n_ ih =>
    intro v3 v4 H locs ls Y hl h
    unfold L_X6_yeses_5 at h
    refine lv_iload (pc := 5) hx hb dX6_yeses_5 (lv_at hl 4 rfl) ?_
    refine lv_aload_n (pc := 7) hx hb dX6_yeses_7 rfl (lv_at hl 0 rfl) ?_
    refine gf_X6_21 (pc := 8) X Y dX6_yeses_8 ?_
    refine lv_icmp_ge (pc := 11) (tgt := 44) hx hb dX6_yeses_11 (by decide) (fun c_11 => ?_) (fun c_11 => ?_)
    · have h := itp c_11 h
      exact hkx v3 H locs ls Y (lv_sub hl [3] rfl) h
    · have h := itn c_11 h
      refine lv_aload_n (pc := 14) hx hb dX6_yeses_14 rfl (lv_at hl 0 rfl) ?_
      refine lv_iload (pc := 15) hx hb dX6_yeses_15 (lv_at hl 4 rfl) ?_
      refine lv_iload_n (pc := 17) hx hb dX6_yeses_17 rfl (lv_at hl 1 rfl) ?_
      obtain ⟨r_18, e_18, h⟩ := bnd_s h
      refine call_vi (pc := 18) (rest := []) [.int v4, .int v1] X Y (c_X6_isOf v4 v1 e_18) sw_X6_40 (rv_X6 X Y) rfl ⟨rfl, rfl, Nat.le_of_ble_eq_true rfl, Nat.le_of_ble_eq_true rfl⟩ hl rfl (Nat.le_of_ble_eq_true rfl) dX6_yeses_18 (fun H locs Y => ?_)
      refine lv_if_eq (pc := 21) (tgt := 38) hx hb dX6_yeses_21 (by decide) (fun c_21 => ?_) (fun c_21 => ?_)
      · have h := itn (b2i_f c_21) h
        exact WB_X6_yeses_38 v1 v2 v3 v4 C X (kb := (L_X6_yeses_5 v1 v2 C kx n_)) ih Y (lv_sub hl [0, 1, 2, 3, 4] rfl) h
      · have h := itp (b2i_t c_21) h
        refine lv_iload_n (pc := 24) hx hb dX6_yeses_24 rfl (lv_at hl 3 rfl) ?_
        refine lv_aload_n (pc := 25) hx hb dX6_yeses_25 rfl (lv_at hl 0 rfl) ?_
        refine gf_X6_15 (pc := 26) X Y dX6_yeses_26 ?_
        refine lv_iload (pc := 29) hx hb dX6_yeses_29 (lv_at hl 4 rfl) ?_
        obtain ⟨g_31, h⟩ := gd_s h
        refine r_ialdc (pc := 31) X Y (ca_16 ad cI) g_31 dX6_yeses_31 ?_
        refine lv_iload_n (pc := 32) hx hb dX6_yeses_32 rfl (lv_at hl 2 rfl) ?_
        refine lv_ishr (pc := 33) hx hb dX6_yeses_33 ?_
        refine lv_iconst (pc := 34) (v := 1) hx hb dX6_yeses_34 (by decide) ?_
        refine lv_iand (pc := 35) hx hb dX6_yeses_35 ?_
        refine lv_iadd (pc := 36) hx hb dX6_yeses_36 ?_
        obtain ⟨v3_37, ev3_37, h⟩ := lt_s_ h
        refine top_i ev3_37 ?_
        refine lv_istore_n (pc := 37) (lv' := [(3, .int v3_37), (0, .ref (ad 14)), (1, .int v1), (2, .int v2), (4, .int v4)]) hx hb dX6_yeses_37 rfl hl (by decide) rfl (fun ls hl => ?_)
        exact WB_X6_yeses_38 v1 v2 v3_37 v4 C X (kb := (L_X6_yeses_5 v1 v2 C kx n_)) ih Y (lv_sub hl [1, 2, 3, 0, 4] rfl) h
set_option maxHeartbeats 4000000 in
set_option maxRecDepth 100000 in
theorem c_X6_yeses {r9 : Int32} (v1 : Int32) (v2 : Int32) (h : f_X6_yeses v1 v2 C = some r9) : Ct l dC dI ad bd cI cZ yX6_yeses cX6_yeses 5 (some .int) rm_X6_yeses [.ref (ad 14), .int v1, .int v2] C D (some (.int r9)) C D := by
  unfold f_X6_yeses at h
  refine Ct.intro (own := RX6) (by decide) rfl (Nat.le_of_ble_eq_true rfl) ?_
  intro p e s m args below meth c H locs ls X Y hl
  have hx := X.1
  have hb := X.2.1
  have hl : lv_has ls 5 [(0, .ref (ad 14)), (1, .int v1), (2, .int v2)] := hl
  refine lv_iconst (pc := 0) (v := 0) hx hb dX6_yeses_0 (by decide) ?_
  refine lv_istore_n (pc := 1) (lv' := [(3, .int 0), (0, .ref (ad 14)), (1, .int v1), (2, .int v2)]) hx hb dX6_yeses_1 rfl hl (by decide) rfl (fun ls hl => ?_)
  refine lv_iconst (pc := 2) (v := 0) hx hb dX6_yeses_2 (by decide) ?_
  refine lv_istore (pc := 3) (lv' := [(4, .int 0), (3, .int 0), (0, .ref (ad 14)), (1, .int v1), (2, .int v2)]) hx hb dX6_yeses_3 hl (by decide) rfl (fun ls hl => ?_)
  refine WL_X6_yeses_5 v1 v2 C X (fun v3_44 H locs ls Y hl h => ?_) FU 0 0 H locs ls Y (lv_sub hl [2, 3, 4, 1, 0] rfl) h
  refine lv_iload_n (pc := 44) hx hb dX6_yeses_44 rfl (lv_at hl 0 rfl) ?_
  have hr9 := ret_p h
  exact fin_i (pc := 45) X rfl Y hr9 rfl rfl dX6_yeses_45
abbrev rm_X6_bring : Room := { frames := 2, cells := 0, slots := 0, locals := 46 }
set_option maxHeartbeats 4000000 in
set_option maxRecDepth 100000 in
theorem c_X6_bring {r9 : Int32} (v1 : Int32) (v2 : Int32) (h : f_X6_bring v1 v2 C = some r9) : Ct l dC dI ad bd cI cZ yX6_bring cX6_bring 3 (some .int) rm_X6_bring [.ref (ad 14), .int v1, .int v2] C D (some (.int r9)) C D := by
  unfold f_X6_bring at h
  refine Ct.intro (own := RX6) (by decide) rfl (Nat.le_of_ble_eq_true rfl) ?_
  intro p e s m args below meth c H locs ls X Y hl
  have hx := X.1
  have hb := X.2.1
  have hl : lv_has ls 3 [(0, .ref (ad 14)), (1, .int v1), (2, .int v2)] := hl
  refine lv_bipush (pc := 0) (v := 10) hx hb dX6_bring_0 (by decide) ?_
  refine lv_iload_n (pc := 2) hx hb dX6_bring_2 rfl (lv_at hl 2 rfl) ?_
  refine lv_isub (pc := 3) hx hb dX6_bring_3 ?_
  refine lv_aload_n (pc := 4) hx hb dX6_bring_4 rfl (lv_at hl 0 rfl) ?_
  refine lv_iload_n (pc := 5) hx hb dX6_bring_5 rfl (lv_at hl 1 rfl) ?_
  refine lv_iload_n (pc := 6) hx hb dX6_bring_6 rfl (lv_at hl 2 rfl) ?_
  obtain ⟨r_7, e_7, h⟩ := bnd_s h
  refine call_vi (pc := 7) (rest := [.int (10 - v2)]) [.int v1, .int v2] X Y (c_X6_yeses v1 v2 e_7) sw_X6_44 (rv_X6 X Y) rfl ⟨rfl, rfl, Nat.le_of_ble_eq_true rfl, Nat.le_of_ble_eq_true rfl⟩ hl rfl (Nat.le_of_ble_eq_true rfl) dX6_bring_7 (fun H locs Y => ?_)
  refine lv_imul (pc := 10) hx hb dX6_bring_10 ?_
  have hr9 := ret_p h
  exact fin_i (pc := 11) X rfl Y hr9 rfl rfl dX6_bring_11
abbrev rm_X6_bestOffer : Room := { frames := 3, cells := 0, slots := 0, locals := 68 }
set_option maxHeartbeats 4000000 in
set_option maxRecDepth 100000 in
theorem WL_X6_bestOffer_2 {r9 : Int32} {C9 : Mem} (v1 : Int32) (X : Cx p s m args meth c cX6_bestOffer RX6 3 (some .int) dC dI ad bd cI cZ) {kx : Mem → Option (Int32 × Mem)} (hkx : ∀ (C' : Mem) (H : Heap) (locs : List Loc) (ls : Array Slot), Ys s dC dI ad bd cI cZ C' D H locs → lv_has ls 3 [(0, .ref (ad 14))] → kx C' = some (r9, C9) → W p l e rm_X6_bestOffer s m args below meth c H locs 0 0 (MQ below (QC (some (.int r9)) dC dI ad bd cI cZ C9 D) args s 0 0 (AD ad bd)) (F0 m 26 ls [])) : ∀ (n_ : Nat) (v2 : Int32) (C : Mem) (H : Heap) (locs : List Loc) (ls : Array Slot), Ys s dC dI ad bd cI cZ C D H locs → lv_has ls 3 [(0, .ref (ad 14)), (1, .int v1), (2, .int v2)] → L_X6_bestOffer_2 v1 kx n_ v2 C = some (r9, C9) → W p l e rm_X6_bestOffer s m args below meth c H locs 0 0 (MQ below (QC (some (.int r9)) dC dI ad bd cI cZ C9 D) args s 0 0 (AD ad bd)) (F0 m 2 ls []) := by
  have hx := X.1
  have hb := X.2.1
  intro n_
  induction n_ with
  | zero =>
    intro v2 C H locs ls Y hl h
    cases h
  | succ n_ ih =>
    intro v2 C H locs ls Y hl h
    unfold L_X6_bestOffer_2 at h
    refine lv_iload_n (pc := 2) hx hb dX6_bestOffer_2 rfl (lv_at hl 2 rfl) ?_
    refine lv_bipush (pc := 3) (v := 11) hx hb dX6_bestOffer_3 (by decide) ?_
    refine lv_icmp_ge (pc := 5) (tgt := 26) hx hb dX6_bestOffer_5 (by decide) (fun c_5 => ?_) (fun c_5 => ?_)
    · have h := itp c_5 h
      exact hkx C H locs ls Y (lv_sub hl [0] rfl) h
    · have h := itn c_5 h
      refine lv_aload_n (pc := 8) hx hb dX6_bestOffer_8 rfl (lv_at hl 0 rfl) ?_
      refine gf_X6_18 (pc := 9) X Y dX6_bestOffer_9 ?_
      refine lv_iload_n (pc := 12) hx hb dX6_bestOffer_12 rfl (lv_at hl 2 rfl) ?_
      refine lv_aload_n (pc := 13) hx hb dX6_bestOffer_13 rfl (lv_at hl 0 rfl) ?_
      refine lv_iload_n (pc := 14) hx hb dX6_bestOffer_14 rfl (lv_at hl 1 rfl) ?_
      refine lv_iload_n (pc := 15) hx hb dX6_bestOffer_15 rfl (lv_at hl 2 rfl) ?_
      obtain ⟨r_16, e_16, h⟩ := bnd_s h
      refine call_vi (pc := 16) (rest := [.int v2, .ref (ad 17)]) [.int v1, .int v2] X Y (c_X6_bring v1 v2 e_16) sw_X6_48 (rv_X6 X Y) rfl ⟨rfl, rfl, Nat.le_of_ble_eq_true rfl, Nat.le_of_ble_eq_true rfl⟩ hl rfl (Nat.le_of_ble_eq_true rfl) dX6_bestOffer_16 (fun H locs Y => ?_)
      obtain ⟨g_19, h⟩ := gd_s h
      obtain ⟨C_19, hC_19, h⟩ := sto_s h
      refine r_iastc (pc := 19) X Y (ca_17 ad cI) g_19 hC_19 dX6_bestOffer_19 (fun H locs Y => ?_)
      obtain ⟨v2_20, ev2_20, h⟩ := lt_s_ h
      refine lv_iinc (pc := 20) (v := v2_20) (lv' := [(2, .int v2_20), (0, .ref (ad 14)), (1, .int v1)]) hx hb dX6_bestOffer_20 hl (k := 2) rfl (by rw [ev2_20]; rfl) (by decide) rfl (fun ls hl => ?_)
      refine lv_goto (pc := 23) (tgt := 2) hx hb dX6_bestOffer_23 (by decide) ?_
      exact ih v2_20 C_19 H locs ls Y (lv_sub hl [1, 2, 0] rfl) h
set_option maxHeartbeats 4000000 in
set_option maxRecDepth 100000 in
theorem c_X6_bestOffer {r9 : Int32} {C9 : Mem} (v1 : Int32) (h : f_X6_bestOffer v1 C = some (r9, C9)) : Ct l dC dI ad bd cI cZ yX6_bestOffer cX6_bestOffer 3 (some .int) rm_X6_bestOffer [.ref (ad 14), .int v1] C D (some (.int r9)) C9 D := by
  unfold f_X6_bestOffer at h
  refine Ct.intro (own := RX6) (by decide) rfl (Nat.le_of_ble_eq_true rfl) ?_
  intro p e s m args below meth c H locs ls X Y hl
  have hx := X.1
  have hb := X.2.1
  have hl : lv_has ls 3 [(0, .ref (ad 14)), (1, .int v1)] := hl
  refine lv_iconst (pc := 0) (v := 0) hx hb dX6_bestOffer_0 (by decide) ?_
  refine lv_istore_n (pc := 1) (lv' := [(2, .int 0), (0, .ref (ad 14)), (1, .int v1)]) hx hb dX6_bestOffer_1 rfl hl (by decide) rfl (fun ls hl => ?_)
  refine WL_X6_bestOffer_2 v1 X (fun C_26 H locs ls Y hl h => ?_) FU 0 C H locs ls Y (lv_sub hl [1, 2, 0] rfl) h
  refine lv_aload_n (pc := 26) hx hb dX6_bestOffer_26 rfl (lv_at hl 0 rfl) ?_
  refine gf_X6_18 (pc := 27) X Y dX6_bestOffer_27 ?_
  obtain ⟨r_30, e_30, h⟩ := bnd_s h
  refine call_sNi (pc := 30) (rest := []) [.ref (ad 17)] X Y (c_X11_firstGreatest 17 11 (ca_17 ad cI) e_30) sw_X6_51 rfl ⟨rfl, rfl, Nat.le_of_ble_eq_true rfl, Nat.le_of_ble_eq_true rfl⟩ hl rfl (Nat.le_of_ble_eq_true rfl) dX6_bestOffer_30 (fun H locs Y => ?_)
  obtain ⟨hr9, hm9⟩ := ret_e h
  exact fin_i (pc := 33) X rfl Y hr9 hm9 rfl dX6_bestOffer_33
abbrev rm_X7_found : Room := { frames := 0, cells := 0, slots := 0, locals := 0 }
set_option maxHeartbeats 4000000 in
set_option maxRecDepth 100000 in
theorem c_X7_found {r9 : Int32} {C9 : Mem} (v1 : Int32) (h : f_X7_found v1 C = some (r9, C9)) : Ct l dC dI ad bd cI cZ yX7_found cX7_found 2 (some .int) rm_X7_found [.ref (ad 43), .int v1] C D (some (.int r9)) C9 D := by
  unfold f_X7_found at h
  refine Ct.intro (own := RX7) (by decide) rfl (Nat.le_of_ble_eq_true rfl) ?_
  intro p e s m args below meth c H locs ls X Y hl
  have hx := X.1
  have hb := X.2.1
  have hl : lv_has ls 2 [(0, .ref (ad 43)), (1, .int v1)] := hl
  refine lv_aload_n (pc := 0) hx hb dX7_found_0 rfl (lv_at hl 0 rfl) ?_
  refine lv_iload_n (pc := 1) hx hb dX7_found_1 rfl (lv_at hl 1 rfl) ?_
  obtain ⟨C_2, hC_2, h⟩ := sto_s h
  refine pf_X7_21 (pc := 2) X Y hC_2 dX7_found_2 (fun H locs Y => ?_)
  refine lv_bipush (pc := 5) (v := (-10)) hx hb dX7_found_5 (by decide) ?_
  refine lv_iload_n (pc := 7) hx hb dX7_found_7 rfl (lv_at hl 1 rfl) ?_
  refine lv_isub (pc := 8) hx hb dX7_found_8 ?_
  obtain ⟨hr9, hm9⟩ := ret_e h
  exact fin_i (pc := 9) X rfl Y hr9 hm9 rfl dX7_found_9
abbrev rm_X7_isLost : Room := { frames := 0, cells := 0, slots := 0, locals := 0 }
set_option maxHeartbeats 4000000 in
set_option maxRecDepth 100000 in
theorem c_X7_isLost {r9 : Bool} (v1 : Int32) (h : f_X7_isLost v1 C = some r9) : Ct l dC dI ad bd cI cZ yX7_isLost cX7_isLost 2 (some .boolean) rm_X7_isLost [.ref (ad 43), .int v1] C D (some (.int (b2i r9))) C D := by
  unfold f_X7_isLost at h
  refine Ct.intro (own := RX7) (by decide) rfl (Nat.le_of_ble_eq_true rfl) ?_
  intro p e s m args below meth c H locs ls X Y hl
  have hx := X.1
  have hb := X.2.1
  have hl : lv_has ls 2 [(0, .ref (ad 43)), (1, .int v1)] := hl
  refine lv_aload_n (pc := 0) hx hb dX7_isLost_0 rfl (lv_at hl 0 rfl) ?_
  refine gf_X7_9 (pc := 1) X Y dX7_isLost_1 ?_
  refine lv_iload_n (pc := 4) hx hb dX7_isLost_4 rfl (lv_at hl 1 rfl) ?_
  obtain ⟨g_5, h⟩ := gd_s h
  refine r_ialdc (pc := 5) X Y (ca_44 ad cI) g_5 dX7_isLost_5 ?_
  refine lv_iconst (pc := 6) (v := (-1)) hx hb dX7_isLost_6 (by decide) ?_
  refine lv_icmp_ne (pc := 7) (tgt := 14) hx hb dX7_isLost_7 (by decide) (fun c_7 => ?_) (fun c_7 => ?_)
  · have h := itn c_7 h
    refine lv_iconst (pc := 14) (v := 0) hx hb dX7_isLost_14 (by decide) ?_
    have hr9 := ret_p h
    exact fin_z (b := false) (pc := 15) X rfl Y rfl hr9 rfl rfl dX7_isLost_15
  · have h := itp c_7 h
    refine lv_iconst (pc := 10) (v := 1) hx hb dX7_isLost_10 (by decide) ?_
    refine lv_goto (pc := 11) (tgt := 15) hx hb dX7_isLost_11 (by decide) ?_
    have hr9 := ret_p h
    exact fin_z (b := true) (pc := 15) X rfl Y rfl hr9 rfl rfl dX7_isLost_15
abbrev rm_X7_formOf : Room := { frames := 0, cells := 0, slots := 0, locals := 0 }
set_option maxHeartbeats 4000000 in
set_option maxRecDepth 100000 in
theorem c_X7_formOf {r9 : Int32} (v1 : Int32) (h : f_X7_formOf v1 C = some r9) : Ct l dC dI ad bd cI cZ yX7_formOf cX7_formOf 2 (some .int) rm_X7_formOf [.ref (ad 43), .int v1] C D (some (.int r9)) C D := by
  unfold f_X7_formOf at h
  refine Ct.intro (own := RX7) (by decide) rfl (Nat.le_of_ble_eq_true rfl) ?_
  intro p e s m args below meth c H locs ls X Y hl
  have hx := X.1
  have hb := X.2.1
  have hl : lv_has ls 2 [(0, .ref (ad 43)), (1, .int v1)] := hl
  refine lv_aload_n (pc := 0) hx hb dX7_formOf_0 rfl (lv_at hl 0 rfl) ?_
  refine gf_X7_9 (pc := 1) X Y dX7_formOf_1 ?_
  refine lv_iload_n (pc := 4) hx hb dX7_formOf_4 rfl (lv_at hl 1 rfl) ?_
  obtain ⟨g_5, h⟩ := gd_s h
  refine r_ialdc (pc := 5) X Y (ca_44 ad cI) g_5 dX7_formOf_5 ?_
  have hr9 := ret_p h
  exact fin_i (pc := 6) X rfl Y hr9 rfl rfl dX7_formOf_6
abbrev rm_X7_sizeOf : Room := { frames := 0, cells := 0, slots := 0, locals := 0 }
set_option maxHeartbeats 4000000 in
set_option maxRecDepth 100000 in
theorem c_X7_sizeOf {r9 : Int32} (v1 : Int32) (h : f_X7_sizeOf v1 C = some r9) : Ct l dC dI ad bd cI cZ yX7_sizeOf cX7_sizeOf 2 (some .int) rm_X7_sizeOf [.ref (ad 43), .int v1] C D (some (.int r9)) C D := by
  unfold f_X7_sizeOf at h
  refine Ct.intro (own := RX7) (by decide) rfl (Nat.le_of_ble_eq_true rfl) ?_
  intro p e s m args below meth c H locs ls X Y hl
  have hx := X.1
  have hb := X.2.1
  have hl : lv_has ls 2 [(0, .ref (ad 43)), (1, .int v1)] := hl
  refine lv_aload_n (pc := 0) hx hb dX7_sizeOf_0 rfl (lv_at hl 0 rfl) ?_
  refine gf_X7_15 (pc := 1) X Y dX7_sizeOf_1 ?_
  refine lv_iload_n (pc := 4) hx hb dX7_sizeOf_4 rfl (lv_at hl 1 rfl) ?_
  obtain ⟨g_5, h⟩ := gd_s h
  refine r_ialdc (pc := 5) X Y (ca_45 ad cI) g_5 dX7_sizeOf_5 ?_
  have hr9 := ret_p h
  exact fin_i (pc := 6) X rfl Y hr9 rfl rfl dX7_sizeOf_6
abbrev rm_X7_renew : Room := { frames := 2, cells := 0, slots := 0, locals := 46 }
set_option maxHeartbeats 4000000 in
set_option maxRecDepth 100000 in
theorem c_X7_renew {C9 : Mem} (v1 : Int32) (v2 : Int32) (v3 : Int32) (h : f_X7_renew v1 v2 v3 C = some C9) : Ct l dC dI ad bd cI cZ yX7_renew cX7_renew 4 (none) rm_X7_renew [.ref (ad 43), .int v1, .int v2, .int v3] C D (none) C9 D := by
  unfold f_X7_renew at h
  refine Ct.intro (own := RX7) (by decide) rfl (Nat.le_of_ble_eq_true rfl) ?_
  intro p e s m args below meth c H locs ls X Y hl
  have hx := X.1
  have hb := X.2.1
  have hl : lv_has ls 4 [(0, .ref (ad 43)), (1, .int v1), (2, .int v2), (3, .int v3)] := hl
  refine lv_aload_n (pc := 0) hx hb dX7_renew_0 rfl (lv_at hl 0 rfl) ?_
  refine gf_X7_9 (pc := 1) X Y dX7_renew_1 ?_
  refine lv_iload_n (pc := 4) hx hb dX7_renew_4 rfl (lv_at hl 1 rfl) ?_
  refine lv_iload_n (pc := 5) hx hb dX7_renew_5 rfl (lv_at hl 2 rfl) ?_
  obtain ⟨g_6, h⟩ := gd_s h
  obtain ⟨C_6, hC_6, h⟩ := sto_s h
  refine r_iastc (pc := 6) X Y (ca_44 ad cI) g_6 hC_6 dX7_renew_6 (fun H locs Y => ?_)
  refine lv_aload_n (pc := 7) hx hb dX7_renew_7 rfl (lv_at hl 0 rfl) ?_
  refine gf_X7_15 (pc := 8) X Y dX7_renew_8 ?_
  refine lv_iload_n (pc := 11) hx hb dX7_renew_11 rfl (lv_at hl 1 rfl) ?_
  refine lv_iload_n (pc := 12) hx hb dX7_renew_12 rfl (lv_at hl 3 rfl) ?_
  obtain ⟨g_13, h⟩ := gd_s h
  obtain ⟨C_13, hC_13, h⟩ := sto_s h
  refine r_iastc (pc := 13) X Y (ca_45 ad cI) g_13 hC_13 dX7_renew_13 (fun H locs Y => ?_)
  refine lv_aload_n (pc := 14) hx hb dX7_renew_14 rfl (lv_at hl 0 rfl) ?_
  refine gf_X7_18 (pc := 15) X Y dX7_renew_15 ?_
  refine lv_iload_n (pc := 18) hx hb dX7_renew_18 rfl (lv_at hl 1 rfl) ?_
  refine lv_bipush (pc := 19) (v := 48) hx hb dX7_renew_19 (by decide) ?_
  refine lv_imul (pc := 21) hx hb dX7_renew_21 ?_
  refine lv_iload_n (pc := 22) hx hb dX7_renew_22 rfl (lv_at hl 1 rfl) ?_
  refine lv_iconst (pc := 23) (v := 1) hx hb dX7_renew_23 (by decide) ?_
  refine lv_iadd (pc := 24) hx hb dX7_renew_24 ?_
  refine lv_bipush (pc := 25) (v := 48) hx hb dX7_renew_25 (by decide) ?_
  refine lv_imul (pc := 27) hx hb dX7_renew_27 ?_
  refine lv_iconst (pc := 28) (v := 0) hx hb dX7_renew_28 (by decide) ?_
  obtain ⟨C_29, e_29, h⟩ := bnd_s h
  refine call_sv (pc := 29) (rest := []) [.ref (ad 46), .int (v1 * 48), .int ((v1 + 1) * 48), .int 0] X Y (c_J7_fill_fda19 46 192 (v1 * 48) ((v1 + 1) * 48) 0 (ca_46 ad cI) e_29) sw_X7_25 rfl ⟨rfl, rfl, Nat.le_of_ble_eq_true rfl, Nat.le_of_ble_eq_true rfl⟩ hl rfl (Nat.le_of_ble_eq_true rfl) dX7_renew_29 (fun H locs Y => ?_)
  have hm9 := ret_v h
  exact fin_v (pc := 32) X rfl Y hm9 rfl dX7_renew_32
abbrev rm_X7_drop : Room := { frames := 0, cells := 0, slots := 0, locals := 0 }
set_option maxHeartbeats 4000000 in
set_option maxRecDepth 100000 in
theorem c_X7_drop {r9 : Int32} {C9 : Mem} (v1 : Int32) (h : f_X7_drop v1 C = some (r9, C9)) : Ct l dC dI ad bd cI cZ yX7_drop cX7_drop 2 (some .int) rm_X7_drop [.ref (ad 43), .int v1] C D (some (.int r9)) C9 D := by
  unfold f_X7_drop at h
  refine Ct.intro (own := RX7) (by decide) rfl (Nat.le_of_ble_eq_true rfl) ?_
  intro p e s m args below meth c H locs ls X Y hl
  have hx := X.1
  have hb := X.2.1
  have hl : lv_has ls 2 [(0, .ref (ad 43)), (1, .int v1)] := hl
  refine lv_aload_n (pc := 0) hx hb dX7_drop_0 rfl (lv_at hl 0 rfl) ?_
  refine gf_X7_9 (pc := 1) X Y dX7_drop_1 ?_
  refine lv_iload_n (pc := 4) hx hb dX7_drop_4 rfl (lv_at hl 1 rfl) ?_
  refine lv_iconst (pc := 5) (v := (-1)) hx hb dX7_drop_5 (by decide) ?_
  obtain ⟨g_6, h⟩ := gd_s h
  obtain ⟨C_6, hC_6, h⟩ := sto_s h
  refine r_iastc (pc := 6) X Y (ca_44 ad cI) g_6 hC_6 dX7_drop_6 (fun H locs Y => ?_)
  refine lv_aload_n (pc := 7) hx hb dX7_drop_7 rfl (lv_at hl 0 rfl) ?_
  refine gf_X7_15 (pc := 8) X Y dX7_drop_8 ?_
  refine lv_iload_n (pc := 11) hx hb dX7_drop_11 rfl (lv_at hl 1 rfl) ?_
  obtain ⟨g_12, h⟩ := gd_s h
  refine r_ialdc (pc := 12) X Y (ca_45 ad cI) g_12 dX7_drop_12 ?_
  obtain ⟨hr9, hm9⟩ := ret_e h
  exact fin_i (pc := 13) X rfl Y hr9 hm9 rfl dX7_drop_13
abbrev rm_X7_findingAt : Room := { frames := 1, cells := 0, slots := 0, locals := 21 }
set_option maxHeartbeats 4000000 in
set_option maxRecDepth 100000 in
theorem WB_X7_findingAt_36 {r9 : Int32} (C : Mem) (X : Cx p s m args meth c cX7_findingAt RX7 4 (some .int) dC dI ad bd cI cZ) {H : Heap} {locs : List Loc} {ls : Array Slot} (Y : Ys s dC dI ad bd cI cZ C D H locs) (hl : lv_has ls 4 []) (h : B_X7_findingAt_36 = some r9) : W p l e rm_X7_findingAt s m args below meth c H locs 0 0 (MQ below (QC (some (.int r9)) dC dI ad bd cI cZ C D) args s 0 0 (AD ad bd)) (F0 m 36 ls []) := by
  have hx := X.1
  have hb := X.2.1
  unfold B_X7_findingAt_36 at h
  refine lv_iconst (pc := 36) (v := 2) hx hb dX7_findingAt_36 (by decide) ?_
  refine lv_goto (pc := 37) (tgt := 41) hx hb dX7_findingAt_37 (by decide) ?_
  have hr9 := ret_p h
  exact fin_i (pc := 41) X rfl Y hr9 rfl rfl dX7_findingAt_41
set_option maxHeartbeats 4000000 in
set_option maxRecDepth 100000 in
theorem c_X7_findingAt {r9 : Int32} (v1 : Int32) (v2 : Int32) (v3 : Int32) (h : f_X7_findingAt v1 v2 v3 C = some r9) : Ct l dC dI ad bd cI cZ yX7_findingAt cX7_findingAt 4 (some .int) rm_X7_findingAt [.ref (ad 43), .int v1, .int v2, .int v3] C D (some (.int r9)) C D := by
  unfold f_X7_findingAt at h
  refine Ct.intro (own := RX7) (by decide) rfl (Nat.le_of_ble_eq_true rfl) ?_
  intro p e s m args below meth c H locs ls X Y hl
  have hx := X.1
  have hb := X.2.1
  have hl : lv_has ls 4 [(0, .ref (ad 43)), (1, .int v1), (2, .int v2), (3, .int v3)] := hl
  refine lv_aload_n (pc := 0) hx hb dX7_findingAt_0 rfl (lv_at hl 0 rfl) ?_
  refine lv_iload_n (pc := 1) hx hb dX7_findingAt_1 rfl (lv_at hl 1 rfl) ?_
  obtain ⟨r_2, e_2, h⟩ := bnd_s h
  refine call_vi (pc := 2) (rest := []) [.int v1] X Y (c_X7_isLost v1 e_2) sw_X7_31 (rv_X7 X Y) rfl ⟨rfl, rfl, Nat.le_of_ble_eq_true rfl, Nat.le_of_ble_eq_true rfl⟩ hl rfl (Nat.le_of_ble_eq_true rfl) dX7_findingAt_2 (fun H locs Y => ?_)
  refine lv_if_eq (pc := 5) (tgt := 10) hx hb dX7_findingAt_5 (by decide) (fun c_5 => ?_) (fun c_5 => ?_)
  · have h := itn (b2i_f c_5) h
    refine lv_aload_n (pc := 10) hx hb dX7_findingAt_10 rfl (lv_at hl 0 rfl) ?_
    refine gf_X7_9 (pc := 11) X Y dX7_findingAt_11 ?_
    refine lv_iload_n (pc := 14) hx hb dX7_findingAt_14 rfl (lv_at hl 1 rfl) ?_
    obtain ⟨g_15, h⟩ := gd_s h
    refine r_ialdc (pc := 15) X Y (ca_44 ad cI) g_15 dX7_findingAt_15 ?_
    refine lv_iload_n (pc := 16) hx hb dX7_findingAt_16 rfl (lv_at hl 2 rfl) ?_
    refine lv_icmp_eq (pc := 17) (tgt := 22) hx hb dX7_findingAt_17 (by decide) (fun c_17 => ?_) (fun c_17 => ?_)
    · have h := itp c_17 h
      refine lv_iload_n (pc := 22) hx hb dX7_findingAt_22 rfl (lv_at hl 3 rfl) ?_
      refine lv_if_lt (pc := 23) (tgt := 36) hx hb dX7_findingAt_23 (by decide) (fun c_23 => ?_) (fun c_23 => ?_)
      · have h := itp c_23 h
        exact WB_X7_findingAt_36  C X Y (lv_sub hl [] rfl) h
      · have h := itn c_23 h
        refine lv_iload_n (pc := 26) hx hb dX7_findingAt_26 rfl (lv_at hl 3 rfl) ?_
        refine lv_aload_n (pc := 27) hx hb dX7_findingAt_27 rfl (lv_at hl 0 rfl) ?_
        refine gf_X7_15 (pc := 28) X Y dX7_findingAt_28 ?_
        refine lv_iload_n (pc := 31) hx hb dX7_findingAt_31 rfl (lv_at hl 1 rfl) ?_
        obtain ⟨g_32, h⟩ := gd_s h
        refine r_ialdc (pc := 32) X Y (ca_45 ad cI) g_32 dX7_findingAt_32 ?_
        refine lv_icmp_lt (pc := 33) (tgt := 40) hx hb dX7_findingAt_33 (by decide) (fun c_33 => ?_) (fun c_33 => ?_)
        · have h := itp c_33 h
          refine lv_iconst (pc := 40) (v := 0) hx hb dX7_findingAt_40 (by decide) ?_
          have hr9 := ret_p h
          exact fin_i (pc := 41) X rfl Y hr9 rfl rfl dX7_findingAt_41
        · have h := itn c_33 h
          exact WB_X7_findingAt_36  C X Y (lv_sub hl [] rfl) h
    · have h := itn c_17 h
      refine lv_iconst (pc := 20) (v := 3) hx hb dX7_findingAt_20 (by decide) ?_
      have hr9 := ret_p h
      exact fin_i (pc := 21) X rfl Y hr9 rfl rfl dX7_findingAt_21
  · have h := itp (b2i_t c_5) h
    refine lv_iconst (pc := 8) (v := 1) hx hb dX7_findingAt_8 (by decide) ?_
    have hr9 := ret_p h
    exact fin_i (pc := 9) X rfl Y hr9 rfl rfl dX7_findingAt_9
abbrev rm_X7_item : Room := { frames := 0, cells := 0, slots := 0, locals := 0 }
set_option maxHeartbeats 4000000 in
set_option maxRecDepth 100000 in
theorem c_X7_item {r9 : Int32} (v1 : Int32) (v2 : Int32) (h : f_X7_item v1 v2 C = some r9) : Ct l dC dI ad bd cI cZ yX7_item cX7_item 3 (some .int) rm_X7_item [.ref (ad 43), .int v1, .int v2] C D (some (.int r9)) C D := by
  unfold f_X7_item at h
  refine Ct.intro (own := RX7) (by decide) rfl (Nat.le_of_ble_eq_true rfl) ?_
  intro p e s m args below meth c H locs ls X Y hl
  have hx := X.1
  have hb := X.2.1
  have hl : lv_has ls 3 [(0, .ref (ad 43)), (1, .int v1), (2, .int v2)] := hl
  refine lv_aload_n (pc := 0) hx hb dX7_item_0 rfl (lv_at hl 0 rfl) ?_
  refine gf_X7_18 (pc := 1) X Y dX7_item_1 ?_
  refine lv_iload_n (pc := 4) hx hb dX7_item_4 rfl (lv_at hl 1 rfl) ?_
  refine lv_bipush (pc := 5) (v := 48) hx hb dX7_item_5 (by decide) ?_
  refine lv_imul (pc := 7) hx hb dX7_item_7 ?_
  refine lv_iload_n (pc := 8) hx hb dX7_item_8 rfl (lv_at hl 2 rfl) ?_
  refine lv_iadd (pc := 9) hx hb dX7_item_9 ?_
  obtain ⟨g_10, h⟩ := gd_s h
  refine r_ialdc (pc := 10) X Y (ca_46 ad cI) g_10 dX7_item_10 ?_
  have hr9 := ret_p h
  exact fin_i (pc := 11) X rfl Y hr9 rfl rfl dX7_item_11
abbrev rm_X7_narrowed : Room := { frames := 0, cells := 0, slots := 0, locals := 0 }
set_option maxHeartbeats 4000000 in
set_option maxRecDepth 100000 in
theorem c_X7_narrowed (v0 : Int32) (v1 : Int32) : Ct l dC dI ad bd cI cZ yX7_narrowed cX7_narrowed 2 (some .int) rm_X7_narrowed [.int v0, .int v1] C D (some (.int (f_X7_narrowed v0 v1))) C D := by
  obtain ⟨r9, h⟩ : ∃ r9, f_X7_narrowed v0 v1 = r9 := ⟨_, rfl⟩
  rw [h]
  unfold f_X7_narrowed at h
  refine Ct.intro (own := RX7) (by decide) rfl (Nat.le_of_ble_eq_true rfl) ?_
  intro p e s m args below meth c H locs ls X Y hl
  have hx := X.1
  have hb := X.2.1
  have hl : lv_has ls 2 [(0, .int v0), (1, .int v1)] := hl
  refine lv_iload_n (pc := 0) hx hb dX7_narrowed_0 rfl (lv_at hl 0 rfl) ?_
  refine lv_if_ne (pc := 1) (tgt := 7) hx hb dX7_narrowed_1 (by decide) (fun c_1 => ?_) (fun c_1 => ?_)
  · have h := itn c_1 h
    refine lv_iload_n (pc := 7) hx hb dX7_narrowed_7 rfl (lv_at hl 0 rfl) ?_
    refine lv_iconst (pc := 8) (v := 1) hx hb dX7_narrowed_8 (by decide) ?_
    refine lv_icmp_ne (pc := 9) (tgt := 17) hx hb dX7_narrowed_9 (by decide) (fun c_9 => ?_) (fun c_9 => ?_)
    · have h := itn c_9 h
      refine lv_iload_n (pc := 17) hx hb dX7_narrowed_17 rfl (lv_at hl 1 rfl) ?_
      have hr9 := h
      exact fin_i (pc := 18) X rfl Y hr9 rfl rfl dX7_narrowed_18
    · have h := itp c_9 h
      refine lv_iload_n (pc := 12) hx hb dX7_narrowed_12 rfl (lv_at hl 1 rfl) ?_
      refine lv_i2s (pc := 13) hx hb dX7_narrowed_13 rfl ?_
      refine lv_goto (pc := 14) (tgt := 18) hx hb dX7_narrowed_14 (by decide) ?_
      have hr9 := h
      exact fin_i (pc := 18) X rfl Y hr9 rfl rfl dX7_narrowed_18
  · have h := itp c_1 h
    refine lv_iload_n (pc := 4) hx hb dX7_narrowed_4 rfl (lv_at hl 1 rfl) ?_
    refine lv_i2b (pc := 5) hx hb dX7_narrowed_5 rfl ?_
    have hr9 := h
    exact fin_i (pc := 6) X rfl Y hr9 rfl rfl dX7_narrowed_6
abbrev rm_X7_keep : Room := { frames := 1, cells := 0, slots := 0, locals := 21 }
set_option maxHeartbeats 4000000 in
set_option maxRecDepth 100000 in
theorem c_X7_keep {C9 : Mem} (v1 : Int32) (v2 : Int32) (v3 : Int32) (h : f_X7_keep v1 v2 v3 C = some C9) : Ct l dC dI ad bd cI cZ yX7_keep cX7_keep 4 (none) rm_X7_keep [.ref (ad 43), .int v1, .int v2, .int v3] C D (none) C9 D := by
  unfold f_X7_keep at h
  refine Ct.intro (own := RX7) (by decide) rfl (Nat.le_of_ble_eq_true rfl) ?_
  intro p e s m args below meth c H locs ls X Y hl
  have hx := X.1
  have hb := X.2.1
  have hl : lv_has ls 4 [(0, .ref (ad 43)), (1, .int v1), (2, .int v2), (3, .int v3)] := hl
  refine lv_aload_n (pc := 0) hx hb dX7_keep_0 rfl (lv_at hl 0 rfl) ?_
  refine gf_X7_18 (pc := 1) X Y dX7_keep_1 ?_
  refine lv_iload_n (pc := 4) hx hb dX7_keep_4 rfl (lv_at hl 1 rfl) ?_
  refine lv_bipush (pc := 5) (v := 48) hx hb dX7_keep_5 (by decide) ?_
  refine lv_imul (pc := 7) hx hb dX7_keep_7 ?_
  refine lv_iload_n (pc := 8) hx hb dX7_keep_8 rfl (lv_at hl 2 rfl) ?_
  refine lv_iadd (pc := 9) hx hb dX7_keep_9 ?_
  refine lv_aload_n (pc := 10) hx hb dX7_keep_10 rfl (lv_at hl 0 rfl) ?_
  refine gf_X7_9 (pc := 11) X Y dX7_keep_11 ?_
  refine lv_iload_n (pc := 14) hx hb dX7_keep_14 rfl (lv_at hl 1 rfl) ?_
  obtain ⟨g_15, h⟩ := gd_s h
  refine r_ialdc (pc := 15) X Y (ca_44 ad cI) g_15 dX7_keep_15 ?_
  refine lv_iload_n (pc := 16) hx hb dX7_keep_16 rfl (lv_at hl 3 rfl) ?_
  refine call_si (pc := 17) (rest := [.int ((v1 * 48) + v2), .ref (ad 46)]) [.int (C 44 v1.toNatClampNeg), .int v3] X Y (c_X7_narrowed (C 44 v1.toNatClampNeg) v3) sw_X7_35 rfl ⟨rfl, rfl, Nat.le_of_ble_eq_true rfl, Nat.le_of_ble_eq_true rfl⟩ hl rfl (Nat.le_of_ble_eq_true rfl) dX7_keep_17 (fun H locs Y => ?_)
  obtain ⟨g_20, h⟩ := gd_s h
  obtain ⟨C_20, hC_20, h⟩ := sto_s h
  refine r_iastc (pc := 20) X Y (ca_46 ad cI) g_20 hC_20 dX7_keep_20 (fun H locs Y => ?_)
  have hm9 := ret_v h
  exact fin_v (pc := 21) X rfl Y hm9 rfl dX7_keep_21
abbrev rm_X7_hasSpan : Room := { frames := 0, cells := 0, slots := 0, locals := 0 }
set_option maxHeartbeats 4000000 in
set_option maxRecDepth 100000 in
theorem c_X7_hasSpan {r9 : Bool} (v1 : Int32) (v2 : Int32) (v3 : Int32) (h : f_X7_hasSpan v1 v2 v3 C = some r9) : Ct l dC dI ad bd cI cZ yX7_hasSpan cX7_hasSpan 4 (some .boolean) rm_X7_hasSpan [.ref (ad 43), .int v1, .int v2, .int v3] C D (some (.int (b2i r9))) C D := by
  unfold f_X7_hasSpan at h
  refine Ct.intro (own := RX7) (by decide) rfl (Nat.le_of_ble_eq_true rfl) ?_
  intro p e s m args below meth c H locs ls X Y hl
  have hx := X.1
  have hb := X.2.1
  have hl : lv_has ls 4 [(0, .ref (ad 43)), (1, .int v1), (2, .int v2), (3, .int v3)] := hl
  refine lv_iload_n (pc := 0) hx hb dX7_hasSpan_0 rfl (lv_at hl 2 rfl) ?_
  refine lv_if_lt (pc := 1) (tgt := 34) hx hb dX7_hasSpan_1 (by decide) (fun c_1 => ?_) (fun c_1 => ?_)
  · have h := itp c_1 h
    refine lv_iconst (pc := 34) (v := 0) hx hb dX7_hasSpan_34 (by decide) ?_
    have hr9 := ret_p h
    exact fin_z (b := false) (pc := 35) X rfl Y rfl hr9 rfl rfl dX7_hasSpan_35
  · have h := itn c_1 h
    refine lv_iload_n (pc := 4) hx hb dX7_hasSpan_4 rfl (lv_at hl 3 rfl) ?_
    refine lv_if_lt (pc := 5) (tgt := 34) hx hb dX7_hasSpan_5 (by decide) (fun c_5 => ?_) (fun c_5 => ?_)
    · have h := itp c_5 h
      refine lv_iconst (pc := 34) (v := 0) hx hb dX7_hasSpan_34 (by decide) ?_
      have hr9 := ret_p h
      exact fin_z (b := false) (pc := 35) X rfl Y rfl hr9 rfl rfl dX7_hasSpan_35
    · have h := itn c_5 h
      refine lv_iload_n (pc := 8) hx hb dX7_hasSpan_8 rfl (lv_at hl 3 rfl) ?_
      refine lv_aload_n (pc := 9) hx hb dX7_hasSpan_9 rfl (lv_at hl 0 rfl) ?_
      refine gf_X7_15 (pc := 10) X Y dX7_hasSpan_10 ?_
      refine lv_iload_n (pc := 13) hx hb dX7_hasSpan_13 rfl (lv_at hl 1 rfl) ?_
      obtain ⟨g_14, h⟩ := gd_s h
      refine r_ialdc (pc := 14) X Y (ca_45 ad cI) g_14 dX7_hasSpan_14 ?_
      refine lv_icmp_gt (pc := 15) (tgt := 34) hx hb dX7_hasSpan_15 (by decide) (fun c_15 => ?_) (fun c_15 => ?_)
      · have h := itp c_15 h
        refine lv_iconst (pc := 34) (v := 0) hx hb dX7_hasSpan_34 (by decide) ?_
        have hr9 := ret_p h
        exact fin_z (b := false) (pc := 35) X rfl Y rfl hr9 rfl rfl dX7_hasSpan_35
      · have h := itn c_15 h
        refine lv_iload_n (pc := 18) hx hb dX7_hasSpan_18 rfl (lv_at hl 2 rfl) ?_
        refine lv_aload_n (pc := 19) hx hb dX7_hasSpan_19 rfl (lv_at hl 0 rfl) ?_
        refine gf_X7_15 (pc := 20) X Y dX7_hasSpan_20 ?_
        refine lv_iload_n (pc := 23) hx hb dX7_hasSpan_23 rfl (lv_at hl 1 rfl) ?_
        obtain ⟨g_24, h⟩ := gd_s h
        refine r_ialdc (pc := 24) X Y (ca_45 ad cI) g_24 dX7_hasSpan_24 ?_
        refine lv_iload_n (pc := 25) hx hb dX7_hasSpan_25 rfl (lv_at hl 3 rfl) ?_
        refine lv_isub (pc := 26) hx hb dX7_hasSpan_26 ?_
        refine lv_icmp_gt (pc := 27) (tgt := 34) hx hb dX7_hasSpan_27 (by decide) (fun c_27 => ?_) (fun c_27 => ?_)
        · have h := itp c_27 h
          refine lv_iconst (pc := 34) (v := 0) hx hb dX7_hasSpan_34 (by decide) ?_
          have hr9 := ret_p h
          exact fin_z (b := false) (pc := 35) X rfl Y rfl hr9 rfl rfl dX7_hasSpan_35
        · have h := itn c_27 h
          refine lv_iconst (pc := 30) (v := 1) hx hb dX7_hasSpan_30 (by decide) ?_
          refine lv_goto (pc := 31) (tgt := 35) hx hb dX7_hasSpan_31 (by decide) ?_
          have hr9 := ret_p h
          exact fin_z (b := true) (pc := 35) X rfl Y rfl hr9 rfl rfl dX7_hasSpan_35
abbrev rm_X7_move : Room := { frames := 1, cells := 0, slots := 0, locals := 60 }
set_option maxHeartbeats 4000000 in
set_option maxRecDepth 100000 in
theorem c_X7_move {C9 : Mem} (v1 : Int32) (v2 : Int32) (v3 : Int32) (v4 : Int32) (v5 : Int32) (h : f_X7_move v1 v2 v3 v4 v5 C = some C9) : Ct l dC dI ad bd cI cZ yX7_move cX7_move 6 (none) rm_X7_move [.ref (ad 43), .int v1, .int v2, .int v3, .int v4, .int v5] C D (none) C9 D := by
  unfold f_X7_move at h
  refine Ct.intro (own := RX7) (by decide) rfl (Nat.le_of_ble_eq_true rfl) ?_
  intro p e s m args below meth c H locs ls X Y hl
  have hx := X.1
  have hb := X.2.1
  have hl : lv_has ls 6 [(0, .ref (ad 43)), (1, .int v1), (2, .int v2), (3, .int v3), (4, .int v4), (5, .int v5)] := hl
  refine lv_aload_n (pc := 0) hx hb dX7_move_0 rfl (lv_at hl 0 rfl) ?_
  refine gf_X7_18 (pc := 1) X Y dX7_move_1 ?_
  refine lv_iload_n (pc := 4) hx hb dX7_move_4 rfl (lv_at hl 1 rfl) ?_
  refine lv_bipush (pc := 5) (v := 48) hx hb dX7_move_5 (by decide) ?_
  refine lv_imul (pc := 7) hx hb dX7_move_7 ?_
  refine lv_iload_n (pc := 8) hx hb dX7_move_8 rfl (lv_at hl 2 rfl) ?_
  refine lv_iadd (pc := 9) hx hb dX7_move_9 ?_
  refine lv_aload_n (pc := 10) hx hb dX7_move_10 rfl (lv_at hl 0 rfl) ?_
  refine gf_X7_18 (pc := 11) X Y dX7_move_11 ?_
  refine lv_iload_n (pc := 14) hx hb dX7_move_14 rfl (lv_at hl 3 rfl) ?_
  refine lv_bipush (pc := 15) (v := 48) hx hb dX7_move_15 (by decide) ?_
  refine lv_imul (pc := 17) hx hb dX7_move_17 ?_
  refine lv_iload (pc := 18) hx hb dX7_move_18 (lv_at hl 4 rfl) ?_
  refine lv_iadd (pc := 20) hx hb dX7_move_20 ?_
  refine lv_iload (pc := 21) hx hb dX7_move_21 (lv_at hl 5 rfl) ?_
  obtain ⟨g_23, h⟩ := gd_s h
  obtain ⟨C_23, hC_23, h⟩ := lt_s_ h
  refine r_copyc (pc := 23) X Y (ca_46 ad cI) g_23 hC_23 w_X7_39 hl (Nat.le_of_ble_eq_true rfl) (Nat.le_of_ble_eq_true rfl) dX7_move_23 (fun H locs Y => ?_)
  have hm9 := ret_v h
  exact fin_v (pc := 26) X rfl Y hm9 rfl dX7_move_26
abbrev rm_X8_change : Room := { frames := 0, cells := 0, slots := 0, locals := 0 }
set_option maxHeartbeats 4000000 in
set_option maxRecDepth 100000 in
theorem c_X8_change {r9 : Int32} {C9 : Mem} (v1 : Int32) (v2 : Int32) (v3 : Int32) (h : f_X8_change v1 v2 v3 C = some (r9, C9)) : Ct l dC dI ad bd cI cZ yX8_change cX8_change 5 (some .int) rm_X8_change [.ref (ad 38), .int v1, .int v2, .int v3] C D (some (.int r9)) C9 D := by
  unfold f_X8_change at h
  refine Ct.intro (own := RX8) (by decide) rfl (Nat.le_of_ble_eq_true rfl) ?_
  intro p e s m args below meth c H locs ls X Y hl
  have hx := X.1
  have hb := X.2.1
  have hl : lv_has ls 5 [(0, .ref (ad 38)), (1, .int v1), (2, .int v2), (3, .int v3)] := hl
  refine lv_aload_n (pc := 0) hx hb dX8_change_0 rfl (lv_at hl 0 rfl) ?_
  refine gf_X8_9 (pc := 1) X Y dX8_change_1 ?_
  refine lv_iload_n (pc := 4) hx hb dX8_change_4 rfl (lv_at hl 1 rfl) ?_
  refine lv_iconst (pc := 5) (v := 3) hx hb dX8_change_5 (by decide) ?_
  refine lv_imul (pc := 6) hx hb dX8_change_6 ?_
  refine lv_iload_n (pc := 7) hx hb dX8_change_7 rfl (lv_at hl 2 rfl) ?_
  refine lv_iadd (pc := 8) hx hb dX8_change_8 ?_
  obtain ⟨g_9, h⟩ := gd_s h
  refine r_ialdc (pc := 9) X Y (ca_39 ad cI) g_9 dX8_change_9 ?_
  obtain ⟨v4_10, ev4_10, h⟩ := lt_s_ h
  refine top_i ev4_10 ?_
  refine lv_istore (pc := 10) (lv' := [(4, .int v4_10), (0, .ref (ad 38)), (1, .int v1), (2, .int v2), (3, .int v3)]) hx hb dX8_change_10 hl (by decide) rfl (fun ls hl => ?_)
  refine lv_aload_n (pc := 12) hx hb dX8_change_12 rfl (lv_at hl 1 rfl) ?_
  refine gf_X8_9 (pc := 13) X Y dX8_change_13 ?_
  refine lv_iload_n (pc := 16) hx hb dX8_change_16 rfl (lv_at hl 2 rfl) ?_
  refine lv_iconst (pc := 17) (v := 3) hx hb dX8_change_17 (by decide) ?_
  refine lv_imul (pc := 18) hx hb dX8_change_18 ?_
  refine lv_iload_n (pc := 19) hx hb dX8_change_19 rfl (lv_at hl 3 rfl) ?_
  refine lv_iadd (pc := 20) hx hb dX8_change_20 ?_
  refine lv_iload_n (pc := 21) hx hb dX8_change_21 rfl (lv_at hl 4 rfl) ?_
  obtain ⟨g_22, h⟩ := gd_s h
  obtain ⟨C_22, hC_22, h⟩ := sto_s h
  refine r_iastc (pc := 22) X Y (ca_39 ad cI) g_22 hC_22 dX8_change_22 (fun H locs Y => ?_)
  refine lv_iload (pc := 23) hx hb dX8_change_23 (lv_at hl 0 rfl) ?_
  obtain ⟨hr9, hm9⟩ := ret_e h
  exact fin_i (pc := 25) X rfl Y hr9 hm9 rfl dX8_change_25
abbrev rm_X8_spanOf : Room := { frames := 0, cells := 0, slots := 0, locals := 0 }
set_option maxHeartbeats 4000000 in
set_option maxRecDepth 100000 in
theorem c_X8_spanOf (v0 : Int32) : Ct l dC dI ad bd cI cZ yX8_spanOf cX8_spanOf 1 (some .int) rm_X8_spanOf [.int v0] C D (some (.int (f_X8_spanOf v0))) C D := by
  obtain ⟨r9, h⟩ : ∃ r9, f_X8_spanOf v0 = r9 := ⟨_, rfl⟩
  rw [h]
  unfold f_X8_spanOf at h
  refine Ct.intro (own := RX8) (by decide) rfl (Nat.le_of_ble_eq_true rfl) ?_
  intro p e s m args below meth c H locs ls X Y hl
  have hx := X.1
  have hb := X.2.1
  have hl : lv_has ls 1 [(0, .int v0)] := hl
  refine lv_iload_n (pc := 0) hx hb dX8_spanOf_0 rfl (lv_at hl 0 rfl) ?_
  refine lv_iconst (pc := 1) (v := 3) hx hb dX8_spanOf_1 (by decide) ?_
  refine lv_icmp_gt (pc := 2) (tgt := 7) hx hb dX8_spanOf_2 (by decide) (fun c_2 => ?_) (fun c_2 => ?_)
  · have h := itp c_2 h
    refine lv_iload_n (pc := 7) hx hb dX8_spanOf_7 rfl (lv_at hl 0 rfl) ?_
    refine lv_bipush (pc := 8) (v := 6) hx hb dX8_spanOf_8 (by decide) ?_
    refine lv_icmp_gt (pc := 10) (tgt := 17) hx hb dX8_spanOf_10 (by decide) (fun c_10 => ?_) (fun c_10 => ?_)
    · have h := itp c_10 h
      refine lv_iconst (pc := 17) (v := 2) hx hb dX8_spanOf_17 (by decide) ?_
      have hr9 := h
      exact fin_i (pc := 18) X rfl Y hr9 rfl rfl dX8_spanOf_18
    · have h := itn c_10 h
      refine lv_iconst (pc := 13) (v := 1) hx hb dX8_spanOf_13 (by decide) ?_
      refine lv_goto (pc := 14) (tgt := 18) hx hb dX8_spanOf_14 (by decide) ?_
      have hr9 := h
      exact fin_i (pc := 18) X rfl Y hr9 rfl rfl dX8_spanOf_18
  · have h := itn c_2 h
    refine lv_iconst (pc := 5) (v := 0) hx hb dX8_spanOf_5 (by decide) ?_
    have hr9 := h
    exact fin_i (pc := 6) X rfl Y hr9 rfl rfl dX8_spanOf_6
abbrev rm_X8_likely : Room := { frames := 1, cells := 0, slots := 0, locals := 20 }
set_option maxHeartbeats 4000000 in
set_option maxRecDepth 100000 in
theorem WB_X8_likely_68 {r9 : Int64} {t : Nat} (ht : tl t) (x0 : Int64) (x1 : Int64) (v1 : Int32) (v5 : Int32) (v6 : Int32) (v7 : Int32) (C : Mem) (X : Cx p s m args meth c cX8_likely RX8 8 (some .long) dC dI ad bd cI cZ) {kb : Int64 → Int32 → Option Int64} (hkb : ∀ (v3' : Int64) (v7' : Int32) (H : Heap) (locs : List Loc) (ls : Array Slot), Ys s dC dI ad bd cI cZ C D H locs → lv_has ls 8 [(0, .ref (ad 38)), (1, .int v1), (2, .ref (ad t)), (3, .long v3'), (5, .int v5), (6, .int v6), (7, .int v7')] → kb v3' v7' = some r9 → W p l e rm_X8_likely s m args below meth c H locs 0 0 (MQ below (QC (some (.long r9)) dC dI ad bd cI cZ C D) args s 0 0 (AD ad bd)) (F0 m 31 ls [])) {H : Heap} {locs : List Loc} {ls : Array Slot} (Y : Ys s dC dI ad bd cI cZ C D H locs) (hl : lv_has ls 8 [(0, .ref (ad 38)), (1, .int v1), (2, .ref (ad t)), (5, .int v5), (6, .int v6), (7, .int v7)]) (h : B_X8_likely_68 x0 x1 v7 kb = some r9) : W p l e rm_X8_likely s m args below meth c H locs 0 0 (MQ below (QC (some (.long r9)) dC dI ad bd cI cZ C D) args s 0 0 (AD ad bd)) (F0 m 68 ls [.long x1, .long x0]) := by
  have hx := X.1
  have hb := X.2.1
  unfold B_X8_likely_68 at h
  refine lv_lmul (pc := 68) hx hb dX8_likely_68 ?_
  obtain ⟨v3_69, ev3_69, h⟩ := lt_s_ h
  refine top_l ev3_69 ?_
  refine lv_lstore_n (pc := 69) (lv' := [(3, .long v3_69), (0, .ref (ad 38)), (1, .int v1), (2, .ref (ad t)), (5, .int v5), (6, .int v6), (7, .int v7)]) hx hb dX8_likely_69 rfl hl (by decide) rfl (fun ls hl => ?_)
  obtain ⟨v7_70, ev7_70, h⟩ := lt_s_ h
  refine lv_iinc (pc := 70) (v := v7_70) (lv' := [(7, .int v7_70), (3, .long v3_69), (0, .ref (ad 38)), (1, .int v1), (2, .ref (ad t)), (5, .int v5), (6, .int v6)]) hx hb dX8_likely_70 hl (k := 6) rfl (by rw [ev7_70]; rfl) (by decide) rfl (fun ls hl => ?_)
  refine lv_goto (pc := 73) (tgt := 31) hx hb dX8_likely_73 (by decide) ?_
  exact hkb v3_69 v7_70 H locs ls Y (lv_sub hl [2, 3, 4, 1, 5, 6, 0] rfl) h
set_option maxHeartbeats 4000000 in
set_option maxRecDepth 100000 in
theorem WL_X8_likely_31 {r9 : Int64} {t : Nat} (ht : tl t) (v1 : Int32) (v5 : Int32) (v6 : Int32) (C : Mem) (X : Cx p s m args meth c cX8_likely RX8 8 (some .long) dC dI ad bd cI cZ) {kx : Int64 → Option Int64} (hkx : ∀ (v3' : Int64) (H : Heap) (locs : List Loc) (ls : Array Slot), Ys s dC dI ad bd cI cZ C D H locs → lv_has ls 8 [(0, .ref (ad 38)), (1, .int v1), (2, .ref (ad t)), (3, .long v3'), (5, .int v5)] → kx v3' = some r9 → W p l e rm_X8_likely s m args below meth c H locs 0 0 (MQ below (QC (some (.long r9)) dC dI ad bd cI cZ C D) args s 0 0 (AD ad bd)) (F0 m 76 ls [])) : ∀ (n_ : Nat) (v3 : Int64) (v7 : Int32) (H : Heap) (locs : List Loc) (ls : Array Slot), Ys s dC dI ad bd cI cZ C D H locs → lv_has ls 8 [(0, .ref (ad 38)), (1, .int v1), (2, .ref (ad t)), (3, .long v3), (5, .int v5), (6, .int v6), (7, .int v7)] → L_X8_likely_31 t v5 v6 C kx n_ v3 v7 = some r9 → W p l e rm_X8_likely s m args below meth c H locs 0 0 (MQ below (QC (some (.long r9)) dC dI ad bd cI cZ C D) args s 0 0 (AD ad bd)) (F0 m 31 ls []) := by
  have hx := X.1
  have hb := X.2.1
  intro n_
  induction n_ with
  | zero =>
    intro v3 v7 H locs ls Y hl h
    cases h
  | succ n_ ih =>
    intro v3 v7 H locs ls Y hl h
    unfold L_X8_likely_31 at h
    refine lv_iload (pc := 31) hx hb dX8_likely_31 (lv_at hl 6 rfl) ?_
    refine lv_aload_n (pc := 33) hx hb dX8_likely_33 rfl (lv_at hl 2 rfl) ?_
    refine gf_X8_19 (pc := 34) X Y ht dX8_likely_34 ?_
    refine lv_iload (pc := 37) hx hb dX8_likely_37 (lv_at hl 4 rfl) ?_
    obtain ⟨g_39, h⟩ := gd_s h
    refine r_ialdc (pc := 39) X Y (tl_a1 ht ad cI) g_39 dX8_likely_39 ?_
    refine lv_icmp_ge (pc := 40) (tgt := 76) hx hb dX8_likely_40 (by decide) (fun c_40 => ?_) (fun c_40 => ?_)
    · have h := itp c_40 h
      exact hkx v3 H locs ls Y (lv_sub hl [0, 1, 2, 3, 4] rfl) h
    · have h := itn c_40 h
      refine lv_lload_n (pc := 43) hx hb dX8_likely_43 rfl (lv_at hl 3 rfl) ?_
      refine lv_iload (pc := 44) hx hb dX8_likely_44 (lv_at hl 6 rfl) ?_
      refine lv_aload_n (pc := 46) hx hb dX8_likely_46 rfl (lv_at hl 2 rfl) ?_
      refine gf_X8_24 (pc := 47) X Y ht dX8_likely_47 ?_
      refine lv_iload (pc := 50) hx hb dX8_likely_50 (lv_at hl 4 rfl) ?_
      obtain ⟨g_52, h⟩ := gd_s h
      refine r_ialdc (pc := 52) X Y (tl_a2 ht ad cI) g_52 dX8_likely_52 ?_
      refine lv_icmp_ge (pc := 53) (tgt := 62) hx hb dX8_likely_53 (by decide) (fun c_53 => ?_) (fun c_53 => ?_)
      · have h := itp c_53 h
        refine lv_bipush (pc := 62) (v := 16) hx hb dX8_likely_62 (by decide) ?_
        refine lv_iload (pc := 64) hx hb dX8_likely_64 (lv_at hl 5 rfl) ?_
        refine lv_isub (pc := 66) hx hb dX8_likely_66 ?_
        refine lv_i2l (pc := 67) hx hb dX8_likely_67 rfl ?_
        exact WB_X8_likely_68 ht v3 ((16 - v6).toInt64) v1 v5 v6 v7 C X (kb := (L_X8_likely_31 t v5 v6 C kx n_)) ih Y (lv_sub hl [0, 1, 2, 4, 5, 6] rfl) h
      · have h := itn c_53 h
        refine lv_iload (pc := 56) hx hb dX8_likely_56 (lv_at hl 5 rfl) ?_
        refine lv_i2l (pc := 58) hx hb dX8_likely_58 rfl ?_
        refine lv_goto (pc := 59) (tgt := 68) hx hb dX8_likely_59 (by decide) ?_
        exact WB_X8_likely_68 ht v3 (v6.toInt64) v1 v5 v6 v7 C X (kb := (L_X8_likely_31 t v5 v6 C kx n_)) ih Y (lv_sub hl [0, 1, 2, 4, 5, 6] rfl) h
set_option maxHeartbeats 4000000 in
set_option maxRecDepth 100000 in
theorem WL_X8_likely_5 {r9 : Int64} {t : Nat} (ht : tl t) (v1 : Int32) (C : Mem) (X : Cx p s m args meth c cX8_likely RX8 8 (some .long) dC dI ad bd cI cZ) {kx : Int64 → Option Int64} (hkx : ∀ (v3' : Int64) (H : Heap) (locs : List Loc) (ls : Array Slot), Ys s dC dI ad bd cI cZ C D H locs → lv_has ls 8 [(3, .long v3')] → kx v3' = some r9 → W p l e rm_X8_likely s m args below meth c H locs 0 0 (MQ below (QC (some (.long r9)) dC dI ad bd cI cZ C D) args s 0 0 (AD ad bd)) (F0 m 82 ls [])) : ∀ (n_ : Nat) (v3 : Int64) (v5 : Int32) (H : Heap) (locs : List Loc) (ls : Array Slot), Ys s dC dI ad bd cI cZ C D H locs → lv_has ls 8 [(0, .ref (ad 38)), (1, .int v1), (2, .ref (ad t)), (3, .long v3), (5, .int v5)] → L_X8_likely_5 t v1 C kx n_ v3 v5 = some r9 → W p l e rm_X8_likely s m args below meth c H locs 0 0 (MQ below (QC (some (.long r9)) dC dI ad bd cI cZ C D) args s 0 0 (AD ad bd)) (F0 m 5 ls []) := by
  have hx := X.1
  have hb := X.2.1
  intro n_
  induction n_ with
  | zero =>
    intro v3 v5 H locs ls Y hl h
    cases h
  | succ n_ ih =>
    intro v3 v5 H locs ls Y hl h
    unfold L_X8_likely_5 at h
    refine lv_iload (pc := 5) hx hb dX8_likely_5 (lv_at hl 4 rfl) ?_
    refine lv_bipush (pc := 7) (v := 11) hx hb dX8_likely_7 (by decide) ?_
    refine lv_icmp_ge (pc := 9) (tgt := 82) hx hb dX8_likely_9 (by decide) (fun c_9 => ?_) (fun c_9 => ?_)
    · have h := itp c_9 h
      exact hkx v3 H locs ls Y (lv_sub hl [3] rfl) h
    · have h := itn c_9 h
      refine lv_aload_n (pc := 12) hx hb dX8_likely_12 rfl (lv_at hl 0 rfl) ?_
      refine gf_X8_9 (pc := 13) X Y dX8_likely_13 ?_
      refine lv_iload_n (pc := 16) hx hb dX8_likely_16 rfl (lv_at hl 1 rfl) ?_
      refine lv_iconst (pc := 17) (v := 3) hx hb dX8_likely_17 (by decide) ?_
      refine lv_imul (pc := 18) hx hb dX8_likely_18 ?_
      refine lv_iload (pc := 19) hx hb dX8_likely_19 (lv_at hl 4 rfl) ?_
      refine call_si (pc := 21) (rest := [.int (v1 * 3), .ref (ad 39)]) [.int v5] X Y (c_X8_spanOf v5) sw_X8_15 rfl ⟨rfl, rfl, Nat.le_of_ble_eq_true rfl, Nat.le_of_ble_eq_true rfl⟩ hl rfl (Nat.le_of_ble_eq_true rfl) dX8_likely_21 (fun H locs Y => ?_)
      refine lv_iadd (pc := 24) hx hb dX8_likely_24 ?_
      obtain ⟨g_25, h⟩ := gd_s h
      refine r_ialdc (pc := 25) X Y (ca_39 ad cI) g_25 dX8_likely_25 ?_
      obtain ⟨v6_26, ev6_26, h⟩ := lt_s_ h
      refine top_i ev6_26 ?_
      refine lv_istore (pc := 26) (lv' := [(6, .int v6_26), (0, .ref (ad 38)), (1, .int v1), (2, .ref (ad t)), (3, .long v3), (5, .int v5)]) hx hb dX8_likely_26 hl (by decide) rfl (fun ls hl => ?_)
      refine lv_iconst (pc := 28) (v := 0) hx hb dX8_likely_28 (by decide) ?_
      refine lv_istore (pc := 29) (lv' := [(7, .int 0), (6, .int v6_26), (0, .ref (ad 38)), (1, .int v1), (2, .ref (ad t)), (3, .long v3), (5, .int v5)]) hx hb dX8_likely_29 hl (by decide) rfl (fun ls hl => ?_)
      refine WL_X8_likely_31 ht v1 v5 v6_26 C X (fun v3_76 H locs ls Y hl h => ?_) FU v3 0 H locs ls Y (lv_sub hl [2, 3, 4, 5, 6, 1, 0] rfl) h
      obtain ⟨v5_76, ev5_76, h⟩ := lt_s_ h
      refine lv_iinc (pc := 76) (v := v5_76) (lv' := [(5, .int v5_76), (0, .ref (ad 38)), (1, .int v1), (2, .ref (ad t)), (3, .long v3_76)]) hx hb dX8_likely_76 hl (k := 4) rfl (by rw [ev5_76]; rfl) (by decide) rfl (fun ls hl => ?_)
      refine lv_goto (pc := 79) (tgt := 5) hx hb dX8_likely_79 (by decide) ?_
      exact ih v3_76 v5_76 H locs ls Y (lv_sub hl [1, 2, 3, 4, 0] rfl) h
set_option maxHeartbeats 4000000 in
set_option maxRecDepth 100000 in
theorem c_X8_likely {r9 : Int64} (v1 : Int32) (t : Nat) (ht : tl t) (h : f_X8_likely v1 t C = some r9) : Ct l dC dI ad bd cI cZ yX8_likely cX8_likely 8 (some .long) rm_X8_likely [.ref (ad 38), .int v1, .ref (ad t)] C D (some (.long r9)) C D := by
  unfold f_X8_likely at h
  refine Ct.intro (own := RX8) (by decide) rfl (Nat.le_of_ble_eq_true rfl) ?_
  intro p e s m args below meth c H locs ls X Y hl
  have hx := X.1
  have hb := X.2.1
  have hl : lv_has ls 8 [(0, .ref (ad 38)), (1, .int v1), (2, .ref (ad t))] := hl
  refine lv_lconst (pc := 0) (v := 1) hx hb dX8_likely_0 (by decide) ?_
  refine lv_lstore_n (pc := 1) (lv' := [(3, .long 1), (0, .ref (ad 38)), (1, .int v1), (2, .ref (ad t))]) hx hb dX8_likely_1 rfl hl (by decide) rfl (fun ls hl => ?_)
  refine lv_iconst (pc := 2) (v := 0) hx hb dX8_likely_2 (by decide) ?_
  refine lv_istore (pc := 3) (lv' := [(5, .int 0), (3, .long 1), (0, .ref (ad 38)), (1, .int v1), (2, .ref (ad t))]) hx hb dX8_likely_3 hl (by decide) rfl (fun ls hl => ?_)
  refine WL_X8_likely_5 ht v1 C X (fun v3_82 H locs ls Y hl h => ?_) FU 1 0 H locs ls Y (lv_sub hl [2, 3, 4, 1, 0] rfl) h
  refine lv_lload_n (pc := 82) hx hb dX8_likely_82 rfl (lv_at hl 0 rfl) ?_
  have hr9 := ret_p h
  exact fin_l (pc := 83) X rfl Y hr9 rfl rfl dX8_likely_83
abbrev rm_X9_middle : Room := { frames := 0, cells := 0, slots := 0, locals := 0 }
set_option maxHeartbeats 4000000 in
set_option maxRecDepth 100000 in
theorem WL_X9_middle_4 {r9 : Int32} {t : Nat} (ht : tl t) (C : Mem) (X : Cx p s m args meth c cX9_middle RX9 3 (some .int) dC dI ad bd cI cZ) {kx : Option Int32} (hkx : ∀ (H : Heap) (locs : List Loc) (ls : Array Slot), Ys s dC dI ad bd cI cZ C D H locs → lv_has ls 3 [] → kx = some r9 → W p l e rm_X9_middle s m args below meth c H locs 0 0 (MQ below (QC (some (.int r9)) dC dI ad bd cI cZ C D) args s 0 0 (AD ad bd)) (F0 m 37 ls [])) : ∀ (n_ : Nat) (v1 : Int32) (v2 : Int32) (H : Heap) (locs : List Loc) (ls : Array Slot), Ys s dC dI ad bd cI cZ C D H locs → lv_has ls 3 [(0, .ref (ad t)), (1, .int v1), (2, .int v2)] → L_X9_middle_4 t C kx n_ v1 v2 = some r9 → W p l e rm_X9_middle s m args below meth c H locs 0 0 (MQ below (QC (some (.int r9)) dC dI ad bd cI cZ C D) args s 0 0 (AD ad bd)) (F0 m 4 ls []) := by
  have hx := X.1
  have hb := X.2.1
  intro n_
  induction n_ with
  | zero =>
    intro v1 v2 H locs ls Y hl h
    cases h
  | succ n_ ih =>
    intro v1 v2 H locs ls Y hl h
    unfold L_X9_middle_4 at h
    refine lv_iload_n (pc := 4) hx hb dX9_middle_4 rfl (lv_at hl 2 rfl) ?_
    refine lv_bipush (pc := 5) (v := 11) hx hb dX9_middle_5 (by decide) ?_
    refine lv_icmp_ge (pc := 7) (tgt := 37) hx hb dX9_middle_7 (by decide) (fun c_7 => ?_) (fun c_7 => ?_)
    · have h := itp c_7 h
      exact hkx  H locs ls Y (lv_sub hl [] rfl) h
    · have h := itn c_7 h
      refine lv_iload_n (pc := 10) hx hb dX9_middle_10 rfl (lv_at hl 1 rfl) ?_
      refine lv_aload_n (pc := 11) hx hb dX9_middle_11 rfl (lv_at hl 0 rfl) ?_
      refine gf_X9_9 (pc := 12) X Y ht dX9_middle_12 ?_
      refine lv_iload_n (pc := 15) hx hb dX9_middle_15 rfl (lv_at hl 2 rfl) ?_
      obtain ⟨g_16, h⟩ := gd_s h
      refine r_ialdc (pc := 16) X Y (tl_a1 ht ad cI) g_16 dX9_middle_16 ?_
      refine lv_iadd (pc := 17) hx hb dX9_middle_17 ?_
      obtain ⟨v1_18, ev1_18, h⟩ := lt_s_ h
      refine top_i ev1_18 ?_
      refine lv_istore_n (pc := 18) (lv' := [(1, .int v1_18), (0, .ref (ad t)), (2, .int v2)]) hx hb dX9_middle_18 rfl hl (by decide) rfl (fun ls hl => ?_)
      refine lv_iconst (pc := 19) (v := 2) hx hb dX9_middle_19 (by decide) ?_
      refine lv_iload_n (pc := 20) hx hb dX9_middle_20 rfl (lv_at hl 0 rfl) ?_
      refine lv_imul (pc := 21) hx hb dX9_middle_21 ?_
      refine lv_aload_n (pc := 22) hx hb dX9_middle_22 rfl (lv_at hl 1 rfl) ?_
      refine gf_X9_24 (pc := 23) X Y ht dX9_middle_23 ?_
      refine lv_icmp_lt (pc := 26) (tgt := 31) hx hb dX9_middle_26 (by decide) (fun c_26 => ?_) (fun c_26 => ?_)
      · have h := itp c_26 h
        obtain ⟨v2_31, ev2_31, h⟩ := lt_s_ h
        refine lv_iinc (pc := 31) (v := v2_31) (lv' := [(2, .int v2_31), (1, .int v1_18), (0, .ref (ad t))]) hx hb dX9_middle_31 hl (k := 2) rfl (by rw [ev2_31]; rfl) (by decide) rfl (fun ls hl => ?_)
        refine lv_goto (pc := 34) (tgt := 4) hx hb dX9_middle_34 (by decide) ?_
        exact ih v1_18 v2_31 H locs ls Y (lv_sub hl [2, 1, 0] rfl) h
      · have h := itn c_26 h
        refine lv_iload_n (pc := 29) hx hb dX9_middle_29 rfl (lv_at hl 2 rfl) ?_
        have hr9 := ret_p h
        exact fin_i (pc := 30) X rfl Y hr9 rfl rfl dX9_middle_30
set_option maxHeartbeats 4000000 in
set_option maxRecDepth 100000 in
theorem c_X9_middle {r9 : Int32} (t : Nat) (ht : tl t) (h : f_X9_middle t C = some r9) : Ct l dC dI ad bd cI cZ yX9_middle cX9_middle 3 (some .int) rm_X9_middle [.ref (ad t)] C D (some (.int r9)) C D := by
  unfold f_X9_middle at h
  refine Ct.intro (own := RX9) (by decide) rfl (Nat.le_of_ble_eq_true rfl) ?_
  intro p e s m args below meth c H locs ls X Y hl
  have hx := X.1
  have hb := X.2.1
  have hl : lv_has ls 3 [(0, .ref (ad t))] := hl
  refine lv_iconst (pc := 0) (v := 0) hx hb dX9_middle_0 (by decide) ?_
  refine lv_istore_n (pc := 1) (lv' := [(1, .int 0), (0, .ref (ad t))]) hx hb dX9_middle_1 rfl hl (by decide) rfl (fun ls hl => ?_)
  refine lv_iconst (pc := 2) (v := 0) hx hb dX9_middle_2 (by decide) ?_
  refine lv_istore_n (pc := 3) (lv' := [(2, .int 0), (1, .int 0), (0, .ref (ad t))]) hx hb dX9_middle_3 rfl hl (by decide) rfl (fun ls hl => ?_)
  refine WL_X9_middle_4 ht C X (fun H locs ls Y hl h => ?_) FU 0 0 H locs ls Y (lv_sub hl [2, 1, 0] rfl) h
  refine lv_bipush (pc := 37) (v := 10) hx hb dX9_middle_37 (by decide) ?_
  have hr9 := ret_p h
  exact fin_i (pc := 39) X rfl Y hr9 rfl rfl dX9_middle_39
end walk
