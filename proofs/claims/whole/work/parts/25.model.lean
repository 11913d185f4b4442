section walk
variable {p : Program} {l : Launch} {e : Env} {R : Room} {s : State} {m : MethodId} {args : Array Value} {below : List Frame} {meth : Method} {c : Code} {H : Heap} {locs : List Loc} {Q : State → Prop} {cc : ByteArray} {own : String} {nL : Nat} {ret : Option FieldType} {dC : Nat → ClassId} {dI : Nat → Nat → Nat} {ad bd : Nat → Nat} {cI cZ : ClassId} {C D C' D' : Mem} {pc : Nat} {ls : Array Slot} {rest : List Value}
abbrev rm_X12_in : Room := { frames := 0, cells := 0, slots := 0, locals := 0 }
set_option maxHeartbeats 4000000 in
set_option maxRecDepth 100000 in
theorem c_X12_in (v0 : Int32) (v1 : Int32) (v2 : Int32) : Ct l dC dI ad bd cI cZ yX12_in cX12_in 3 (some .boolean) rm_X12_in [.int v0, .int v1, .int v2] C D (some (.int (b2i (f_X12_in v0 v1 v2)))) C D := by
  obtain ⟨r9, h⟩ : ∃ r9, f_X12_in v0 v1 v2 = r9 := ⟨_, rfl⟩
  rw [h]
  unfold f_X12_in at h
  refine Ct.intro (own := RX12) (by decide) rfl (Nat.le_of_ble_eq_true rfl) ?_
  intro p e s m args below meth c H locs ls X Y hl
  have hx := X.1
  have hb := X.2.1
  have hl : lv_has ls 3 [(0, .int v0), (1, .int v1), (2, .int v2)] := hl
  refine lv_iload_n (pc := 0) hx hb dX12_in_0 rfl (lv_at hl 0 rfl) ?_
  refine lv_iload_n (pc := 1) hx hb dX12_in_1 rfl (lv_at hl 1 rfl) ?_
  refine lv_icmp_lt (pc := 2) (tgt := 14) hx hb dX12_in_2 (by decide) (fun c_2 => ?_) (fun c_2 => ?_)
  · have h := itp c_2 h
    refine lv_iconst (pc := 14) (v := 0) hx hb dX12_in_14 (by decide) ?_
    have hr9 := h
    exact fin_z (b := false) (pc := 15) X rfl Y rfl hr9 rfl rfl dX12_in_15
  · have h := itn c_2 h
    refine lv_iload_n (pc := 5) hx hb dX12_in_5 rfl (lv_at hl 0 rfl) ?_
    refine lv_iload_n (pc := 6) hx hb dX12_in_6 rfl (lv_at hl 2 rfl) ?_
    refine lv_icmp_gt (pc := 7) (tgt := 14) hx hb dX12_in_7 (by decide) (fun c_7 => ?_) (fun c_7 => ?_)
    · have h := itp c_7 h
      refine lv_iconst (pc := 14) (v := 0) hx hb dX12_in_14 (by decide) ?_
      have hr9 := h
      exact fin_z (b := false) (pc := 15) X rfl Y rfl hr9 rfl rfl dX12_in_15
    · have h := itn c_7 h
      refine lv_iconst (pc := 10) (v := 1) hx hb dX12_in_10 (by decide) ?_
      refine lv_goto (pc := 11) (tgt := 15) hx hb dX12_in_11 (by decide) ?_
      have hr9 := h
      exact fin_z (b := true) (pc := 15) X rfl Y rfl hr9 rfl rfl dX12_in_15
abbrev rm_X12_amount : Room := { frames := 0, cells := 0, slots := 0, locals := 0 }
set_option maxHeartbeats 4000000 in
set_option maxRecDepth 100000 in
theorem c_X12_amount (v0 : Int32) : Ct l dC dI ad bd cI cZ yX12_amount cX12_amount 1 (some .int) rm_X12_amount [.int v0] C D (some (.int (f_X12_amount v0))) C D := by
  obtain ⟨r9, h⟩ : ∃ r9, f_X12_amount v0 = r9 := ⟨_, rfl⟩
  rw [h]
  unfold f_X12_amount at h
  refine Ct.intro (own := RX12) (by decide) rfl (Nat.le_of_ble_eq_true rfl) ?_
  intro p e s m args below meth c H locs ls X Y hl
  have hx := X.1
  have hb := X.2.1
  have hl : lv_has ls 1 [(0, .int v0)] := hl
  refine lv_iload_n (pc := 0) hx hb dX12_amount_0 rfl (lv_at hl 0 rfl) ?_
  refine lv_if_ge (pc := 1) (tgt := 9) hx hb dX12_amount_1 (by decide) (fun c_1 => ?_) (fun c_1 => ?_)
  · have h := itp c_1 h
    refine lv_iload_n (pc := 9) hx hb dX12_amount_9 rfl (lv_at hl 0 rfl) ?_
    have hr9 := h
    exact fin_i (pc := 10) X rfl Y hr9 rfl rfl dX12_amount_10
  · have h := itn c_1 h
    refine lv_iload_n (pc := 4) hx hb dX12_amount_4 rfl (lv_at hl 0 rfl) ?_
    refine lv_ineg (pc := 5) hx hb dX12_amount_5 ?_
    refine lv_goto (pc := 6) (tgt := 10) hx hb dX12_amount_6 (by decide) ?_
    have hr9 := h
    exact fin_i (pc := 10) X rfl Y hr9 rfl rfl dX12_amount_10
abbrev rm_X12_ones : Room := { frames := 0, cells := 0, slots := 0, locals := 0 }
set_option maxHeartbeats 4000000 in
set_option maxRecDepth 100000 in
theorem WL_X12_ones_4 {r9 : Int32} (v0 : Int32) (X : Cx p s m args meth c cX12_ones RX12 3 (some .int) dC dI ad bd cI cZ) {kx : Int32 → Option Int32} (hkx : ∀ (v1' : Int32) (H : Heap) (locs : List Loc) (ls : Array Slot), Ys s dC dI ad bd cI cZ C D H locs → lv_has ls 3 [(1, .int v1')] → kx v1' = some r9 → W p l e rm_X12_ones s m args below meth c H locs 0 0 (MQ below (QC (some (.int r9)) dC dI ad bd cI cZ C D) args s 0 0 (AD ad bd)) (F0 m 24 ls [])) : ∀ (n_ : Nat) (v1 : Int32) (v2 : Int32) (H : Heap) (locs : List Loc) (ls : Array Slot), Ys s dC dI ad bd cI cZ C D H locs → lv_has ls 3 [(0, .int v0), (1, .int v1), (2, .int v2)] → L_X12_ones_4 v0 kx n_ v1 v2 = some r9 → W p l e rm_X12_ones s m args below meth c H locs 0 0 (MQ below (QC (some (.int r9)) dC dI ad bd cI cZ C D) args s 0 0 (AD ad bd)) (F0 m 4 ls []) := by
  have hx := X.1
  have hb := X.2.1
  intro n_
  induction n_ with
  | zero =>
    intro v1 v2 H locs ls Y hl h
    cases h
  | succ n_ ih =>
    intro v1 v2 H locs ls Y hl h
    unfold L_X12_ones_4 at h
    refine lv_iload_n (pc := 4) hx hb dX12_ones_4 rfl (lv_at hl 2 rfl) ?_
    refine lv_bipush (pc := 5) (v := 14) hx hb dX12_ones_5 (by decide) ?_
    refine lv_icmp_ge (pc := 7) (tgt := 24) hx hb dX12_ones_7 (by decide) (fun c_7 => ?_) (fun c_7 => ?_)
    · have h := itp c_7 h
      exact hkx v1 H locs ls Y (lv_sub hl [1] rfl) h
    · have h := itn c_7 h
      refine lv_iload_n (pc := 10) hx hb dX12_ones_10 rfl (lv_at hl 1 rfl) ?_
      refine lv_iload_n (pc := 11) hx hb dX12_ones_11 rfl (lv_at hl 0 rfl) ?_
      refine lv_iload_n (pc := 12) hx hb dX12_ones_12 rfl (lv_at hl 2 rfl) ?_
      refine lv_ishr (pc := 13) hx hb dX12_ones_13 ?_
      refine lv_iconst (pc := 14) (v := 1) hx hb dX12_ones_14 (by decide) ?_
      refine lv_iand (pc := 15) hx hb dX12_ones_15 ?_
      refine lv_iadd (pc := 16) hx hb dX12_ones_16 ?_
      obtain ⟨v1_17, ev1_17, h⟩ := lt_s_ h
      refine top_i ev1_17 ?_
      refine lv_istore_n (pc := 17) (lv' := [(1, .int v1_17), (0, .int v0), (2, .int v2)]) hx hb dX12_ones_17 rfl hl (by decide) rfl (fun ls hl => ?_)
      obtain ⟨v2_18, ev2_18, h⟩ := lt_s_ h
      refine lv_iinc (pc := 18) (v := v2_18) (lv' := [(2, .int v2_18), (1, .int v1_17), (0, .int v0)]) hx hb dX12_ones_18 hl (k := 2) rfl (by rw [ev2_18]; rfl) (by decide) rfl (fun ls hl => ?_)
      refine lv_goto (pc := 21) (tgt := 4) hx hb dX12_ones_21 (by decide) ?_
      exact ih v1_17 v2_18 H locs ls Y (lv_sub hl [2, 1, 0] rfl) h
set_option maxHeartbeats 4000000 in
set_option maxRecDepth 100000 in
theorem c_X12_ones {r9 : Int32} (v0 : Int32) (h : f_X12_ones v0 = some r9) : Ct l dC dI ad bd cI cZ yX12_ones cX12_ones 3 (some .int) rm_X12_ones [.int v0] C D (some (.int r9)) C D := by
  unfold f_X12_ones at h
  refine Ct.intro (own := RX12) (by decide) rfl (Nat.le_of_ble_eq_true rfl) ?_
  intro p e s m args below meth c H locs ls X Y hl
  have hx := X.1
  have hb := X.2.1
  have hl : lv_has ls 3 [(0, .int v0)] := hl
  refine lv_iconst (pc := 0) (v := 0) hx hb dX12_ones_0 (by decide) ?_
  refine lv_istore_n (pc := 1) (lv' := [(1, .int 0), (0, .int v0)]) hx hb dX12_ones_1 rfl hl (by decide) rfl (fun ls hl => ?_)
  refine lv_iconst (pc := 2) (v := 0) hx hb dX12_ones_2 (by decide) ?_
  refine lv_istore_n (pc := 3) (lv' := [(2, .int 0), (1, .int 0), (0, .int v0)]) hx hb dX12_ones_3 rfl hl (by decide) rfl (fun ls hl => ?_)
  refine WL_X12_ones_4 v0 X (fun v1_24 H locs ls Y hl h => ?_) FU 0 0 H locs ls Y (lv_sub hl [2, 1, 0] rfl) h
  refine lv_iload_n (pc := 24) hx hb dX12_ones_24 rfl (lv_at hl 0 rfl) ?_
  have hr9 := ret_p h
  exact fin_i (pc := 25) X rfl Y hr9 rfl rfl dX12_ones_25
abbrev rm_X12_has : Room := { frames := 0, cells := 0, slots := 0, locals := 0 }
set_option maxHeartbeats 4000000 in
set_option maxRecDepth 100000 in
theorem c_X12_has (v0 : Int32) (v1 : Int32) : Ct l dC dI ad bd cI cZ yX12_has cX12_has 2 (some .boolean) rm_X12_has [.int v0, .int v1] C D (some (.int (b2i (f_X12_has v0 v1)))) C D := by
  obtain ⟨r9, h⟩ : ∃ r9, f_X12_has v0 v1 = r9 := ⟨_, rfl⟩
  rw [h]
  unfold f_X12_has at h
  refine Ct.intro (own := RX12) (by decide) rfl (Nat.le_of_ble_eq_true rfl) ?_
  intro p e s m args below meth c H locs ls X Y hl
  have hx := X.1
  have hb := X.2.1
  have hl : lv_has ls 2 [(0, .int v0), (1, .int v1)] := hl
  refine lv_iload_n (pc := 0) hx hb dX12_has_0 rfl (lv_at hl 0 rfl) ?_
  refine lv_iload_n (pc := 1) hx hb dX12_has_1 rfl (lv_at hl 1 rfl) ?_
  refine lv_ishr (pc := 2) hx hb dX12_has_2 ?_
  refine lv_iconst (pc := 3) (v := 1) hx hb dX12_has_3 (by decide) ?_
  refine lv_iand (pc := 4) hx hb dX12_has_4 ?_
  refine lv_iconst (pc := 5) (v := 1) hx hb dX12_has_5 (by decide) ?_
  refine lv_icmp_ne (pc := 6) (tgt := 13) hx hb dX12_has_6 (by decide) (fun c_6 => ?_) (fun c_6 => ?_)
  · have h := itn c_6 h
    refine lv_iconst (pc := 13) (v := 0) hx hb dX12_has_13 (by decide) ?_
    have hr9 := h
    exact fin_z (b := false) (pc := 14) X rfl Y rfl hr9 rfl rfl dX12_has_14
  · have h := itp c_6 h
    refine lv_iconst (pc := 9) (v := 1) hx hb dX12_has_9 (by decide) ?_
    refine lv_goto (pc := 10) (tgt := 14) hx hb dX12_has_10 (by decide) ?_
    have hr9 := h
    exact fin_z (b := true) (pc := 14) X rfl Y rfl hr9 rfl rfl dX12_has_14
abbrev rm_X12_no : Room := { frames := 0, cells := 0, slots := 0, locals := 0 }
set_option maxHeartbeats 4000000 in
set_option maxRecDepth 100000 in
theorem c_X12_no (v0 : Int32) : Ct l dC dI ad bd cI cZ yX12_no cX12_no 1 (some .long) rm_X12_no [.int v0] C D (some (.long (f_X12_no v0))) C D := by
  obtain ⟨r9, h⟩ : ∃ r9, f_X12_no v0 = r9 := ⟨_, rfl⟩
  rw [h]
  unfold f_X12_no at h
  refine Ct.intro (own := RX12) (by decide) rfl (Nat.le_of_ble_eq_true rfl) ?_
  intro p e s m args below meth c H locs ls X Y hl
  have hx := X.1
  have hb := X.2.1
  have hl : lv_has ls 1 [(0, .int v0)] := hl
  refine lv_ldc2 (pc := 0) (v := (-9223372036854775808)) hx hb X.2.2.2.1 (X.2.2.2.2.1 _ w_efd5d7a1e0) dX12_no_0 ?_
  refine lv_iload_n (pc := 3) hx hb dX12_no_3 rfl (lv_at hl 0 rfl) ?_
  refine lv_i2l (pc := 4) hx hb dX12_no_4 rfl ?_
  refine lv_lsub (pc := 5) hx hb dX12_no_5 ?_
  have hr9 := h
  exact fin_l (pc := 6) X rfl Y hr9 rfl rfl dX12_no_6
abbrev rm_X12_lowest : Room := { frames := 0, cells := 0, slots := 0, locals := 0 }
set_option maxHeartbeats 4000000 in
set_option maxRecDepth 100000 in
theorem WL_X12_lowest_17 {r9 : Int64} (v0 : Int64) (v2 : Int64) (v4 : Int32) (X : Cx p s m args meth c cX12_lowest RX12 11 (some .long) dC dI ad bd cI cZ) {kx : Int64 → Option Int64} (hkx : ∀ (v5' : Int64) (H : Heap) (locs : List Loc) (ls : Array Slot), Ys s dC dI ad bd cI cZ C D H locs → lv_has ls 11 [(0, .long v0), (2, .long v2), (4, .int v4), (5, .long v5')] → kx v5' = some r9 → W p l e rm_X12_lowest s m args below meth c H locs 0 0 (MQ below (QC (some (.long r9)) dC dI ad bd cI cZ C D) args s 0 0 (AD ad bd)) (F0 m 42 ls [])) : ∀ (n_ : Nat) (v5 : Int64) (v7 : Int64) (H : Heap) (locs : List Loc) (ls : Array Slot), Ys s dC dI ad bd cI cZ C D H locs → lv_has ls 11 [(0, .long v0), (2, .long v2), (4, .int v4), (5, .long v5), (7, .long v7)] → L_X12_lowest_17 kx n_ v5 v7 = some r9 → W p l e rm_X12_lowest s m args below meth c H locs 0 0 (MQ below (QC (some (.long r9)) dC dI ad bd cI cZ C D) args s 0 0 (AD ad bd)) (F0 m 17 ls []) := by
  have hx := X.1
  have hb := X.2.1
  intro n_
  induction n_ with
  | zero =>
    intro v5 v7 H locs ls Y hl h
    cases h
  | succ n_ ih =>
    intro v5 v7 H locs ls Y hl h
    unfold L_X12_lowest_17 at h
    refine lv_lload (pc := 17) hx hb dX12_lowest_17 (lv_at hl 4 rfl) ?_
    refine lv_lconst (pc := 19) (v := 0) hx hb dX12_lowest_19 (by decide) ?_
    refine W.lcmp (pc := 20) hx hb dX12_lowest_20 ?_
    refine lv_if_eq (pc := 21) (tgt := 42) hx hb dX12_lowest_21 (by decide) (fun c_21 => ?_) (fun c_21 => ?_)
    · have h := itp c_21 h
      exact hkx v5 H locs ls Y (lv_sub hl [0, 1, 2, 3] rfl) h
    · have h := itn c_21 h
      refine lv_lload (pc := 24) hx hb dX12_lowest_24 (lv_at hl 3 rfl) ?_
      refine lv_lload (pc := 26) hx hb dX12_lowest_26 (lv_at hl 4 rfl) ?_
      obtain ⟨g_28, h⟩ := gd_s h
      refine lv_lrem (pc := 28) hx hb dX12_lowest_28 (of_decide_eq_true g_28) ?_
      obtain ⟨v9_29, ev9_29, h⟩ := lt_s_ h
      refine top_l ev9_29 ?_
      refine lv_lstore (pc := 29) (lv' := [(9, .long v9_29), (0, .long v0), (2, .long v2), (4, .int v4), (5, .long v5), (7, .long v7)]) hx hb dX12_lowest_29 hl (by decide) rfl (fun ls hl => ?_)
      refine lv_lload (pc := 31) hx hb dX12_lowest_31 (lv_at hl 5 rfl) ?_
      refine lv_lstore (pc := 33) (lv' := [(5, .long v7), (9, .long v9_29), (0, .long v0), (2, .long v2), (4, .int v4), (7, .long v7)]) hx hb dX12_lowest_33 hl (by decide) rfl (fun ls hl => ?_)
      refine lv_lload (pc := 35) hx hb dX12_lowest_35 (lv_at hl 1 rfl) ?_
      refine lv_lstore (pc := 37) (lv' := [(7, .long v9_29), (5, .long v7), (9, .long v9_29), (0, .long v0), (2, .long v2), (4, .int v4)]) hx hb dX12_lowest_37 hl (by decide) rfl (fun ls hl => ?_)
      refine lv_goto (pc := 39) (tgt := 17) hx hb dX12_lowest_39 (by decide) ?_
      exact ih v7 v9_29 H locs ls Y (lv_sub hl [3, 4, 5, 1, 0] rfl) h
set_option maxHeartbeats 4000000 in
set_option maxRecDepth 100000 in
theorem WB_X12_lowest_12 {r9 : Int64} (x0 : Int64) (v0 : Int64) (v2 : Int64) (v4 : Int32) (X : Cx p s m args meth c cX12_lowest RX12 11 (some .long) dC dI ad bd cI cZ) {H : Heap} {locs : List Loc} {ls : Array Slot} (Y : Ys s dC dI ad bd cI cZ C D H locs) (hl : lv_has ls 11 [(0, .long v0), (2, .long v2), (4, .int v4)]) (h : B_X12_lowest_12 x0 v0 v2 v4 = some r9) : W p l e rm_X12_lowest s m args below meth c H locs 0 0 (MQ below (QC (some (.long r9)) dC dI ad bd cI cZ C D) args s 0 0 (AD ad bd)) (F0 m 12 ls [.long x0]) := by
  have hx := X.1
  have hb := X.2.1
  unfold B_X12_lowest_12 at h
  refine lv_lstore (pc := 12) (lv' := [(5, .long x0), (0, .long v0), (2, .long v2), (4, .int v4)]) hx hb dX12_lowest_12 hl (by decide) rfl (fun ls hl => ?_)
  refine lv_lload_n (pc := 14) hx hb dX12_lowest_14 rfl (lv_at hl 2 rfl) ?_
  refine lv_lstore (pc := 15) (lv' := [(7, .long v2), (5, .long x0), (0, .long v0), (2, .long v2), (4, .int v4)]) hx hb dX12_lowest_15 hl (by decide) rfl (fun ls hl => ?_)
  refine WL_X12_lowest_17 v0 v2 v4 X (fun v5_42 H locs ls Y hl h => ?_) FU x0 v2 H locs ls Y (lv_sub hl [2, 3, 4, 1, 0] rfl) h
  refine lv_iload (pc := 42) hx hb dX12_lowest_42 (lv_at hl 2 rfl) ?_
  refine lv_if_ne (pc := 44) (tgt := 54) hx hb dX12_lowest_44 (by decide) (fun c_44 => ?_) (fun c_44 => ?_)
  · have h := itn c_44 h
    refine lv_lload_n (pc := 54) hx hb dX12_lowest_54 rfl (lv_at hl 1 rfl) ?_
    refine lv_lload (pc := 55) hx hb dX12_lowest_55 (lv_at hl 3 rfl) ?_
    obtain ⟨g_57, h⟩ := gd_s h
    refine lv_ldiv (pc := 57) hx hb dX12_lowest_57 (of_decide_eq_true g_57) ?_
    have hr9 := ret_p h
    exact fin_l (pc := 58) X rfl Y hr9 rfl rfl dX12_lowest_58
  · have h := itp c_44 h
    refine lv_lload_n (pc := 47) hx hb dX12_lowest_47 rfl (lv_at hl 0 rfl) ?_
    refine lv_lload (pc := 48) hx hb dX12_lowest_48 (lv_at hl 3 rfl) ?_
    obtain ⟨g_50, h⟩ := gd_s h
    refine lv_ldiv (pc := 50) hx hb dX12_lowest_50 (of_decide_eq_true g_50) ?_
    refine lv_goto (pc := 51) (tgt := 58) hx hb dX12_lowest_51 (by decide) ?_
    have hr9 := ret_p h
    exact fin_l (pc := 58) X rfl Y hr9 rfl rfl dX12_lowest_58
set_option maxHeartbeats 4000000 in
set_option maxRecDepth 100000 in
theorem c_X12_lowest {r9 : Int64} (v0 : Int64) (v2 : Int64) (v4 : Int32) (h : f_X12_lowest v0 v2 v4 = some r9) : Ct l dC dI ad bd cI cZ yX12_lowest cX12_lowest 11 (some .long) rm_X12_lowest [.long v0, .long v2, .int v4] C D (some (.long r9)) C D := by
  unfold f_X12_lowest at h
  refine Ct.intro (own := RX12) (by decide) rfl (Nat.le_of_ble_eq_true rfl) ?_
  intro p e s m args below meth c H locs ls X Y hl
  have hx := X.1
  have hb := X.2.1
  have hl : lv_has ls 11 [(0, .long v0), (2, .long v2), (4, .int v4)] := hl
  refine lv_lload_n (pc := 0) hx hb dX12_lowest_0 rfl (lv_at hl 0 rfl) ?_
  refine lv_lconst (pc := 1) (v := 0) hx hb dX12_lowest_1 (by decide) ?_
  refine W.lcmp (pc := 2) hx hb dX12_lowest_2 ?_
  refine lv_if_ge (pc := 3) (tgt := 11) hx hb dX12_lowest_3 (by decide) (fun c_3 => ?_) (fun c_3 => ?_)
  · have h := itp c_3 h
    refine lv_lload_n (pc := 11) hx hb dX12_lowest_11 rfl (lv_at hl 0 rfl) ?_
    exact WB_X12_lowest_12 v0 v0 v2 v4 X Y (lv_sub hl [0, 1, 2] rfl) h
  · have h := itn c_3 h
    refine lv_lload_n (pc := 6) hx hb dX12_lowest_6 rfl (lv_at hl 0 rfl) ?_
    refine lv_lneg (pc := 7) hx hb dX12_lowest_7 ?_
    refine lv_goto (pc := 8) (tgt := 12) hx hb dX12_lowest_8 (by decide) ?_
    exact WB_X12_lowest_12 (-v0) v0 v2 v4 X Y (lv_sub hl [0, 1, 2] rfl) h
abbrev rm_X12_isPeople : Room := { frames := 1, cells := 0, slots := 0, locals := 22 }
set_option maxHeartbeats 4000000 in
set_option maxRecDepth 100000 in
theorem c_X12_isPeople (v0 : Int32) : Ct l dC dI ad bd cI cZ yX12_isPeople cX12_isPeople 1 (some .boolean) rm_X12_isPeople [.int v0] C D (some (.int (b2i (f_X12_isPeople v0)))) C D := by
  obtain ⟨r9, h⟩ : ∃ r9, f_X12_isPeople v0 = r9 := ⟨_, rfl⟩
  rw [h]
  unfold f_X12_isPeople at h
  refine Ct.intro (own := RX12) (by decide) rfl (Nat.le_of_ble_eq_true rfl) ?_
  intro p e s m args below meth c H locs ls X Y hl
  have hx := X.1
  have hb := X.2.1
  have hl : lv_has ls 1 [(0, .int v0)] := hl
  refine lv_iload_n (pc := 0) hx hb dX12_isPeople_0 rfl (lv_at hl 0 rfl) ?_
  refine lv_iconst (pc := 1) (v := 0) hx hb dX12_isPeople_1 (by decide) ?_
  refine lv_iconst (pc := 2) (v := 3) hx hb dX12_isPeople_2 (by decide) ?_
  refine call_si (pc := 3) (rest := []) [.int v0, .int 0, .int 3] X Y (c_X12_in v0 0 3) sw_X12_107 rfl ⟨rfl, rfl, Nat.le_of_ble_eq_true rfl, Nat.le_of_ble_eq_true rfl⟩ hl rfl (Nat.le_of_ble_eq_true rfl) dX12_isPeople_3 (fun H locs Y => ?_)
  have hr9 := h
  exact fin_z (b := (f_X12_in v0 0 3)) (pc := 6) X rfl Y rfl hr9 rfl rfl dX12_isPeople_6
abbrev rm_X12_isAny : Room := { frames := 1, cells := 0, slots := 0, locals := 22 }
set_option maxHeartbeats 4000000 in
set_option maxRecDepth 100000 in
theorem c_X12_isAny (v0 : Int32) : Ct l dC dI ad bd cI cZ yX12_isAny cX12_isAny 1 (some .boolean) rm_X12_isAny [.int v0] C D (some (.int (b2i (f_X12_isAny v0)))) C D := by
  obtain ⟨r9, h⟩ : ∃ r9, f_X12_isAny v0 = r9 := ⟨_, rfl⟩
  rw [h]
  unfold f_X12_isAny at h
  refine Ct.intro (own := RX12) (by decide) rfl (Nat.le_of_ble_eq_true rfl) ?_
  intro p e s m args below meth c H locs ls X Y hl
  have hx := X.1
  have hb := X.2.1
  have hl : lv_has ls 1 [(0, .int v0)] := hl
  refine lv_iload_n (pc := 0) hx hb dX12_isAny_0 rfl (lv_at hl 0 rfl) ?_
  refine lv_iconst (pc := 1) (v := (-1)) hx hb dX12_isAny_1 (by decide) ?_
  refine lv_iconst (pc := 2) (v := 3) hx hb dX12_isAny_2 (by decide) ?_
  refine call_si (pc := 3) (rest := []) [.int v0, .int (-1), .int 3] X Y (c_X12_in v0 (-1) 3) sw_X12_107 rfl ⟨rfl, rfl, Nat.le_of_ble_eq_true rfl, Nat.le_of_ble_eq_true rfl⟩ hl rfl (Nat.le_of_ble_eq_true rfl) dX12_isAny_3 (fun H locs Y => ?_)
  have hr9 := h
  exact fin_z (b := (f_X12_in v0 (-1) 3)) (pc := 6) X rfl Y rfl hr9 rfl rfl dX12_isAny_6
abbrev rm_X12_isKind : Room := { frames := 1, cells := 0, slots := 0, locals := 22 }
set_option maxHeartbeats 4000000 in
set_option maxRecDepth 100000 in
theorem c_X12_isKind (v0 : Int32) : Ct l dC dI ad bd cI cZ yX12_isKind cX12_isKind 1 (some .boolean) rm_X12_isKind [.int v0] C D (some (.int (b2i (f_X12_isKind v0)))) C D := by
  obtain ⟨r9, h⟩ : ∃ r9, f_X12_isKind v0 = r9 := ⟨_, rfl⟩
  rw [h]
  unfold f_X12_isKind at h
  refine Ct.intro (own := RX12) (by decide) rfl (Nat.le_of_ble_eq_true rfl) ?_
  intro p e s m args below meth c H locs ls X Y hl
  have hx := X.1
  have hb := X.2.1
  have hl : lv_has ls 1 [(0, .int v0)] := hl
  refine lv_iload_n (pc := 0) hx hb dX12_isKind_0 rfl (lv_at hl 0 rfl) ?_
  refine lv_iconst (pc := 1) (v := 0) hx hb dX12_isKind_1 (by decide) ?_
  refine lv_iconst (pc := 2) (v := 3) hx hb dX12_isKind_2 (by decide) ?_
  refine call_si (pc := 3) (rest := []) [.int v0, .int 0, .int 3] X Y (c_X12_in v0 0 3) sw_X12_107 rfl ⟨rfl, rfl, Nat.le_of_ble_eq_true rfl, Nat.le_of_ble_eq_true rfl⟩ hl rfl (Nat.le_of_ble_eq_true rfl) dX12_isKind_3 (fun H locs Y => ?_)
  have hr9 := h
  exact fin_z (b := (f_X12_in v0 0 3)) (pc := 6) X rfl Y rfl hr9 rfl rfl dX12_isKind_6
abbrev rm_X12_isOffer : Room := { frames := 1, cells := 0, slots := 0, locals := 22 }
set_option maxHeartbeats 4000000 in
set_option maxRecDepth 100000 in
theorem c_X12_isOffer (v0 : Int32) : Ct l dC dI ad bd cI cZ yX12_isOffer cX12_isOffer 1 (some .boolean) rm_X12_isOffer [.int v0] C D (some (.int (b2i (f_X12_isOffer v0)))) C D := by
  obtain ⟨r9, h⟩ : ∃ r9, f_X12_isOffer v0 = r9 := ⟨_, rfl⟩
  rw [h]
  unfold f_X12_isOffer at h
  refine Ct.intro (own := RX12) (by decide) rfl (Nat.le_of_ble_eq_true rfl) ?_
  intro p e s m args below meth c H locs ls X Y hl
  have hx := X.1
  have hb := X.2.1
  have hl : lv_has ls 1 [(0, .int v0)] := hl
  refine lv_iload_n (pc := 0) hx hb dX12_isOffer_0 rfl (lv_at hl 0 rfl) ?_
  refine lv_iconst (pc := 1) (v := 0) hx hb dX12_isOffer_1 (by decide) ?_
  refine lv_bipush (pc := 2) (v := 10) hx hb dX12_isOffer_2 (by decide) ?_
  refine call_si (pc := 4) (rest := []) [.int v0, .int 0, .int 10] X Y (c_X12_in v0 0 10) sw_X12_107 rfl ⟨rfl, rfl, Nat.le_of_ble_eq_true rfl, Nat.le_of_ble_eq_true rfl⟩ hl rfl (Nat.le_of_ble_eq_true rfl) dX12_isOffer_4 (fun H locs Y => ?_)
  have hr9 := h
  exact fin_z (b := (f_X12_in v0 0 10)) (pc := 7) X rfl Y rfl hr9 rfl rfl dX12_isOffer_7
abbrev rm_X12_pairMore : Room := { frames := 2, cells := 0, slots := 0, locals := 42 }
set_option maxHeartbeats 4000000 in
set_option maxRecDepth 100000 in
theorem WB_X12_pairMore_33 {r9 : Int32} {D9 : Mem} (x0 : Int32) (x1 : Int32) (v1 : Int32) (v2 : Int32) (v3 : Int32) (v4 : Int32) (v5 : Int32) (D : Mem) (X : Cx p s m args meth c cX12_pairMore RX12 6 (some .int) dC dI ad bd cI cZ) {H : Heap} {locs : List Loc} {ls : Array Slot} (Y : Ys s dC dI ad bd cI cZ C D H locs) (hl : lv_has ls 6 [(0, .ref (bd 0)), (1, .int v1), (2, .int v2), (3, .int v3), (4, .int v4), (5, .int v5)]) (h : B_X12_pairMore_33 x0 x1 v1 v2 v3 v4 v5 D = some (r9, D9)) : W p l e rm_X12_pairMore s m args below meth c H locs 0 0 (MQ below (QC (some (.int r9)) dC dI ad bd cI cZ C D9) args s 0 0 (AD ad bd)) (F0 m 33 ls [.int x1, .int x0]) := by
  have hx := X.1
  have hb := X.2.1
  unfold B_X12_pairMore_33 at h
  refine lv_iconst (pc := 33) (v := 1) hx hb dX12_pairMore_33 (by decide) ?_
  refine call_si (pc := 34) (rest := []) [.int x0, .int x1, .int 1] X Y (c_X12_in x0 x1 1) sw_X12_107 rfl ⟨rfl, rfl, Nat.le_of_ble_eq_true rfl, Nat.le_of_ble_eq_true rfl⟩ hl rfl (Nat.le_of_ble_eq_true rfl) dX12_pairMore_34 (fun H locs Y => ?_)
  refine lv_if_eq (pc := 37) (tgt := 55) hx hb dX12_pairMore_37 (by decide) (fun c_37 => ?_) (fun c_37 => ?_)
  · have h := itn (b2i_f c_37) h
    refine lv_bipush (pc := 55) (v := (-2)) hx hb dX12_pairMore_55 (by decide) ?_
    obtain ⟨hr9, hm9⟩ := ret_e h
    exact fin_i (pc := 57) X rfl Y hr9 rfl hm9 dX12_pairMore_57
  · have h := itp (b2i_t c_37) h
    refine lv_iload (pc := 40) hx hb dX12_pairMore_40 (lv_at hl 5 rfl) ?_
    refine lv_aload_n (pc := 42) hx hb dX12_pairMore_42 rfl (lv_at hl 0 rfl) ?_
    refine gf_X12_121 (pc := 43) X Y dX12_pairMore_43 ?_
    refine lv_sipush (pc := 46) (v := 999) hx hb dX12_pairMore_46 (by decide) ?_
    refine call_si (pc := 49) (rest := []) [.int v5, .int (D 0 7), .int 999] X Y (c_X12_in v5 (D 0 7) 999) sw_X12_107 rfl ⟨rfl, rfl, Nat.le_of_ble_eq_true rfl, Nat.le_of_ble_eq_true rfl⟩ hl rfl (Nat.le_of_ble_eq_true rfl) dX12_pairMore_49 (fun H locs Y => ?_)
    refine lv_if_ne (pc := 52) (tgt := 58) hx hb dX12_pairMore_52 (by decide) (fun c_52 => ?_) (fun c_52 => ?_)
    · have h := itp (b2i_t c_52) h
      refine lv_aload_n (pc := 58) hx hb dX12_pairMore_58 rfl (lv_at hl 0 rfl) ?_
      refine gf_X12_124 (pc := 59) X Y dX12_pairMore_59 ?_
      refine lv_bipush (pc := 62) (v := 60) hx hb dX12_pairMore_62 (by decide) ?_
      refine lv_icmp_ne (pc := 64) (tgt := 70) hx hb dX12_pairMore_64 (by decide) (fun c_64 => ?_) (fun c_64 => ?_)
      · have h := itn c_64 h
        refine lv_aload_n (pc := 70) hx hb dX12_pairMore_70 rfl (lv_at hl 0 rfl) ?_
        refine gf_X12_7 (pc := 71) X Y dX12_pairMore_71 ?_
        refine lv_aload_n (pc := 74) hx hb dX12_pairMore_74 rfl (lv_at hl 0 rfl) ?_
        refine gf_X12_124 (pc := 75) X Y dX12_pairMore_75 ?_
        refine lv_iload_n (pc := 78) hx hb dX12_pairMore_78 rfl (lv_at hl 1 rfl) ?_
        obtain ⟨g_79, h⟩ := gd_s h
        obtain ⟨D_79, hD_79, h⟩ := sto_s h
        refine r_iastm (pc := 79) X Y (cm_1 bd cI cZ) g_79 hD_79 dX12_pairMore_79 (fun H locs Y => ?_)
        refine lv_aload_n (pc := 80) hx hb dX12_pairMore_80 rfl (lv_at hl 0 rfl) ?_
        refine gf_X12_13 (pc := 81) X Y dX12_pairMore_81 ?_
        refine lv_aload_n (pc := 84) hx hb dX12_pairMore_84 rfl (lv_at hl 0 rfl) ?_
        refine gf_X12_124 (pc := 85) X Y dX12_pairMore_85 ?_
        refine lv_iload_n (pc := 88) hx hb dX12_pairMore_88 rfl (lv_at hl 2 rfl) ?_
        obtain ⟨g_89, h⟩ := gd_s h
        obtain ⟨D_89, hD_89, h⟩ := sto_s h
        refine r_iastm (pc := 89) X Y (cm_2 bd cI cZ) g_89 hD_89 dX12_pairMore_89 (fun H locs Y => ?_)
        refine lv_aload_n (pc := 90) hx hb dX12_pairMore_90 rfl (lv_at hl 0 rfl) ?_
        refine gf_X12_16 (pc := 91) X Y dX12_pairMore_91 ?_
        refine lv_aload_n (pc := 94) hx hb dX12_pairMore_94 rfl (lv_at hl 0 rfl) ?_
        refine gf_X12_124 (pc := 95) X Y dX12_pairMore_95 ?_
        refine lv_iload_n (pc := 98) hx hb dX12_pairMore_98 rfl (lv_at hl 3 rfl) ?_
        obtain ⟨g_99, h⟩ := gd_s h
        obtain ⟨D_99, hD_99, h⟩ := sto_s h
        refine r_iastm (pc := 99) X Y (cm_3 bd cI cZ) g_99 hD_99 dX12_pairMore_99 (fun H locs Y => ?_)
        refine lv_aload_n (pc := 100) hx hb dX12_pairMore_100 rfl (lv_at hl 0 rfl) ?_
        refine gf_X12_19 (pc := 101) X Y dX12_pairMore_101 ?_
        refine lv_aload_n (pc := 104) hx hb dX12_pairMore_104 rfl (lv_at hl 0 rfl) ?_
        refine gf_X12_124 (pc := 105) X Y dX12_pairMore_105 ?_
        refine lv_iload (pc := 108) hx hb dX12_pairMore_108 (lv_at hl 4 rfl) ?_
        obtain ⟨g_110, h⟩ := gd_s h
        obtain ⟨D_110, hD_110, h⟩ := sto_s h
        refine r_iastm (pc := 110) X Y (cm_4 bd cI cZ) g_110 hD_110 dX12_pairMore_110 (fun H locs Y => ?_)
        refine lv_aload_n (pc := 111) hx hb dX12_pairMore_111 rfl (lv_at hl 0 rfl) ?_
        refine gf_X12_22 (pc := 112) X Y dX12_pairMore_112 ?_
        refine lv_aload_n (pc := 115) hx hb dX12_pairMore_115 rfl (lv_at hl 0 rfl) ?_
        refine gf_X12_124 (pc := 116) X Y dX12_pairMore_116 ?_
        refine lv_iload (pc := 119) hx hb dX12_pairMore_119 (lv_at hl 5 rfl) ?_
        obtain ⟨g_121, h⟩ := gd_s h
        obtain ⟨D_121, hD_121, h⟩ := sto_s h
        refine r_iastm (pc := 121) X Y (cm_5 bd cI cZ) g_121 hD_121 dX12_pairMore_121 (fun H locs Y => ?_)
        refine lv_aload_n (pc := 122) hx hb dX12_pairMore_122 rfl (lv_at hl 0 rfl) ?_
        refine gf_X12_25 (pc := 123) X Y dX12_pairMore_123 ?_
        refine lv_aload_n (pc := 126) hx hb dX12_pairMore_126 rfl (lv_at hl 0 rfl) ?_
        refine gf_X12_124 (pc := 127) X Y dX12_pairMore_127 ?_
        refine lv_iconst (pc := 130) (v := (-1)) hx hb dX12_pairMore_130 (by decide) ?_
        obtain ⟨g_131, h⟩ := gd_s h
        obtain ⟨D_131, hD_131, h⟩ := sto_s h
        refine r_iastm (pc := 131) X Y (cm_6 bd cI cZ) g_131 hD_131 dX12_pairMore_131 (fun H locs Y => ?_)
        refine lv_aload_n (pc := 132) hx hb dX12_pairMore_132 rfl (lv_at hl 0 rfl) ?_
        refine lv_iload (pc := 133) hx hb dX12_pairMore_133 (lv_at hl 5 rfl) ?_
        obtain ⟨D_135, hD_135, h⟩ := sto_s h
        refine pf_X12_121 (pc := 135) X Y hD_135 dX12_pairMore_135 (fun H locs Y => ?_)
        refine lv_aload_n (pc := 138) hx hb dX12_pairMore_138 rfl (lv_at hl 0 rfl) ?_
        refine lv_dup (pc := 139) hx hb dX12_pairMore_139 rfl ?_
        refine gf_X12_124 (pc := 140) X Y dX12_pairMore_140 ?_
        refine lv_iconst (pc := 143) (v := 1) hx hb dX12_pairMore_143 (by decide) ?_
        refine lv_iadd (pc := 144) hx hb dX12_pairMore_144 ?_
        obtain ⟨D_145, hD_145, h⟩ := sto_s h
        refine pf_X12_124 (pc := 145) X Y hD_145 dX12_pairMore_145 (fun H locs Y => ?_)
        refine lv_aload_n (pc := 148) hx hb dX12_pairMore_148 rfl (lv_at hl 0 rfl) ?_
        refine gf_X12_124 (pc := 149) X Y dX12_pairMore_149 ?_
        refine lv_iconst (pc := 152) (v := 1) hx hb dX12_pairMore_152 (by decide) ?_
        refine lv_isub (pc := 153) hx hb dX12_pairMore_153 ?_
        obtain ⟨hr9, hm9⟩ := ret_e h
        exact fin_i (pc := 154) X rfl Y hr9 rfl hm9 dX12_pairMore_154
      · have h := itp c_64 h
        refine lv_bipush (pc := 67) (v := (-4)) hx hb dX12_pairMore_67 (by decide) ?_
        obtain ⟨hr9, hm9⟩ := ret_e h
        exact fin_i (pc := 69) X rfl Y hr9 rfl hm9 dX12_pairMore_69
    · have h := itn (b2i_f c_52) h
      refine lv_bipush (pc := 55) (v := (-2)) hx hb dX12_pairMore_55 (by decide) ?_
      obtain ⟨hr9, hm9⟩ := ret_e h
      exact fin_i (pc := 57) X rfl Y hr9 rfl hm9 dX12_pairMore_57
set_option maxHeartbeats 4000000 in
set_option maxRecDepth 100000 in
theorem c_X12_pairMore {r9 : Int32} {D9 : Mem} (v1 : Int32) (v2 : Int32) (v3 : Int32) (v4 : Int32) (v5 : Int32) (h : f_X12_pairMore v1 v2 v3 v4 v5 D = some (r9, D9)) : Ct l dC dI ad bd cI cZ yX12_pairMore cX12_pairMore 6 (some .int) rm_X12_pairMore [.ref (bd 0), .int v1, .int v2, .int v3, .int v4, .int v5] C D (some (.int r9)) C D9 := by
  unfold f_X12_pairMore at h
  refine Ct.intro (own := RX12) (by decide) rfl (Nat.le_of_ble_eq_true rfl) ?_
  intro p e s m args below meth c H locs ls X Y hl
  have hx := X.1
  have hb := X.2.1
  have hl : lv_has ls 6 [(0, .ref (bd 0)), (1, .int v1), (2, .int v2), (3, .int v3), (4, .int v4), (5, .int v5)] := hl
  refine lv_iload_n (pc := 0) hx hb dX12_pairMore_0 rfl (lv_at hl 1 rfl) ?_
  refine call_si (pc := 1) (rest := []) [.int v1] X Y (c_X12_isPeople v1) sw_X12_111 rfl ⟨rfl, rfl, Nat.le_of_ble_eq_true rfl, Nat.le_of_ble_eq_true rfl⟩ hl rfl (Nat.le_of_ble_eq_true rfl) dX12_pairMore_1 (fun H locs Y => ?_)
  refine lv_if_eq (pc := 4) (tgt := 55) hx hb dX12_pairMore_4 (by decide) (fun c_4 => ?_) (fun c_4 => ?_)
  · have h := itn (b2i_f c_4) h
    refine lv_bipush (pc := 55) (v := (-2)) hx hb dX12_pairMore_55 (by decide) ?_
    obtain ⟨hr9, hm9⟩ := ret_e h
    exact fin_i (pc := 57) X rfl Y hr9 rfl hm9 dX12_pairMore_57
  · have h := itp (b2i_t c_4) h
    refine lv_iload_n (pc := 7) hx hb dX12_pairMore_7 rfl (lv_at hl 2 rfl) ?_
    refine call_si (pc := 8) (rest := []) [.int v2] X Y (c_X12_isKind v2) sw_X12_115 rfl ⟨rfl, rfl, Nat.le_of_ble_eq_true rfl, Nat.le_of_ble_eq_true rfl⟩ hl rfl (Nat.le_of_ble_eq_true rfl) dX12_pairMore_8 (fun H locs Y => ?_)
    refine lv_if_eq (pc := 11) (tgt := 55) hx hb dX12_pairMore_11 (by decide) (fun c_11 => ?_) (fun c_11 => ?_)
    · have h := itn (b2i_f c_11) h
      refine lv_bipush (pc := 55) (v := (-2)) hx hb dX12_pairMore_55 (by decide) ?_
      obtain ⟨hr9, hm9⟩ := ret_e h
      exact fin_i (pc := 57) X rfl Y hr9 rfl hm9 dX12_pairMore_57
    · have h := itp (b2i_t c_11) h
      refine lv_iload_n (pc := 14) hx hb dX12_pairMore_14 rfl (lv_at hl 3 rfl) ?_
      refine call_si (pc := 15) (rest := []) [.int v3] X Y (c_X12_isOffer v3) sw_X12_118 rfl ⟨rfl, rfl, Nat.le_of_ble_eq_true rfl, Nat.le_of_ble_eq_true rfl⟩ hl rfl (Nat.le_of_ble_eq_true rfl) dX12_pairMore_15 (fun H locs Y => ?_)
      refine lv_if_eq (pc := 18) (tgt := 55) hx hb dX12_pairMore_18 (by decide) (fun c_18 => ?_) (fun c_18 => ?_)
      · have h := itn (b2i_f c_18) h
        refine lv_bipush (pc := 55) (v := (-2)) hx hb dX12_pairMore_55 (by decide) ?_
        obtain ⟨hr9, hm9⟩ := ret_e h
        exact fin_i (pc := 57) X rfl Y hr9 rfl hm9 dX12_pairMore_57
      · have h := itp (b2i_t c_18) h
        refine lv_iload (pc := 21) hx hb dX12_pairMore_21 (lv_at hl 4 rfl) ?_
        refine lv_iload_n (pc := 23) hx hb dX12_pairMore_23 rfl (lv_at hl 2 rfl) ?_
        refine lv_iconst (pc := 24) (v := 1) hx hb dX12_pairMore_24 (by decide) ?_
        refine lv_icmp_ne (pc := 25) (tgt := 32) hx hb dX12_pairMore_25 (by decide) (fun c_25 => ?_) (fun c_25 => ?_)
        · have h := itn c_25 h
          refine lv_iconst (pc := 32) (v := 0) hx hb dX12_pairMore_32 (by decide) ?_
          exact WB_X12_pairMore_33 v4 0 v1 v2 v3 v4 v5 D X Y (lv_sub hl [0, 1, 2, 3, 4, 5] rfl) h
        · have h := itp c_25 h
          refine lv_iconst (pc := 28) (v := 1) hx hb dX12_pairMore_28 (by decide) ?_
          refine lv_goto (pc := 29) (tgt := 33) hx hb dX12_pairMore_29 (by decide) ?_
          exact WB_X12_pairMore_33 v4 1 v1 v2 v3 v4 v5 D X Y (lv_sub hl [0, 1, 2, 3, 4, 5] rfl) h
abbrev rm_X12_pair : Room := { frames := 3, cells := 0, slots := 0, locals := 67 }
set_option maxHeartbeats 4000000 in
set_option maxRecDepth 100000 in
theorem c_X12_pair {r9 : Int32} {D9 : Mem} (v1 : Int32) (v2 : Int32) (v3 : Int32) (v4 : Int32) (v5 : Int32) (h : f_X12_pair v1 v2 v3 v4 v5 D = some (r9, D9)) : Ct l dC dI ad bd cI cZ yX12_pair cX12_pair 6 (some .int) rm_X12_pair [.ref (bd 0), .int v1, .int v2, .int v3, .int v4, .int v5] C D (some (.int r9)) C D9 := by
  unfold f_X12_pair at h
  refine Ct.intro (own := RX12) (by decide) rfl (Nat.le_of_ble_eq_true rfl) ?_
  intro p e s m args below meth c H locs ls X Y hl
  have hx := X.1
  have hb := X.2.1
  have hl : lv_has ls 6 [(0, .ref (bd 0)), (1, .int v1), (2, .int v2), (3, .int v3), (4, .int v4), (5, .int v5)] := hl
  refine lv_aload_n (pc := 0) hx hb dX12_pair_0 rfl (lv_at hl 0 rfl) ?_
  refine lv_iload_n (pc := 1) hx hb dX12_pair_1 rfl (lv_at hl 1 rfl) ?_
  refine lv_iload_n (pc := 2) hx hb dX12_pair_2 rfl (lv_at hl 2 rfl) ?_
  refine lv_iload_n (pc := 3) hx hb dX12_pair_3 rfl (lv_at hl 3 rfl) ?_
  refine lv_iload (pc := 4) hx hb dX12_pair_4 (lv_at hl 4 rfl) ?_
  refine lv_iload (pc := 6) hx hb dX12_pair_6 (lv_at hl 5 rfl) ?_
  obtain ⟨r_8, D_8, e_8, h⟩ := bnd2_s h
  refine call_vi (pc := 8) (rest := []) [.int v1, .int v2, .int v3, .int v4, .int v5] X Y (c_X12_pairMore v1 v2 v3 v4 v5 e_8) sw_X12_127 (rv_X12 X Y) rfl ⟨rfl, rfl, Nat.le_of_ble_eq_true rfl, Nat.le_of_ble_eq_true rfl⟩ hl rfl (Nat.le_of_ble_eq_true rfl) dX12_pair_8 (fun H locs Y => ?_)
  obtain ⟨hr9, hm9⟩ := ret_e h
  exact fin_i (pc := 11) X rfl Y hr9 rfl hm9 dX12_pair_11
abbrev rm_X12_isSheet : Room := { frames := 1, cells := 0, slots := 0, locals := 22 }
set_option maxHeartbeats 4000000 in
set_option maxRecDepth 100000 in
theorem c_X12_isSheet (v0 : Int32) : Ct l dC dI ad bd cI cZ yX12_isSheet cX12_isSheet 1 (some .boolean) rm_X12_isSheet [.int v0] C D (some (.int (b2i (f_X12_isSheet v0)))) C D := by
  obtain ⟨r9, h⟩ : ∃ r9, f_X12_isSheet v0 = r9 := ⟨_, rfl⟩
  rw [h]
  unfold f_X12_isSheet at h
  refine Ct.intro (own := RX12) (by decide) rfl (Nat.le_of_ble_eq_true rfl) ?_
  intro p e s m args below meth c H locs ls X Y hl
  have hx := X.1
  have hb := X.2.1
  have hl : lv_has ls 1 [(0, .int v0)] := hl
  refine lv_iload_n (pc := 0) hx hb dX12_isSheet_0 rfl (lv_at hl 0 rfl) ?_
  refine lv_iconst (pc := 1) (v := 0) hx hb dX12_isSheet_1 (by decide) ?_
  refine lv_iconst (pc := 2) (v := 3) hx hb dX12_isSheet_2 (by decide) ?_
  refine call_si (pc := 3) (rest := []) [.int v0, .int 0, .int 3] X Y (c_X12_in v0 0 3) sw_X12_107 rfl ⟨rfl, rfl, Nat.le_of_ble_eq_true rfl, Nat.le_of_ble_eq_true rfl⟩ hl rfl (Nat.le_of_ble_eq_true rfl) dX12_isSheet_3 (fun H locs Y => ?_)
  have hr9 := h
  exact fin_z (b := (f_X12_in v0 0 3)) (pc := 6) X rfl Y rfl hr9 rfl rfl dX12_isSheet_6
abbrev rm_X12_meets : Room := { frames := 0, cells := 0, slots := 0, locals := 0 }
set_option maxHeartbeats 4000000 in
set_option maxRecDepth 100000 in
theorem c_X12_meets {r9 : Int32} {D9 : Mem} (v1 : Int32) (h : f_X12_meets v1 D = some (r9, D9)) : Ct l dC dI ad bd cI cZ yX12_meets cX12_meets 2 (some .int) rm_X12_meets [.ref (bd 0), .int v1] C D (some (.int r9)) C D9 := by
  unfold f_X12_meets at h
  refine Ct.intro (own := RX12) (by decide) rfl (Nat.le_of_ble_eq_true rfl) ?_
  intro p e s m args below meth c H locs ls X Y hl
  have hx := X.1
  have hb := X.2.1
  have hl : lv_has ls 2 [(0, .ref (bd 0)), (1, .int v1)] := hl
  refine lv_aload_n (pc := 0) hx hb dX12_meets_0 rfl (lv_at hl 0 rfl) ?_
  refine lv_iload_n (pc := 1) hx hb dX12_meets_1 rfl (lv_at hl 1 rfl) ?_
  obtain ⟨D_2, hD_2, h⟩ := sto_s h
  refine pf_X12_297 (pc := 2) X Y hD_2 dX12_meets_2 (fun H locs Y => ?_)
  refine lv_bipush (pc := 5) (v := (-10)) hx hb dX12_meets_5 (by decide) ?_
  refine lv_iload_n (pc := 7) hx hb dX12_meets_7 rfl (lv_at hl 1 rfl) ?_
  refine lv_isub (pc := 8) hx hb dX12_meets_8 ?_
  obtain ⟨hr9, hm9⟩ := ret_e h
  exact fin_i (pc := 9) X rfl Y hr9 rfl hm9 dX12_meets_9
abbrev rm_X12_read : Room := { frames := 3, cells := 0, slots := 0, locals := 67 }
set_option maxHeartbeats 4000000 in
set_option maxRecDepth 100000 in
theorem WL_X12_read_57 {r9 : Int32} {D9 : Mem} (v1 : Int32) (v2 : Int32) (v3 : Int32) (v4 : Int32) (X : Cx p s m args meth c cX12_read RX12 6 (some .int) dC dI ad bd cI cZ) {kx : Int32 → Mem → Option (Int32 × Mem)} (hkx : ∀ (v5' : Int32) (D' : Mem) (H : Heap) (locs : List Loc) (ls : Array Slot), Ys s dC dI ad bd cI cZ C D' H locs → lv_has ls 6 [(5, .int v5')] → kx v5' D' = some (r9, D9) → W p l e rm_X12_read s m args below meth c H locs 0 0 (MQ below (QC (some (.int r9)) dC dI ad bd cI cZ C D9) args s 0 0 (AD ad bd)) (F0 m 122 ls [])) : ∀ (n_ : Nat) (v5 : Int32) (D : Mem) (H : Heap) (locs : List Loc) (ls : Array Slot), Ys s dC dI ad bd cI cZ C D H locs → lv_has ls 6 [(0, .ref (bd 0)), (1, .int v1), (2, .int v2), (3, .int v3), (4, .int v4), (5, .int v5)] → L_X12_read_57 v1 v2 v3 v4 kx n_ v5 D = some (r9, D9) → W p l e rm_X12_read s m args below meth c H locs 0 0 (MQ below (QC (some (.int r9)) dC dI ad bd cI cZ C D9) args s 0 0 (AD ad bd)) (F0 m 57 ls []) := by
  have hx := X.1
  have hb := X.2.1
  intro n_
  induction n_ with
  | zero =>
    intro v5 D H locs ls Y hl h
    cases h
  | succ n_ ih =>
    intro v5 D H locs ls Y hl h
    unfold L_X12_read_57 at h
    refine lv_iconst (pc := 57) (v := 2) hx hb dX12_read_57 (by decide) ?_
    refine lv_iload (pc := 58) hx hb dX12_read_58 (lv_at hl 5 rfl) ?_
    refine lv_imul (pc := 60) hx hb dX12_read_60 ?_
    refine lv_iconst (pc := 61) (v := 1) hx hb dX12_read_61 (by decide) ?_
    refine lv_iadd (pc := 62) hx hb dX12_read_62 ?_
    refine lv_aload_n (pc := 63) hx hb dX12_read_63 rfl (lv_at hl 0 rfl) ?_
    refine gf_X12_96 (pc := 64) X Y dX12_read_64 ?_
    refine lv_iload_n (pc := 67) hx hb dX12_read_67 rfl (lv_at hl 1 rfl) ?_
    obtain ⟨g_68, h⟩ := gd_s h
    refine r_ialdm (pc := 68) X Y (cm_28 bd cI cZ) g_68 dX12_read_68 ?_
    refine lv_icmp_ge (pc := 69) (tgt := 122) hx hb dX12_read_69 (by decide) (fun c_69 => ?_) (fun c_69 => ?_)
    · have h := itp c_69 h
      exact hkx v5 D H locs ls Y (lv_sub hl [5] rfl) h
    · have h := itn c_69 h
      refine lv_aload_n (pc := 72) hx hb dX12_read_72 rfl (lv_at hl 0 rfl) ?_
      refine lv_iload_n (pc := 73) hx hb dX12_read_73 rfl (lv_at hl 2 rfl) ?_
      refine lv_iload_n (pc := 74) hx hb dX12_read_74 rfl (lv_at hl 3 rfl) ?_
      refine lv_aload_n (pc := 75) hx hb dX12_read_75 rfl (lv_at hl 0 rfl) ?_
      refine gf_X12_99 (pc := 76) X Y dX12_read_76 ?_
      refine lv_bipush (pc := 79) (v := 48) hx hb dX12_read_79 (by decide) ?_
      refine lv_iload_n (pc := 81) hx hb dX12_read_81 rfl (lv_at hl 1 rfl) ?_
      refine lv_imul (pc := 82) hx hb dX12_read_82 ?_
      refine lv_iconst (pc := 83) (v := 2) hx hb dX12_read_83 (by decide) ?_
      refine lv_iload (pc := 84) hx hb dX12_read_84 (lv_at hl 5 rfl) ?_
      refine lv_imul (pc := 86) hx hb dX12_read_86 ?_
      refine lv_iadd (pc := 87) hx hb dX12_read_87 ?_
      obtain ⟨g_88, h⟩ := gd_s h
      refine r_ialdm (pc := 88) X Y (cm_29 bd cI cZ) g_88 dX12_read_88 ?_
      refine lv_aload_n (pc := 89) hx hb dX12_read_89 rfl (lv_at hl 0 rfl) ?_
      refine gf_X12_99 (pc := 90) X Y dX12_read_90 ?_
      refine lv_bipush (pc := 93) (v := 48) hx hb dX12_read_93 (by decide) ?_
      refine lv_iload_n (pc := 95) hx hb dX12_read_95 rfl (lv_at hl 1 rfl) ?_
      refine lv_imul (pc := 96) hx hb dX12_read_96 ?_
      refine lv_iconst (pc := 97) (v := 2) hx hb dX12_read_97 (by decide) ?_
      refine lv_iload (pc := 98) hx hb dX12_read_98 (lv_at hl 5 rfl) ?_
      refine lv_imul (pc := 100) hx hb dX12_read_100 ?_
      refine lv_iadd (pc := 101) hx hb dX12_read_101 ?_
      refine lv_iconst (pc := 102) (v := 1) hx hb dX12_read_102 (by decide) ?_
      refine lv_iadd (pc := 103) hx hb dX12_read_103 ?_
      obtain ⟨g_104, h⟩ := gd_s h
      refine r_ialdm (pc := 104) X Y (cm_29 bd cI cZ) g_104 dX12_read_104 ?_
      refine lv_iload (pc := 105) hx hb dX12_read_105 (lv_at hl 4 rfl) ?_
      obtain ⟨r_107, D_107, e_107, h⟩ := bnd2_s h
      refine call_vi (pc := 107) (rest := []) [.int v2, .int v3, .int (D 29 ((48 * v1) + (2 * v5)).toNatClampNeg), .int (D 29 (((48 * v1) + (2 * v5)) + 1).toNatClampNeg), .int v4] X Y (c_X12_pairMore v2 v3 (D 29 ((48 * v1) + (2 * v5)).toNatClampNeg) (D 29 (((48 * v1) + (2 * v5)) + 1).toNatClampNeg) v4 e_107) sw_X12_127 (rv_X12 X Y) rfl ⟨rfl, rfl, Nat.le_of_ble_eq_true rfl, Nat.le_of_ble_eq_true rfl⟩ hl rfl (Nat.le_of_ble_eq_true rfl) dX12_read_107 (fun H locs Y => ?_)
      refine lv_if_ge (pc := 110) (tgt := 116) hx hb dX12_read_110 (by decide) (fun c_110 => ?_) (fun c_110 => ?_)
      · have h := itp c_110 h
        obtain ⟨v5_116, ev5_116, h⟩ := lt_s_ h
        refine lv_iinc (pc := 116) (v := v5_116) (lv' := [(5, .int v5_116), (0, .ref (bd 0)), (1, .int v1), (2, .int v2), (3, .int v3), (4, .int v4)]) hx hb dX12_read_116 hl (k := 5) rfl (by rw [ev5_116]; rfl) (by decide) rfl (fun ls hl => ?_)
        refine lv_goto (pc := 119) (tgt := 57) hx hb dX12_read_119 (by decide) ?_
        exact ih v5_116 D_107 H locs ls Y (lv_sub hl [1, 2, 3, 4, 5, 0] rfl) h
      · have h := itn c_110 h
        refine lv_iload (pc := 113) hx hb dX12_read_113 (lv_at hl 5 rfl) ?_
        obtain ⟨hr9, hm9⟩ := ret_e h
        exact fin_i (pc := 115) X rfl Y hr9 rfl hm9 dX12_read_115
set_option maxHeartbeats 4000000 in
set_option maxRecDepth 100000 in
theorem c_X12_read {r9 : Int32} {D9 : Mem} (v1 : Int32) (v2 : Int32) (v3 : Int32) (v4 : Int32) (h : f_X12_read v1 v2 v3 v4 D = some (r9, D9)) : Ct l dC dI ad bd cI cZ yX12_read cX12_read 6 (some .int) rm_X12_read [.ref (bd 0), .int v1, .int v2, .int v3, .int v4] C D (some (.int r9)) C D9 := by
  unfold f_X12_read at h
  refine Ct.intro (own := RX12) (by decide) rfl (Nat.le_of_ble_eq_true rfl) ?_
  intro p e s m args below meth c H locs ls X Y hl
  have hx := X.1
  have hb := X.2.1
  have hl : lv_has ls 6 [(0, .ref (bd 0)), (1, .int v1), (2, .int v2), (3, .int v3), (4, .int v4)] := hl
  refine lv_iload_n (pc := 0) hx hb dX12_read_0 rfl (lv_at hl 1 rfl) ?_
  refine call_si (pc := 1) (rest := []) [.int v1] X Y (c_X12_isSheet v1) sw_X12_131 rfl ⟨rfl, rfl, Nat.le_of_ble_eq_true rfl, Nat.le_of_ble_eq_true rfl⟩ hl rfl (Nat.le_of_ble_eq_true rfl) dX12_read_1 (fun H locs Y => ?_)
  refine lv_if_eq (pc := 4) (tgt := 36) hx hb dX12_read_4 (by decide) (fun c_4 => ?_) (fun c_4 => ?_)
  · have h := itn (b2i_f c_4) h
    refine lv_bipush (pc := 36) (v := (-2)) hx hb dX12_read_36 (by decide) ?_
    obtain ⟨hr9, hm9⟩ := ret_e h
    exact fin_i (pc := 38) X rfl Y hr9 rfl hm9 dX12_read_38
  · have h := itp (b2i_t c_4) h
    refine lv_iload_n (pc := 7) hx hb dX12_read_7 rfl (lv_at hl 2 rfl) ?_
    refine call_si (pc := 8) (rest := []) [.int v2] X Y (c_X12_isPeople v2) sw_X12_111 rfl ⟨rfl, rfl, Nat.le_of_ble_eq_true rfl, Nat.le_of_ble_eq_true rfl⟩ hl rfl (Nat.le_of_ble_eq_true rfl) dX12_read_8 (fun H locs Y => ?_)
    refine lv_if_eq (pc := 11) (tgt := 36) hx hb dX12_read_11 (by decide) (fun c_11 => ?_) (fun c_11 => ?_)
    · have h := itn (b2i_f c_11) h
      refine lv_bipush (pc := 36) (v := (-2)) hx hb dX12_read_36 (by decide) ?_
      obtain ⟨hr9, hm9⟩ := ret_e h
      exact fin_i (pc := 38) X rfl Y hr9 rfl hm9 dX12_read_38
    · have h := itp (b2i_t c_11) h
      refine lv_iload_n (pc := 14) hx hb dX12_read_14 rfl (lv_at hl 3 rfl) ?_
      refine call_si (pc := 15) (rest := []) [.int v3] X Y (c_X12_isKind v3) sw_X12_115 rfl ⟨rfl, rfl, Nat.le_of_ble_eq_true rfl, Nat.le_of_ble_eq_true rfl⟩ hl rfl (Nat.le_of_ble_eq_true rfl) dX12_read_15 (fun H locs Y => ?_)
      refine lv_if_eq (pc := 18) (tgt := 36) hx hb dX12_read_18 (by decide) (fun c_18 => ?_) (fun c_18 => ?_)
      · have h := itn (b2i_f c_18) h
        refine lv_bipush (pc := 36) (v := (-2)) hx hb dX12_read_36 (by decide) ?_
        obtain ⟨hr9, hm9⟩ := ret_e h
        exact fin_i (pc := 38) X rfl Y hr9 rfl hm9 dX12_read_38
      · have h := itp (b2i_t c_18) h
        refine lv_iload (pc := 21) hx hb dX12_read_21 (lv_at hl 4 rfl) ?_
        refine lv_aload_n (pc := 23) hx hb dX12_read_23 rfl (lv_at hl 0 rfl) ?_
        refine gf_X12_121 (pc := 24) X Y dX12_read_24 ?_
        refine lv_sipush (pc := 27) (v := 999) hx hb dX12_read_27 (by decide) ?_
        refine call_si (pc := 30) (rest := []) [.int v4, .int (D 0 7), .int 999] X Y (c_X12_in v4 (D 0 7) 999) sw_X12_107 rfl ⟨rfl, rfl, Nat.le_of_ble_eq_true rfl, Nat.le_of_ble_eq_true rfl⟩ hl rfl (Nat.le_of_ble_eq_true rfl) dX12_read_30 (fun H locs Y => ?_)
        refine lv_if_ne (pc := 33) (tgt := 39) hx hb dX12_read_33 (by decide) (fun c_33 => ?_) (fun c_33 => ?_)
        · have h := itp (b2i_t c_33) h
          refine lv_aload_n (pc := 39) hx hb dX12_read_39 rfl (lv_at hl 0 rfl) ?_
          refine gf_X12_89 (pc := 40) X Y dX12_read_40 ?_
          refine lv_iload_n (pc := 43) hx hb dX12_read_43 rfl (lv_at hl 1 rfl) ?_
          obtain ⟨g_44, h⟩ := gd_s h
          refine r_zaldm (pc := 44) X Y (cm_26 bd cI cZ) g_44 dX12_read_44 ?_
          refine lv_if_ne (pc := 45) (tgt := 54) hx hb dX12_read_45 (by decide) (fun c_45 => ?_) (fun c_45 => ?_)
          · have h := itn c_45 h
            refine lv_iconst (pc := 54) (v := 0) hx hb dX12_read_54 (by decide) ?_
            refine lv_istore (pc := 55) (lv' := [(5, .int 0), (0, .ref (bd 0)), (1, .int v1), (2, .int v2), (3, .int v3), (4, .int v4)]) hx hb dX12_read_55 hl (by decide) rfl (fun ls hl => ?_)
            refine WL_X12_read_57 v1 v2 v3 v4 X (fun v5_122 D_122 H locs ls Y hl h => ?_) FU 0 D H locs ls Y (lv_sub hl [1, 2, 3, 4, 5, 0] rfl) h
            refine lv_iload (pc := 122) hx hb dX12_read_122 (lv_at hl 0 rfl) ?_
            obtain ⟨hr9, hm9⟩ := ret_e h
            exact fin_i (pc := 124) X rfl Y hr9 rfl hm9 dX12_read_124
          · have h := itp c_45 h
            refine lv_aload_n (pc := 48) hx hb dX12_read_48 rfl (lv_at hl 0 rfl) ?_
            refine lv_iconst (pc := 49) (v := 1) hx hb dX12_read_49 (by decide) ?_
            obtain ⟨r_50, D_50, e_50, h⟩ := bnd2_s h
            refine call_vi (pc := 50) (rest := []) [.int 1] X Y (c_X12_meets 1 e_50) sw_X12_134 (rv_X12 X Y) rfl ⟨rfl, rfl, Nat.le_of_ble_eq_true rfl, Nat.le_of_ble_eq_true rfl⟩ hl rfl (Nat.le_of_ble_eq_true rfl) dX12_read_50 (fun H locs Y => ?_)
            obtain ⟨hr9, hm9⟩ := ret_e h
            exact fin_i (pc := 53) X rfl Y hr9 rfl hm9 dX12_read_53
        · have h := itn (b2i_f c_33) h
          refine lv_bipush (pc := 36) (v := (-2)) hx hb dX12_read_36 (by decide) ?_
          obtain ⟨hr9, hm9⟩ := ret_e h
          exact fin_i (pc := 38) X rfl Y hr9 rfl hm9 dX12_read_38
abbrev rm_X12_takeBack : Room := { frames := 1, cells := 0, slots := 0, locals := 22 }
set_option maxHeartbeats 4000000 in
set_option maxRecDepth 100000 in
theorem c_X12_takeBack {r9 : Int32} {D9 : Mem} (v1 : Int32) (v2 : Int32) (h : f_X12_takeBack v1 v2 D = some (r9, D9)) : Ct l dC dI ad bd cI cZ yX12_takeBack cX12_takeBack 3 (some .int) rm_X12_takeBack [.ref (bd 0), .int v1, .int v2] C D (some (.int r9)) C D9 := by
  unfold f_X12_takeBack at h
  refine Ct.intro (own := RX12) (by decide) rfl (Nat.le_of_ble_eq_true rfl) ?_
  intro p e s m args below meth c H locs ls X Y hl
  have hx := X.1
  have hb := X.2.1
  have hl : lv_has ls 3 [(0, .ref (bd 0)), (1, .int v1), (2, .int v2)] := hl
  refine lv_iload_n (pc := 0) hx hb dX12_takeBack_0 rfl (lv_at hl 1 rfl) ?_
  refine lv_iconst (pc := 1) (v := 0) hx hb dX12_takeBack_1 (by decide) ?_
  refine lv_aload_n (pc := 2) hx hb dX12_takeBack_2 rfl (lv_at hl 0 rfl) ?_
  refine gf_X12_124 (pc := 3) X Y dX12_takeBack_3 ?_
  refine lv_iconst (pc := 6) (v := 1) hx hb dX12_takeBack_6 (by decide) ?_
  refine lv_isub (pc := 7) hx hb dX12_takeBack_7 ?_
  refine call_si (pc := 8) (rest := []) [.int v1, .int 0, .int ((D 0 0) - 1)] X Y (c_X12_in v1 0 ((D 0 0) - 1)) sw_X12_107 rfl ⟨rfl, rfl, Nat.le_of_ble_eq_true rfl, Nat.le_of_ble_eq_true rfl⟩ hl rfl (Nat.le_of_ble_eq_true rfl) dX12_takeBack_8 (fun H locs Y => ?_)
  refine lv_if_eq (pc := 11) (tgt := 28) hx hb dX12_takeBack_11 (by decide) (fun c_11 => ?_) (fun c_11 => ?_)
  · have h := itn (b2i_f c_11) h
    refine lv_bipush (pc := 28) (v := (-2)) hx hb dX12_takeBack_28 (by decide) ?_
    obtain ⟨hr9, hm9⟩ := ret_e h
    exact fin_i (pc := 30) X rfl Y hr9 rfl hm9 dX12_takeBack_30
  · have h := itp (b2i_t c_11) h
    refine lv_iload_n (pc := 14) hx hb dX12_takeBack_14 rfl (lv_at hl 2 rfl) ?_
    refine lv_aload_n (pc := 15) hx hb dX12_takeBack_15 rfl (lv_at hl 0 rfl) ?_
    refine gf_X12_121 (pc := 16) X Y dX12_takeBack_16 ?_
    refine lv_sipush (pc := 19) (v := 999) hx hb dX12_takeBack_19 (by decide) ?_
    refine call_si (pc := 22) (rest := []) [.int v2, .int (D 0 7), .int 999] X Y (c_X12_in v2 (D 0 7) 999) sw_X12_107 rfl ⟨rfl, rfl, Nat.le_of_ble_eq_true rfl, Nat.le_of_ble_eq_true rfl⟩ hl rfl (Nat.le_of_ble_eq_true rfl) dX12_takeBack_22 (fun H locs Y => ?_)
    refine lv_if_ne (pc := 25) (tgt := 31) hx hb dX12_takeBack_25 (by decide) (fun c_25 => ?_) (fun c_25 => ?_)
    · have h := itp (b2i_t c_25) h
      refine lv_aload_n (pc := 31) hx hb dX12_takeBack_31 rfl (lv_at hl 0 rfl) ?_
      refine gf_X12_25 (pc := 32) X Y dX12_takeBack_32 ?_
      refine lv_iload_n (pc := 35) hx hb dX12_takeBack_35 rfl (lv_at hl 1 rfl) ?_
      obtain ⟨g_36, h⟩ := gd_s h
      refine r_ialdm (pc := 36) X Y (cm_6 bd cI cZ) g_36 dX12_takeBack_36 ?_
      refine lv_iconst (pc := 37) (v := (-1)) hx hb dX12_takeBack_37 (by decide) ?_
      refine lv_icmp_eq (pc := 38) (tgt := 44) hx hb dX12_takeBack_38 (by decide) (fun c_38 => ?_) (fun c_38 => ?_)
      · have h := itp c_38 h
        refine lv_aload_n (pc := 44) hx hb dX12_takeBack_44 rfl (lv_at hl 0 rfl) ?_
        refine gf_X12_25 (pc := 45) X Y dX12_takeBack_45 ?_
        refine lv_iload_n (pc := 48) hx hb dX12_takeBack_48 rfl (lv_at hl 1 rfl) ?_
        refine lv_iload_n (pc := 49) hx hb dX12_takeBack_49 rfl (lv_at hl 2 rfl) ?_
        obtain ⟨g_50, h⟩ := gd_s h
        obtain ⟨D_50, hD_50, h⟩ := sto_s h
        refine r_iastm (pc := 50) X Y (cm_6 bd cI cZ) g_50 hD_50 dX12_takeBack_50 (fun H locs Y => ?_)
        refine lv_aload_n (pc := 51) hx hb dX12_takeBack_51 rfl (lv_at hl 0 rfl) ?_
        refine lv_iload_n (pc := 52) hx hb dX12_takeBack_52 rfl (lv_at hl 2 rfl) ?_
        obtain ⟨D_53, hD_53, h⟩ := sto_s h
        refine pf_X12_121 (pc := 53) X Y hD_53 dX12_takeBack_53 (fun H locs Y => ?_)
        refine lv_iconst (pc := 56) (v := 1) hx hb dX12_takeBack_56 (by decide) ?_
        obtain ⟨hr9, hm9⟩ := ret_e h
        exact fin_i (pc := 57) X rfl Y hr9 rfl hm9 dX12_takeBack_57
      · have h := itn c_38 h
        refine lv_bipush (pc := 41) (v := (-3)) hx hb dX12_takeBack_41 (by decide) ?_
        obtain ⟨hr9, hm9⟩ := ret_e h
        exact fin_i (pc := 43) X rfl Y hr9 rfl hm9 dX12_takeBack_43
    · have h := itn (b2i_f c_25) h
      refine lv_bipush (pc := 28) (v := (-2)) hx hb dX12_takeBack_28 (by decide) ?_
      obtain ⟨hr9, hm9⟩ := ret_e h
      exact fin_i (pc := 30) X rfl Y hr9 rfl hm9 dX12_takeBack_30
abbrev rm_X12_asOf : Room := { frames := 1, cells := 0, slots := 0, locals := 22 }
set_option maxHeartbeats 4000000 in
set_option maxRecDepth 100000 in
theorem c_X12_asOf {r9 : Int32} {D9 : Mem} (v1 : Int32) (h : f_X12_asOf v1 D = some (r9, D9)) : Ct l dC dI ad bd cI cZ yX12_asOf cX12_asOf 3 (some .int) rm_X12_asOf [.ref (bd 0), .int v1] C D (some (.int r9)) C D9 := by
  unfold f_X12_asOf at h
  refine Ct.intro (own := RX12) (by decide) rfl (Nat.le_of_ble_eq_true rfl) ?_
  intro p e s m args below meth c H locs ls X Y hl
  have hx := X.1
  have hb := X.2.1
  have hl : lv_has ls 3 [(0, .ref (bd 0)), (1, .int v1)] := hl
  refine lv_iload_n (pc := 0) hx hb dX12_asOf_0 rfl (lv_at hl 1 rfl) ?_
  refine lv_iconst (pc := 1) (v := 0) hx hb dX12_asOf_1 (by decide) ?_
  refine lv_sipush (pc := 2) (v := 999) hx hb dX12_asOf_2 (by decide) ?_
  refine call_si (pc := 5) (rest := []) [.int v1, .int 0, .int 999] X Y (c_X12_in v1 0 999) sw_X12_107 rfl ⟨rfl, rfl, Nat.le_of_ble_eq_true rfl, Nat.le_of_ble_eq_true rfl⟩ hl rfl (Nat.le_of_ble_eq_true rfl) dX12_asOf_5 (fun H locs Y => ?_)
  refine lv_if_ne (pc := 8) (tgt := 14) hx hb dX12_asOf_8 (by decide) (fun c_8 => ?_) (fun c_8 => ?_)
  · have h := itp (b2i_t c_8) h
    refine lv_aload_n (pc := 14) hx hb dX12_asOf_14 rfl (lv_at hl 0 rfl) ?_
    refine gf_X12_28 (pc := 15) X Y dX12_asOf_15 ?_
    obtain ⟨v2_18, ev2_18, h⟩ := lt_s_ h
    refine top_i ev2_18 ?_
    refine lv_istore_n (pc := 18) (lv' := [(2, .int v2_18), (0, .ref (bd 0)), (1, .int v1)]) hx hb dX12_asOf_18 rfl hl (by decide) rfl (fun ls hl => ?_)
    refine lv_aload_n (pc := 19) hx hb dX12_asOf_19 rfl (lv_at hl 1 rfl) ?_
    refine lv_iload_n (pc := 20) hx hb dX12_asOf_20 rfl (lv_at hl 2 rfl) ?_
    obtain ⟨D_21, hD_21, h⟩ := sto_s h
    refine pf_X12_28 (pc := 21) X Y hD_21 dX12_asOf_21 (fun H locs Y => ?_)
    refine lv_iload_n (pc := 24) hx hb dX12_asOf_24 rfl (lv_at hl 0 rfl) ?_
    obtain ⟨hr9, hm9⟩ := ret_e h
    exact fin_i (pc := 25) X rfl Y hr9 rfl hm9 dX12_asOf_25
  · have h := itn (b2i_f c_8) h
    refine lv_bipush (pc := 11) (v := (-2)) hx hb dX12_asOf_11 (by decide) ?_
    obtain ⟨hr9, hm9⟩ := ret_e h
    exact fin_i (pc := 13) X rfl Y hr9 rfl hm9 dX12_asOf_13
abbrev rm_X12_counts : Room := { frames := 0, cells := 0, slots := 0, locals := 0 }
set_option maxHeartbeats 4000000 in
set_option maxRecDepth 100000 in
theorem WB_X12_counts_36 {r9 : Bool} (D : Mem) (X : Cx p s m args meth c cX12_counts RX12 2 (some .boolean) dC dI ad bd cI cZ) {H : Heap} {locs : List Loc} {ls : Array Slot} (Y : Ys s dC dI ad bd cI cZ C D H locs) (hl : lv_has ls 2 []) (h : B_X12_counts_36 = some r9) : W p l e rm_X12_counts s m args below meth c H locs 0 0 (MQ below (QC (some (.int (b2i r9))) dC dI ad bd cI cZ C D) args s 0 0 (AD ad bd)) (F0 m 36 ls []) := by
  have hx := X.1
  have hb := X.2.1
  unfold B_X12_counts_36 at h
  refine lv_iconst (pc := 36) (v := 1) hx hb dX12_counts_36 (by decide) ?_
  refine lv_goto (pc := 37) (tgt := 41) hx hb dX12_counts_37 (by decide) ?_
  have hr9 := ret_p h
  exact fin_z (b := true) (pc := 41) X rfl Y rfl hr9 rfl rfl dX12_counts_41
set_option maxHeartbeats 4000000 in
set_option maxRecDepth 100000 in
theorem c_X12_counts {r9 : Bool} (v1 : Int32) (h : f_X12_counts v1 D = some r9) : Ct l dC dI ad bd cI cZ yX12_counts cX12_counts 2 (some .boolean) rm_X12_counts [.ref (bd 0), .int v1] C D (some (.int (b2i r9))) C D := by
  unfold f_X12_counts at h
  refine Ct.intro (own := RX12) (by decide) rfl (Nat.le_of_ble_eq_true rfl) ?_
  intro p e s m args below meth c H locs ls X Y hl
  have hx := X.1
  have hb := X.2.1
  have hl : lv_has ls 2 [(0, .ref (bd 0)), (1, .int v1)] := hl
  refine lv_aload_n (pc := 0) hx hb dX12_counts_0 rfl (lv_at hl 0 rfl) ?_
  refine gf_X12_22 (pc := 1) X Y dX12_counts_1 ?_
  refine lv_iload_n (pc := 4) hx hb dX12_counts_4 rfl (lv_at hl 1 rfl) ?_
  obtain ⟨g_5, h⟩ := gd_s h
  refine r_ialdm (pc := 5) X Y (cm_5 bd cI cZ) g_5 dX12_counts_5 ?_
  refine lv_aload_n (pc := 6) hx hb dX12_counts_6 rfl (lv_at hl 0 rfl) ?_
  refine gf_X12_28 (pc := 7) X Y dX12_counts_7 ?_
  refine lv_icmp_gt (pc := 10) (tgt := 40) hx hb dX12_counts_10 (by decide) (fun c_10 => ?_) (fun c_10 => ?_)
  · have h := itp c_10 h
    refine lv_iconst (pc := 40) (v := 0) hx hb dX12_counts_40 (by decide) ?_
    have hr9 := ret_p h
    exact fin_z (b := false) (pc := 41) X rfl Y rfl hr9 rfl rfl dX12_counts_41
  · have h := itn c_10 h
    refine lv_aload_n (pc := 13) hx hb dX12_counts_13 rfl (lv_at hl 0 rfl) ?_
    refine gf_X12_25 (pc := 14) X Y dX12_counts_14 ?_
    refine lv_iload_n (pc := 17) hx hb dX12_counts_17 rfl (lv_at hl 1 rfl) ?_
    obtain ⟨g_18, h⟩ := gd_s h
    refine r_ialdm (pc := 18) X Y (cm_6 bd cI cZ) g_18 dX12_counts_18 ?_
    refine lv_iconst (pc := 19) (v := (-1)) hx hb dX12_counts_19 (by decide) ?_
    refine lv_icmp_eq (pc := 20) (tgt := 36) hx hb dX12_counts_20 (by decide) (fun c_20 => ?_) (fun c_20 => ?_)
    · have h := itp c_20 h
      exact WB_X12_counts_36  D X Y (lv_sub hl [] rfl) h
    · have h := itn c_20 h
      refine lv_aload_n (pc := 23) hx hb dX12_counts_23 rfl (lv_at hl 0 rfl) ?_
      refine gf_X12_25 (pc := 24) X Y dX12_counts_24 ?_
      refine lv_iload_n (pc := 27) hx hb dX12_counts_27 rfl (lv_at hl 1 rfl) ?_
      obtain ⟨g_28, h⟩ := gd_s h
      refine r_ialdm (pc := 28) X Y (cm_6 bd cI cZ) g_28 dX12_counts_28 ?_
      refine lv_aload_n (pc := 29) hx hb dX12_counts_29 rfl (lv_at hl 0 rfl) ?_
      refine gf_X12_28 (pc := 30) X Y dX12_counts_30 ?_
      refine lv_icmp_le (pc := 33) (tgt := 40) hx hb dX12_counts_33 (by decide) (fun c_33 => ?_) (fun c_33 => ?_)
      · have h := itp c_33 h
        refine lv_iconst (pc := 40) (v := 0) hx hb dX12_counts_40 (by decide) ?_
        have hr9 := ret_p h
        exact fin_z (b := false) (pc := 41) X rfl Y rfl hr9 rfl rfl dX12_counts_41
      · have h := itn c_33 h
        exact WB_X12_counts_36  D X Y (lv_sub hl [] rfl) h
abbrev rm_X12_isOf : Room := { frames := 1, cells := 0, slots := 0, locals := 21 }
set_option maxHeartbeats 4000000 in
set_option maxRecDepth 100000 in
theorem WB_X12_isOf_23 {r9 : Bool} (v1 : Int32) (v3 : Int32) (D : Mem) (X : Cx p s m args meth c cX12_isOf RX12 4 (some .boolean) dC dI ad bd cI cZ) {H : Heap} {locs : List Loc} {ls : Array Slot} (Y : Ys s dC dI ad bd cI cZ C D H locs) (hl : lv_has ls 4 [(0, .ref (bd 0)), (1, .int v1), (3, .int v3)]) (h : B_X12_isOf_23 v1 v3 D = some r9) : W p l e rm_X12_isOf s m args below meth c H locs 0 0 (MQ below (QC (some (.int (b2i r9))) dC dI ad bd cI cZ C D) args s 0 0 (AD ad bd)) (F0 m 23 ls []) := by
  have hx := X.1
  have hb := X.2.1
  unfold B_X12_isOf_23 at h
  refine lv_aload_n (pc := 23) hx hb dX12_isOf_23 rfl (lv_at hl 0 rfl) ?_
  refine gf_X12_13 (pc := 24) X Y dX12_isOf_24 ?_
  refine lv_iload_n (pc := 27) hx hb dX12_isOf_27 rfl (lv_at hl 1 rfl) ?_
  obtain ⟨g_28, h⟩ := gd_s h
  refine r_ialdm (pc := 28) X Y (cm_2 bd cI cZ) g_28 dX12_isOf_28 ?_
  refine lv_iload_n (pc := 29) hx hb dX12_isOf_29 rfl (lv_at hl 2 rfl) ?_
  refine lv_icmp_ne (pc := 30) (tgt := 37) hx hb dX12_isOf_30 (by decide) (fun c_30 => ?_) (fun c_30 => ?_)
  · have h := itn c_30 h
    refine lv_iconst (pc := 37) (v := 0) hx hb dX12_isOf_37 (by decide) ?_
    have hr9 := ret_p h
    exact fin_z (b := false) (pc := 38) X rfl Y rfl hr9 rfl rfl dX12_isOf_38
  · have h := itp c_30 h
    refine lv_iconst (pc := 33) (v := 1) hx hb dX12_isOf_33 (by decide) ?_
    refine lv_goto (pc := 34) (tgt := 38) hx hb dX12_isOf_34 (by decide) ?_
    have hr9 := ret_p h
    exact fin_z (b := true) (pc := 38) X rfl Y rfl hr9 rfl rfl dX12_isOf_38
set_option maxHeartbeats 4000000 in
set_option maxRecDepth 100000 in
theorem c_X12_isOf {r9 : Bool} (v1 : Int32) (v2 : Int32) (v3 : Int32) (h : f_X12_isOf v1 v2 v3 D = some r9) : Ct l dC dI ad bd cI cZ yX12_isOf cX12_isOf 4 (some .boolean) rm_X12_isOf [.ref (bd 0), .int v1, .int v2, .int v3] C D (some (.int (b2i r9))) C D := by
  unfold f_X12_isOf at h
  refine Ct.intro (own := RX12) (by decide) rfl (Nat.le_of_ble_eq_true rfl) ?_
  intro p e s m args below meth c H locs ls X Y hl
  have hx := X.1
  have hb := X.2.1
  have hl : lv_has ls 4 [(0, .ref (bd 0)), (1, .int v1), (2, .int v2), (3, .int v3)] := hl
  refine lv_aload_n (pc := 0) hx hb dX12_isOf_0 rfl (lv_at hl 0 rfl) ?_
  refine lv_iload_n (pc := 1) hx hb dX12_isOf_1 rfl (lv_at hl 1 rfl) ?_
  obtain ⟨r_2, e_2, h⟩ := bnd_s h
  refine call_vi (pc := 2) (rest := []) [.int v1] X Y (c_X12_counts v1 e_2) sw_X12_138 (rv_X12 X Y) rfl ⟨rfl, rfl, Nat.le_of_ble_eq_true rfl, Nat.le_of_ble_eq_true rfl⟩ hl rfl (Nat.le_of_ble_eq_true rfl) dX12_isOf_2 (fun H locs Y => ?_)
  refine lv_if_eq (pc := 5) (tgt := 37) hx hb dX12_isOf_5 (by decide) (fun c_5 => ?_) (fun c_5 => ?_)
  · have h := itn (b2i_f c_5) h
    refine lv_iconst (pc := 37) (v := 0) hx hb dX12_isOf_37 (by decide) ?_
    have hr9 := ret_p h
    exact fin_z (b := false) (pc := 38) X rfl Y rfl hr9 rfl rfl dX12_isOf_38
  · have h := itp (b2i_t c_5) h
    refine lv_iload_n (pc := 8) hx hb dX12_isOf_8 rfl (lv_at hl 2 rfl) ?_
    refine lv_iconst (pc := 9) (v := (-1)) hx hb dX12_isOf_9 (by decide) ?_
    refine lv_icmp_eq (pc := 10) (tgt := 23) hx hb dX12_isOf_10 (by decide) (fun c_10 => ?_) (fun c_10 => ?_)
    · have h := itp c_10 h
      exact WB_X12_isOf_23 v1 v3 D X Y (lv_sub hl [0, 1, 3] rfl) h
    · have h := itn c_10 h
      refine lv_aload_n (pc := 13) hx hb dX12_isOf_13 rfl (lv_at hl 0 rfl) ?_
      refine gf_X12_7 (pc := 14) X Y dX12_isOf_14 ?_
      refine lv_iload_n (pc := 17) hx hb dX12_isOf_17 rfl (lv_at hl 1 rfl) ?_
      obtain ⟨g_18, h⟩ := gd_s h
      refine r_ialdm (pc := 18) X Y (cm_1 bd cI cZ) g_18 dX12_isOf_18 ?_
      refine lv_iload_n (pc := 19) hx hb dX12_isOf_19 rfl (lv_at hl 2 rfl) ?_
      refine lv_icmp_ne (pc := 20) (tgt := 37) hx hb dX12_isOf_20 (by decide) (fun c_20 => ?_) (fun c_20 => ?_)
      · have h := itn c_20 h
        refine lv_iconst (pc := 37) (v := 0) hx hb dX12_isOf_37 (by decide) ?_
        have hr9 := ret_p h
        exact fin_z (b := false) (pc := 38) X rfl Y rfl hr9 rfl rfl dX12_isOf_38
      · have h := itp c_20 h
        exact WB_X12_isOf_23 v1 v3 D X Y (lv_sub hl [0, 1, 3] rfl) h
abbrev rm_X12_countOf : Room := { frames := 2, cells := 0, slots := 0, locals := 44 }
set_option maxHeartbeats 4000000 in
set_option maxRecDepth 100000 in
theorem WB_X12_countOf_31 {r9 : Int32} (x0 : Int32) (x1 : Int32) (v1 : Int32) (v2 : Int32) (v4 : Int32) (D : Mem) (X : Cx p s m args meth c cX12_countOf RX12 5 (some .int) dC dI ad bd cI cZ) {kb : Int32 → Int32 → Option Int32} (hkb : ∀ (v3' : Int32) (v4' : Int32) (H : Heap) (locs : List Loc) (ls : Array Slot), Ys s dC dI ad bd cI cZ C D H locs → lv_has ls 5 [(0, .ref (bd 0)), (1, .int v1), (2, .int v2), (3, .int v3'), (4, .int v4')] → kb v3' v4' = some r9 → W p l e rm_X12_countOf s m args below meth c H locs 0 0 (MQ below (QC (some (.int r9)) dC dI ad bd cI cZ C D) args s 0 0 (AD ad bd)) (F0 m 5 ls [])) {H : Heap} {locs : List Loc} {ls : Array Slot} (Y : Ys s dC dI ad bd cI cZ C D H locs) (hl : lv_has ls 5 [(0, .ref (bd 0)), (1, .int v1), (2, .int v2), (4, .int v4)]) (h : B_X12_countOf_31 x0 x1 v4 kb = some r9) : W p l e rm_X12_countOf s m args below meth c H locs 0 0 (MQ below (QC (some (.int r9)) dC dI ad bd cI cZ C D) args s 0 0 (AD ad bd)) (F0 m 31 ls [.int x1, .int x0]) := by
  have hx := X.1
  have hb := X.2.1
  unfold B_X12_countOf_31 at h
  refine lv_iadd (pc := 31) hx hb dX12_countOf_31 ?_
  obtain ⟨v3_32, ev3_32, h⟩ := lt_s_ h
  refine top_i ev3_32 ?_
  refine lv_istore_n (pc := 32) (lv' := [(3, .int v3_32), (0, .ref (bd 0)), (1, .int v1), (2, .int v2), (4, .int v4)]) hx hb dX12_countOf_32 rfl hl (by decide) rfl (fun ls hl => ?_)
  obtain ⟨v4_33, ev4_33, h⟩ := lt_s_ h
  refine lv_iinc (pc := 33) (v := v4_33) (lv' := [(4, .int v4_33), (3, .int v3_32), (0, .ref (bd 0)), (1, .int v1), (2, .int v2)]) hx hb dX12_countOf_33 hl (k := 4) rfl (by rw [ev4_33]; rfl) (by decide) rfl (fun ls hl => ?_)
  refine lv_goto (pc := 36) (tgt := 5) hx hb dX12_countOf_36 (by decide) ?_
  exact hkb v3_32 v4_33 H locs ls Y (lv_sub hl [2, 3, 4, 1, 0] rfl) h
set_option maxHeartbeats 4000000 in
set_option maxRecDepth 100000 in
theorem WL_X12_countOf_5 {r9 : Int32} (v1 : Int32) (v2 : Int32) (D : Mem) (X : Cx p s m args meth c cX12_countOf RX12 5 (some .int) dC dI ad bd cI cZ) {kx : Int32 → Option Int32} (hkx : ∀ (v3' : Int32) (H : Heap) (locs : List Loc) (ls : Array Slot), Ys s dC dI ad bd cI cZ C D H locs → lv_has ls 5 [(3, .int v3')] → kx v3' = some r9 → W p l e rm_X12_countOf s m args below meth c H locs 0 0 (MQ below (QC (some (.int r9)) dC dI ad bd cI cZ C D) args s 0 0 (AD ad bd)) (F0 m 39 ls [])) : ∀ (n_ : Nat) (v3 : Int32) (v4 : Int32) (H : Heap) (locs : List Loc) (ls : Array Slot), Ys s dC dI ad bd cI cZ C D H locs → lv_has ls 5 [(0, .ref (bd 0)), (1, .int v1), (2, .int v2), (3, .int v3), (4, .int v4)] → L_X12_countOf_5 v1 v2 D kx n_ v3 v4 = some r9 → W p l e rm_X12_countOf s m args below meth c H locs 0 0 (MQ below (QC (some (.int r9)) dC dI ad bd cI cZ C D) args s 0 0 (AD ad bd)) (F0 m 5 ls []) := by
  have hx := X.1
  have hb := X.2.1
  intro n_
  induction n_ with
  | zero =>
    intro v3 v4 H locs ls Y hl h
    cases h
  | succ n_ ih =>
    intro v3 v4 H locs ls Y hl h
    unfold L_X12_countOf_5 at h
    refine lv_iload (pc := 5) hx hb dX12_countOf_5 (lv_at hl 4 rfl) ?_
    refine lv_aload_n (pc := 7) hx hb dX12_countOf_7 rfl (lv_at hl 0 rfl) ?_
    refine gf_X12_124 (pc := 8) X Y dX12_countOf_8 ?_
    refine lv_icmp_ge (pc := 11) (tgt := 39) hx hb dX12_countOf_11 (by decide) (fun c_11 => ?_) (fun c_11 => ?_)
    · have h := itp c_11 h
      exact hkx v3 H locs ls Y (lv_sub hl [3] rfl) h
    · have h := itn c_11 h
      refine lv_iload_n (pc := 14) hx hb dX12_countOf_14 rfl (lv_at hl 3 rfl) ?_
      refine lv_aload_n (pc := 15) hx hb dX12_countOf_15 rfl (lv_at hl 0 rfl) ?_
      refine lv_iload (pc := 16) hx hb dX12_countOf_16 (lv_at hl 4 rfl) ?_
      refine lv_iload_n (pc := 18) hx hb dX12_countOf_18 rfl (lv_at hl 1 rfl) ?_
      refine lv_iload_n (pc := 19) hx hb dX12_countOf_19 rfl (lv_at hl 2 rfl) ?_
      obtain ⟨r_20, e_20, h⟩ := bnd_s h
      refine call_vi (pc := 20) (rest := [.int v3]) [.int v4, .int v1, .int v2] X Y (c_X12_isOf v4 v1 v2 e_20) sw_X12_141 (rv_X12 X Y) rfl ⟨rfl, rfl, Nat.le_of_ble_eq_true rfl, Nat.le_of_ble_eq_true rfl⟩ hl rfl (Nat.le_of_ble_eq_true rfl) dX12_countOf_20 (fun H locs Y => ?_)
      refine lv_if_eq (pc := 23) (tgt := 30) hx hb dX12_countOf_23 (by decide) (fun c_23 => ?_) (fun c_23 => ?_)
      · have h := itn (b2i_f c_23) h
        refine lv_iconst (pc := 30) (v := 0) hx hb dX12_countOf_30 (by decide) ?_
        exact WB_X12_countOf_31 v3 0 v1 v2 v4 D X (kb := (L_X12_countOf_5 v1 v2 D kx n_)) ih Y (lv_sub hl [0, 1, 2, 4] rfl) h
      · have h := itp (b2i_t c_23) h
        refine lv_iconst (pc := 26) (v := 1) hx hb dX12_countOf_26 (by decide) ?_
        refine lv_goto (pc := 27) (tgt := 31) hx hb dX12_countOf_27 (by decide) ?_
        exact WB_X12_countOf_31 v3 1 v1 v2 v4 D X (kb := (L_X12_countOf_5 v1 v2 D kx n_)) ih Y (lv_sub hl [0, 1, 2, 4] rfl) h
set_option maxHeartbeats 4000000 in
set_option maxRecDepth 100000 in
theorem c_X12_countOf {r9 : Int32} (v1 : Int32) (v2 : Int32) (h : f_X12_countOf v1 v2 D = some r9) : Ct l dC dI ad bd cI cZ yX12_countOf cX12_countOf 5 (some .int) rm_X12_countOf [.ref (bd 0), .int v1, .int v2] C D (some (.int r9)) C D := by
  unfold f_X12_countOf at h
  refine Ct.intro (own := RX12) (by decide) rfl (Nat.le_of_ble_eq_true rfl) ?_
  intro p e s m args below meth c H locs ls X Y hl
  have hx := X.1
  have hb := X.2.1
  have hl : lv_has ls 5 [(0, .ref (bd 0)), (1, .int v1), (2, .int v2)] := hl
  refine lv_iconst (pc := 0) (v := 0) hx hb dX12_countOf_0 (by decide) ?_
  refine lv_istore_n (pc := 1) (lv' := [(3, .int 0), (0, .ref (bd 0)), (1, .int v1), (2, .int v2)]) hx hb dX12_countOf_1 rfl hl (by decide) rfl (fun ls hl => ?_)
  refine lv_iconst (pc := 2) (v := 0) hx hb dX12_countOf_2 (by decide) ?_
  refine lv_istore (pc := 3) (lv' := [(4, .int 0), (3, .int 0), (0, .ref (bd 0)), (1, .int v1), (2, .int v2)]) hx hb dX12_countOf_3 hl (by decide) rfl (fun ls hl => ?_)
  refine WL_X12_countOf_5 v1 v2 D X (fun v3_39 H locs ls Y hl h => ?_) FU 0 0 H locs ls Y (lv_sub hl [2, 3, 4, 1, 0] rfl) h
  refine lv_iload_n (pc := 39) hx hb dX12_countOf_39 rfl (lv_at hl 0 rfl) ?_
  have hr9 := ret_p h
  exact fin_i (pc := 40) X rfl Y hr9 rfl rfl dX12_countOf_40
abbrev rm_X12_sumOf : Room := { frames := 2, cells := 0, slots := 0, locals := 44 }
set_option maxHeartbeats 4000000 in
set_option maxRecDepth 100000 in
theorem WB_X12_sumOf_37 {r9 : Int32} (x0 : Int32) (x1 : Int32) (v1 : Int32) (v2 : Int32) (v4 : Int32) (D : Mem) (X : Cx p s m args meth c cX12_sumOf RX12 5 (some .int) dC dI ad bd cI cZ) {kb : Int32 → Int32 → Option Int32} (hkb : ∀ (v3' : Int32) (v4' : Int32) (H : Heap) (locs : List Loc) (ls : Array Slot), Ys s dC dI ad bd cI cZ C D H locs → lv_has ls 5 [(0, .ref (bd 0)), (1, .int v1), (2, .int v2), (3, .int v3'), (4, .int v4')] → kb v3' v4' = some r9 → W p l e rm_X12_sumOf s m args below meth c H locs 0 0 (MQ below (QC (some (.int r9)) dC dI ad bd cI cZ C D) args s 0 0 (AD ad bd)) (F0 m 5 ls [])) {H : Heap} {locs : List Loc} {ls : Array Slot} (Y : Ys s dC dI ad bd cI cZ C D H locs) (hl : lv_has ls 5 [(0, .ref (bd 0)), (1, .int v1), (2, .int v2), (4, .int v4)]) (h : B_X12_sumOf_37 x0 x1 v4 kb = some r9) : W p l e rm_X12_sumOf s m args below meth c H locs 0 0 (MQ below (QC (some (.int r9)) dC dI ad bd cI cZ C D) args s 0 0 (AD ad bd)) (F0 m 37 ls [.int x1, .int x0]) := by
  have hx := X.1
  have hb := X.2.1
  unfold B_X12_sumOf_37 at h
  refine lv_iadd (pc := 37) hx hb dX12_sumOf_37 ?_
  obtain ⟨v3_38, ev3_38, h⟩ := lt_s_ h
  refine top_i ev3_38 ?_
  refine lv_istore_n (pc := 38) (lv' := [(3, .int v3_38), (0, .ref (bd 0)), (1, .int v1), (2, .int v2), (4, .int v4)]) hx hb dX12_sumOf_38 rfl hl (by decide) rfl (fun ls hl => ?_)
  obtain ⟨v4_39, ev4_39, h⟩ := lt_s_ h
  refine lv_iinc (pc := 39) (v := v4_39) (lv' := [(4, .int v4_39), (3, .int v3_38), (0, .ref (bd 0)), (1, .int v1), (2, .int v2)]) hx hb dX12_sumOf_39 hl (k := 4) rfl (by rw [ev4_39]; rfl) (by decide) rfl (fun ls hl => ?_)
  refine lv_goto (pc := 42) (tgt := 5) hx hb dX12_sumOf_42 (by decide) ?_
  exact hkb v3_38 v4_39 H locs ls Y (lv_sub hl [2, 3, 4, 1, 0] rfl) h
set_option maxHeartbeats 4000000 in
set_option maxRecDepth 100000 in
theorem WL_X12_sumOf_5 {r9 : Int32} (v1 : Int32) (v2 : Int32) (D : Mem) (X : Cx p s m args meth c cX12_sumOf RX12 5 (some .int) dC dI ad bd cI cZ) {kx : Int32 → Option Int32} (hkx : ∀ (v3' : Int32) (H : Heap) (locs : List Loc) (ls : Array Slot), Ys s dC dI ad bd cI cZ C D H locs → lv_has ls 5 [(3, .int v3')] → kx v3' = some r9 → W p l e rm_X12_sumOf s m args below meth c H locs 0 0 (MQ below (QC (some (.int r9)) dC dI ad bd cI cZ C D) args s 0 0 (AD ad bd)) (F0 m 45 ls [])) : ∀ (n_ : Nat) (v3 : Int32) (v4 : Int32) (H : Heap) (locs : List Loc) (ls : Array Slot), Ys s dC dI ad bd cI cZ C D H locs → lv_has ls 5 [(0, .ref (bd 0)), (1, .int v1), (2, .int v2), (3, .int v3), (4, .int v4)] → L_X12_sumOf_5 v1 v2 D kx n_ v3 v4 = some r9 → W p l e rm_X12_sumOf s m args below meth c H locs 0 0 (MQ below (QC (some (.int r9)) dC dI ad bd cI cZ C D) args s 0 0 (AD ad bd)) (F0 m 5 ls []) := by
  have hx := X.1
  have hb := X.2.1
  intro n_
  induction n_ with
  | zero =>
    intro v3 v4 H locs ls Y hl h
    cases h
  | succ n_ ih =>
    intro v3 v4 H locs ls Y hl h
    unfold L_X12_sumOf_5 at h
    refine lv_iload (pc := 5) hx hb dX12_sumOf_5 (lv_at hl 4 rfl) ?_
    refine lv_aload_n (pc := 7) hx hb dX12_sumOf_7 rfl (lv_at hl 0 rfl) ?_
    refine gf_X12_124 (pc := 8) X Y dX12_sumOf_8 ?_
    refine lv_icmp_ge (pc := 11) (tgt := 45) hx hb dX12_sumOf_11 (by decide) (fun c_11 => ?_) (fun c_11 => ?_)
    · have h := itp c_11 h
      exact hkx v3 H locs ls Y (lv_sub hl [3] rfl) h
    · have h := itn c_11 h
      refine lv_iload_n (pc := 14) hx hb dX12_sumOf_14 rfl (lv_at hl 3 rfl) ?_
      refine lv_aload_n (pc := 15) hx hb dX12_sumOf_15 rfl (lv_at hl 0 rfl) ?_
      refine lv_iload (pc := 16) hx hb dX12_sumOf_16 (lv_at hl 4 rfl) ?_
      refine lv_iload_n (pc := 18) hx hb dX12_sumOf_18 rfl (lv_at hl 1 rfl) ?_
      refine lv_iload_n (pc := 19) hx hb dX12_sumOf_19 rfl (lv_at hl 2 rfl) ?_
      obtain ⟨r_20, e_20, h⟩ := bnd_s h
      refine call_vi (pc := 20) (rest := [.int v3]) [.int v4, .int v1, .int v2] X Y (c_X12_isOf v4 v1 v2 e_20) sw_X12_141 (rv_X12 X Y) rfl ⟨rfl, rfl, Nat.le_of_ble_eq_true rfl, Nat.le_of_ble_eq_true rfl⟩ hl rfl (Nat.le_of_ble_eq_true rfl) dX12_sumOf_20 (fun H locs Y => ?_)
      refine lv_if_eq (pc := 23) (tgt := 36) hx hb dX12_sumOf_23 (by decide) (fun c_23 => ?_) (fun c_23 => ?_)
      · have h := itn (b2i_f c_23) h
        refine lv_iconst (pc := 36) (v := 0) hx hb dX12_sumOf_36 (by decide) ?_
        exact WB_X12_sumOf_37 v3 0 v1 v2 v4 D X (kb := (L_X12_sumOf_5 v1 v2 D kx n_)) ih Y (lv_sub hl [0, 1, 2, 4] rfl) h
      · have h := itp (b2i_t c_23) h
        refine lv_aload_n (pc := 26) hx hb dX12_sumOf_26 rfl (lv_at hl 0 rfl) ?_
        refine gf_X12_16 (pc := 27) X Y dX12_sumOf_27 ?_
        refine lv_iload (pc := 30) hx hb dX12_sumOf_30 (lv_at hl 4 rfl) ?_
        obtain ⟨g_32, h⟩ := gd_s h
        refine r_ialdm (pc := 32) X Y (cm_3 bd cI cZ) g_32 dX12_sumOf_32 ?_
        refine lv_goto (pc := 33) (tgt := 37) hx hb dX12_sumOf_33 (by decide) ?_
        exact WB_X12_sumOf_37 v3 (D 3 v4.toNatClampNeg) v1 v2 v4 D X (kb := (L_X12_sumOf_5 v1 v2 D kx n_)) ih Y (lv_sub hl [0, 1, 2, 4] rfl) h
set_option maxHeartbeats 4000000 in
set_option maxRecDepth 100000 in
theorem c_X12_sumOf {r9 : Int32} (v1 : Int32) (v2 : Int32) (h : f_X12_sumOf v1 v2 D = some r9) : Ct l dC dI ad bd cI cZ yX12_sumOf cX12_sumOf 5 (some .int) rm_X12_sumOf [.ref (bd 0), .int v1, .int v2] C D (some (.int r9)) C D := by
  unfold f_X12_sumOf at h
  refine Ct.intro (own := RX12) (by decide) rfl (Nat.le_of_ble_eq_true rfl) ?_
  intro p e s m args below meth c H locs ls X Y hl
  have hx := X.1
  have hb := X.2.1
  have hl : lv_has ls 5 [(0, .ref (bd 0)), (1, .int v1), (2, .int v2)] := hl
  refine lv_iconst (pc := 0) (v := 0) hx hb dX12_sumOf_0 (by decide) ?_
  refine lv_istore_n (pc := 1) (lv' := [(3, .int 0), (0, .ref (bd 0)), (1, .int v1), (2, .int v2)]) hx hb dX12_sumOf_1 rfl hl (by decide) rfl (fun ls hl => ?_)
  refine lv_iconst (pc := 2) (v := 0) hx hb dX12_sumOf_2 (by decide) ?_
  refine lv_istore (pc := 3) (lv' := [(4, .int 0), (3, .int 0), (0, .ref (bd 0)), (1, .int v1), (2, .int v2)]) hx hb dX12_sumOf_3 hl (by decide) rfl (fun ls hl => ?_)
  refine WL_X12_sumOf_5 v1 v2 D X (fun v3_45 H locs ls Y hl h => ?_) FU 0 0 H locs ls Y (lv_sub hl [2, 3, 4, 1, 0] rfl) h
  refine lv_iload_n (pc := 45) hx hb dX12_sumOf_45 rfl (lv_at hl 0 rfl) ?_
  have hr9 := ret_p h
  exact fin_i (pc := 46) X rfl Y hr9 rfl rfl dX12_sumOf_46
abbrev rm_X12_noesOf : Room := { frames := 2, cells := 0, slots := 0, locals := 44 }
set_option maxHeartbeats 4000000 in
set_option maxRecDepth 100000 in
theorem WB_X12_noesOf_39 {r9 : Int32} (x0 : Int32) (x1 : Int32) (v1 : Int32) (v2 : Int32) (v4 : Int32) (D : Mem) (X : Cx p s m args meth c cX12_noesOf RX12 5 (some .int) dC dI ad bd cI cZ) {kb : Int32 → Int32 → Option Int32} (hkb : ∀ (v3' : Int32) (v4' : Int32) (H : Heap) (locs : List Loc) (ls : Array Slot), Ys s dC dI ad bd cI cZ C D H locs → lv_has ls 5 [(0, .ref (bd 0)), (1, .int v1), (2, .int v2), (3, .int v3'), (4, .int v4')] → kb v3' v4' = some r9 → W p l e rm_X12_noesOf s m args below meth c H locs 0 0 (MQ below (QC (some (.int r9)) dC dI ad bd cI cZ C D) args s 0 0 (AD ad bd)) (F0 m 5 ls [])) {H : Heap} {locs : List Loc} {ls : Array Slot} (Y : Ys s dC dI ad bd cI cZ C D H locs) (hl : lv_has ls 5 [(0, .ref (bd 0)), (1, .int v1), (2, .int v2), (4, .int v4)]) (h : B_X12_noesOf_39 x0 x1 v4 kb = some r9) : W p l e rm_X12_noesOf s m args below meth c H locs 0 0 (MQ below (QC (some (.int r9)) dC dI ad bd cI cZ C D) args s 0 0 (AD ad bd)) (F0 m 39 ls [.int x1, .int x0]) := by
  have hx := X.1
  have hb := X.2.1
  unfold B_X12_noesOf_39 at h
  refine lv_iadd (pc := 39) hx hb dX12_noesOf_39 ?_
  obtain ⟨v3_40, ev3_40, h⟩ := lt_s_ h
  refine top_i ev3_40 ?_
  refine lv_istore_n (pc := 40) (lv' := [(3, .int v3_40), (0, .ref (bd 0)), (1, .int v1), (2, .int v2), (4, .int v4)]) hx hb dX12_noesOf_40 rfl hl (by decide) rfl (fun ls hl => ?_)
  obtain ⟨v4_41, ev4_41, h⟩ := lt_s_ h
  refine lv_iinc (pc := 41) (v := v4_41) (lv' := [(4, .int v4_41), (3, .int v3_40), (0, .ref (bd 0)), (1, .int v1), (2, .int v2)]) hx hb dX12_noesOf_41 hl (k := 4) rfl (by rw [ev4_41]; rfl) (by decide) rfl (fun ls hl => ?_)
  refine lv_goto (pc := 44) (tgt := 5) hx hb dX12_noesOf_44 (by decide) ?_
  exact hkb v3_40 v4_41 H locs ls Y (lv_sub hl [2, 3, 4, 1, 0] rfl) h
set_option maxHeartbeats 4000000 in
set_option maxRecDepth 100000 in
theorem WL_X12_noesOf_5 {r9 : Int32} (v1 : Int32) (v2 : Int32) (D : Mem) (X : Cx p s m args meth c cX12_noesOf RX12 5 (some .int) dC dI ad bd cI cZ) {kx : Int32 → Option Int32} (hkx : ∀ (v3' : Int32) (H : Heap) (locs : List Loc) (ls : Array Slot), Ys s dC dI ad bd cI cZ C D H locs → lv_has ls 5 [(3, .int v3')] → kx v3' = some r9 → W p l e rm_X12_noesOf s m args below meth c H locs 0 0 (MQ below (QC (some (.int r9)) dC dI ad bd cI cZ C D) args s 0 0 (AD ad bd)) (F0 m 47 ls [])) : ∀ (n_ : Nat) (v3 : Int32) (v4 : Int32) (H : Heap) (locs : List Loc) (ls : Array Slot), Ys s dC dI ad bd cI cZ C D H locs → lv_has ls 5 [(0, .ref (bd 0)), (1, .int v1), (2, .int v2), (3, .int v3), (4, .int v4)] → L_X12_noesOf_5 v1 v2 D kx n_ v3 v4 = some r9 → W p l e rm_X12_noesOf s m args below meth c H locs 0 0 (MQ below (QC (some (.int r9)) dC dI ad bd cI cZ C D) args s 0 0 (AD ad bd)) (F0 m 5 ls []) := by
  have hx := X.1
  have hb := X.2.1
  intro n_
  induction n_ with
  | zero =>
    intro v3 v4 H locs ls Y hl h
    cases h
  | succ n_ ih =>
    intro v3 v4 H locs ls Y hl h
    unfold L_X12_noesOf_5 at h
    refine lv_iload (pc := 5) hx hb dX12_noesOf_5 (lv_at hl 4 rfl) ?_
    refine lv_aload_n (pc := 7) hx hb dX12_noesOf_7 rfl (lv_at hl 0 rfl) ?_
    refine gf_X12_124 (pc := 8) X Y dX12_noesOf_8 ?_
    refine lv_icmp_ge (pc := 11) (tgt := 47) hx hb dX12_noesOf_11 (by decide) (fun c_11 => ?_) (fun c_11 => ?_)
    · have h := itp c_11 h
      exact hkx v3 H locs ls Y (lv_sub hl [3] rfl) h
    · have h := itn c_11 h
      refine lv_iload_n (pc := 14) hx hb dX12_noesOf_14 rfl (lv_at hl 3 rfl) ?_
      refine lv_aload_n (pc := 15) hx hb dX12_noesOf_15 rfl (lv_at hl 0 rfl) ?_
      refine lv_iload (pc := 16) hx hb dX12_noesOf_16 (lv_at hl 4 rfl) ?_
      refine lv_iload_n (pc := 18) hx hb dX12_noesOf_18 rfl (lv_at hl 1 rfl) ?_
      refine lv_iload_n (pc := 19) hx hb dX12_noesOf_19 rfl (lv_at hl 2 rfl) ?_
      obtain ⟨r_20, e_20, h⟩ := bnd_s h
      refine call_vi (pc := 20) (rest := [.int v3]) [.int v4, .int v1, .int v2] X Y (c_X12_isOf v4 v1 v2 e_20) sw_X12_141 (rv_X12 X Y) rfl ⟨rfl, rfl, Nat.le_of_ble_eq_true rfl, Nat.le_of_ble_eq_true rfl⟩ hl rfl (Nat.le_of_ble_eq_true rfl) dX12_noesOf_20 (fun H locs Y => ?_)
      refine lv_if_eq (pc := 23) (tgt := 38) hx hb dX12_noesOf_23 (by decide) (fun c_23 => ?_) (fun c_23 => ?_)
      · have h := itn (b2i_f c_23) h
        refine lv_iconst (pc := 38) (v := 0) hx hb dX12_noesOf_38 (by decide) ?_
        exact WB_X12_noesOf_39 v3 0 v1 v2 v4 D X (kb := (L_X12_noesOf_5 v1 v2 D kx n_)) ih Y (lv_sub hl [0, 1, 2, 4] rfl) h
      · have h := itp (b2i_t c_23) h
        refine lv_iconst (pc := 26) (v := 1) hx hb dX12_noesOf_26 (by decide) ?_
        refine lv_aload_n (pc := 27) hx hb dX12_noesOf_27 rfl (lv_at hl 0 rfl) ?_
        refine gf_X12_19 (pc := 28) X Y dX12_noesOf_28 ?_
        refine lv_iload (pc := 31) hx hb dX12_noesOf_31 (lv_at hl 4 rfl) ?_
        obtain ⟨g_33, h⟩ := gd_s h
        refine r_ialdm (pc := 33) X Y (cm_4 bd cI cZ) g_33 dX12_noesOf_33 ?_
        refine lv_isub (pc := 34) hx hb dX12_noesOf_34 ?_
        refine lv_goto (pc := 35) (tgt := 39) hx hb dX12_noesOf_35 (by decide) ?_
        exact WB_X12_noesOf_39 v3 (1 - (D 4 v4.toNatClampNeg)) v1 v2 v4 D X (kb := (L_X12_noesOf_5 v1 v2 D kx n_)) ih Y (lv_sub hl [0, 1, 2, 4] rfl) h
set_option maxHeartbeats 4000000 in
set_option maxRecDepth 100000 in
theorem c_X12_noesOf {r9 : Int32} (v1 : Int32) (v2 : Int32) (h : f_X12_noesOf v1 v2 D = some r9) : Ct l dC dI ad bd cI cZ yX12_noesOf cX12_noesOf 5 (some .int) rm_X12_noesOf [.ref (bd 0), .int v1, .int v2] C D (some (.int r9)) C D := by
  unfold f_X12_noesOf at h
  refine Ct.intro (own := RX12) (by decide) rfl (Nat.le_of_ble_eq_true rfl) ?_
  intro p e s m args below meth c H locs ls X Y hl
  have hx := X.1
  have hb := X.2.1
  have hl : lv_has ls 5 [(0, .ref (bd 0)), (1, .int v1), (2, .int v2)] := hl
  refine lv_iconst (pc := 0) (v := 0) hx hb dX12_noesOf_0 (by decide) ?_
  refine lv_istore_n (pc := 1) (lv' := [(3, .int 0), (0, .ref (bd 0)), (1, .int v1), (2, .int v2)]) hx hb dX12_noesOf_1 rfl hl (by decide) rfl (fun ls hl => ?_)
  refine lv_iconst (pc := 2) (v := 0) hx hb dX12_noesOf_2 (by decide) ?_
  refine lv_istore (pc := 3) (lv' := [(4, .int 0), (3, .int 0), (0, .ref (bd 0)), (1, .int v1), (2, .int v2)]) hx hb dX12_noesOf_3 hl (by decide) rfl (fun ls hl => ?_)
  refine WL_X12_noesOf_5 v1 v2 D X (fun v3_47 H locs ls Y hl h => ?_) FU 0 0 H locs ls Y (lv_sub hl [2, 3, 4, 1, 0] rfl) h
  refine lv_iload_n (pc := 47) hx hb dX12_noesOf_47 rfl (lv_at hl 0 rfl) ?_
  have hr9 := ret_p h
  exact fin_i (pc := 48) X rfl Y hr9 rfl rfl dX12_noesOf_48
abbrev rm_X12_middleOf : Room := { frames := 3, cells := 0, slots := 0, locals := 68 }
set_option maxHeartbeats 4000000 in
set_option maxRecDepth 100000 in
theorem WB_X12_middleOf_66 {r9 : Int32} (x0 : Int32) (x1 : Int32) (v1 : Int32) (v2 : Int32) (v4 : Int32) (v5 : Int32) (D : Mem) (X : Cx p s m args meth c cX12_middleOf RX12 6 (some .int) dC dI ad bd cI cZ) {kb : Int32 → Int32 → Option Int32} (hkb : ∀ (v3' : Int32) (v5' : Int32) (H : Heap) (locs : List Loc) (ls : Array Slot), Ys s dC dI ad bd cI cZ C D H locs → lv_has ls 6 [(0, .ref (bd 0)), (1, .int v1), (2, .int v2), (3, .int v3'), (4, .int v4), (5, .int v5')] → kb v3' v5' = some r9 → W p l e rm_X12_middleOf s m args below meth c H locs 0 0 (MQ below (QC (some (.int r9)) dC dI ad bd cI cZ C D) args s 0 0 (AD ad bd)) (F0 m 28 ls [])) {H : Heap} {locs : List Loc} {ls : Array Slot} (Y : Ys s dC dI ad bd cI cZ C D H locs) (hl : lv_has ls 6 [(0, .ref (bd 0)), (1, .int v1), (2, .int v2), (4, .int v4), (5, .int v5)]) (h : B_X12_middleOf_66 x0 x1 v5 kb = some r9) : W p l e rm_X12_middleOf s m args below meth c H locs 0 0 (MQ below (QC (some (.int r9)) dC dI ad bd cI cZ C D) args s 0 0 (AD ad bd)) (F0 m 66 ls [.int x1, .int x0]) := by
  have hx := X.1
  have hb := X.2.1
  unfold B_X12_middleOf_66 at h
  refine lv_isub (pc := 66) hx hb dX12_middleOf_66 ?_
  obtain ⟨v3_67, ev3_67, h⟩ := lt_s_ h
  refine top_i ev3_67 ?_
  refine lv_istore_n (pc := 67) (lv' := [(3, .int v3_67), (0, .ref (bd 0)), (1, .int v1), (2, .int v2), (4, .int v4), (5, .int v5)]) hx hb dX12_middleOf_67 rfl hl (by decide) rfl (fun ls hl => ?_)
  obtain ⟨v5_68, ev5_68, h⟩ := lt_s_ h
  refine lv_iinc (pc := 68) (v := v5_68) (lv' := [(5, .int v5_68), (3, .int v3_67), (0, .ref (bd 0)), (1, .int v1), (2, .int v2), (4, .int v4)]) hx hb dX12_middleOf_68 hl (k := 5) rfl (by rw [ev5_68]; rfl) (by decide) rfl (fun ls hl => ?_)
  refine lv_goto (pc := 71) (tgt := 28) hx hb dX12_middleOf_71 (by decide) ?_
  exact hkb v3_67 v5_68 H locs ls Y (lv_sub hl [2, 3, 4, 1, 5, 0] rfl) h
set_option maxHeartbeats 4000000 in
set_option maxRecDepth 100000 in
theorem WB_X12_middleOf_65 {r9 : Int32} (x0 : Int32) (v1 : Int32) (v2 : Int32) (v4 : Int32) (v5 : Int32) (D : Mem) (X : Cx p s m args meth c cX12_middleOf RX12 6 (some .int) dC dI ad bd cI cZ) {kb : Int32 → Int32 → Option Int32} (hkb : ∀ (v3' : Int32) (v5' : Int32) (H : Heap) (locs : List Loc) (ls : Array Slot), Ys s dC dI ad bd cI cZ C D H locs → lv_has ls 6 [(0, .ref (bd 0)), (1, .int v1), (2, .int v2), (3, .int v3'), (4, .int v4), (5, .int v5')] → kb v3' v5' = some r9 → W p l e rm_X12_middleOf s m args below meth c H locs 0 0 (MQ below (QC (some (.int r9)) dC dI ad bd cI cZ C D) args s 0 0 (AD ad bd)) (F0 m 28 ls [])) {H : Heap} {locs : List Loc} {ls : Array Slot} (Y : Ys s dC dI ad bd cI cZ C D H locs) (hl : lv_has ls 6 [(0, .ref (bd 0)), (1, .int v1), (2, .int v2), (4, .int v4), (5, .int v5)]) (h : B_X12_middleOf_65 x0 v5 kb = some r9) : W p l e rm_X12_middleOf s m args below meth c H locs 0 0 (MQ below (QC (some (.int r9)) dC dI ad bd cI cZ C D) args s 0 0 (AD ad bd)) (F0 m 65 ls [.int x0]) := by
  have hx := X.1
  have hb := X.2.1
  unfold B_X12_middleOf_65 at h
  refine lv_iconst (pc := 65) (v := 0) hx hb dX12_middleOf_65 (by decide) ?_
  exact WB_X12_middleOf_66 x0 0 v1 v2 v4 v5 D X (kb := kb) hkb Y (lv_sub hl [0, 1, 2, 3, 4] rfl) h
set_option maxHeartbeats 4000000 in
set_option maxRecDepth 100000 in
theorem WL_X12_middleOf_28 {r9 : Int32} (v1 : Int32) (v2 : Int32) (v4 : Int32) (D : Mem) (X : Cx p s m args meth c cX12_middleOf RX12 6 (some .int) dC dI ad bd cI cZ) {kx : Int32 → Option Int32} (hkx : ∀ (v3' : Int32) (H : Heap) (locs : List Loc) (ls : Array Slot), Ys s dC dI ad bd cI cZ C D H locs → lv_has ls 6 [(0, .ref (bd 0)), (1, .int v1), (2, .int v2), (3, .int v3'), (4, .int v4)] → kx v3' = some r9 → W p l e rm_X12_middleOf s m args below meth c H locs 0 0 (MQ below (QC (some (.int r9)) dC dI ad bd cI cZ C D) args s 0 0 (AD ad bd)) (F0 m 74 ls [])) : ∀ (n_ : Nat) (v3 : Int32) (v5 : Int32) (H : Heap) (locs : List Loc) (ls : Array Slot), Ys s dC dI ad bd cI cZ C D H locs → lv_has ls 6 [(0, .ref (bd 0)), (1, .int v1), (2, .int v2), (3, .int v3), (4, .int v4), (5, .int v5)] → L_X12_middleOf_28 v1 v2 v4 D kx n_ v3 v5 = some r9 → W p l e rm_X12_middleOf s m args below meth c H locs 0 0 (MQ below (QC (some (.int r9)) dC dI ad bd cI cZ C D) args s 0 0 (AD ad bd)) (F0 m 28 ls []) := by
  have hx := X.1
  have hb := X.2.1
  intro n_
  induction n_ with
  | zero =>
    intro v3 v5 H locs ls Y hl h
    cases h
  | succ n_ ih =>
    intro v3 v5 H locs ls Y hl h
    unfold L_X12_middleOf_28 at h
    refine lv_iload (pc := 28) hx hb dX12_middleOf_28 (lv_at hl 5 rfl) ?_
    refine lv_aload_n (pc := 30) hx hb dX12_middleOf_30 rfl (lv_at hl 0 rfl) ?_
    refine gf_X12_124 (pc := 31) X Y dX12_middleOf_31 ?_
    refine lv_icmp_ge (pc := 34) (tgt := 74) hx hb dX12_middleOf_34 (by decide) (fun c_34 => ?_) (fun c_34 => ?_)
    · have h := itp c_34 h
      exact hkx v3 H locs ls Y (lv_sub hl [0, 1, 2, 3, 4] rfl) h
    · have h := itn c_34 h
      refine lv_iload_n (pc := 37) hx hb dX12_middleOf_37 rfl (lv_at hl 3 rfl) ?_
      refine lv_aload_n (pc := 38) hx hb dX12_middleOf_38 rfl (lv_at hl 0 rfl) ?_
      refine lv_iload (pc := 39) hx hb dX12_middleOf_39 (lv_at hl 5 rfl) ?_
      refine lv_iload_n (pc := 41) hx hb dX12_middleOf_41 rfl (lv_at hl 1 rfl) ?_
      refine lv_iload_n (pc := 42) hx hb dX12_middleOf_42 rfl (lv_at hl 2 rfl) ?_
      obtain ⟨r_43, e_43, h⟩ := bnd_s h
      refine call_vi (pc := 43) (rest := [.int v3]) [.int v5, .int v1, .int v2] X Y (c_X12_isOf v5 v1 v2 e_43) sw_X12_141 (rv_X12 X Y) rfl ⟨rfl, rfl, Nat.le_of_ble_eq_true rfl, Nat.le_of_ble_eq_true rfl⟩ hl rfl (Nat.le_of_ble_eq_true rfl) dX12_middleOf_43 (fun H locs Y => ?_)
      refine lv_if_eq (pc := 46) (tgt := 65) hx hb dX12_middleOf_46 (by decide) (fun c_46 => ?_) (fun c_46 => ?_)
      · have h := itn (b2i_f c_46) h
        exact WB_X12_middleOf_65 v3 v1 v2 v4 v5 D X (kb := (L_X12_middleOf_28 v1 v2 v4 D kx n_)) ih Y (lv_sub hl [0, 1, 2, 4, 5] rfl) h
      · have h := itp (b2i_t c_46) h
        refine lv_aload_n (pc := 49) hx hb dX12_middleOf_49 rfl (lv_at hl 0 rfl) ?_
        refine gf_X12_16 (pc := 50) X Y dX12_middleOf_50 ?_
        refine lv_iload (pc := 53) hx hb dX12_middleOf_53 (lv_at hl 5 rfl) ?_
        obtain ⟨g_55, h⟩ := gd_s h
        refine r_ialdm (pc := 55) X Y (cm_3 bd cI cZ) g_55 dX12_middleOf_55 ?_
        refine lv_iload (pc := 56) hx hb dX12_middleOf_56 (lv_at hl 4 rfl) ?_
        refine lv_icmp_ne (pc := 58) (tgt := 65) hx hb dX12_middleOf_58 (by decide) (fun c_58 => ?_) (fun c_58 => ?_)
        · have h := itn c_58 h
          exact WB_X12_middleOf_65 v3 v1 v2 v4 v5 D X (kb := (L_X12_middleOf_28 v1 v2 v4 D kx n_)) ih Y (lv_sub hl [0, 1, 2, 4, 5] rfl) h
        · have h := itp c_58 h
          refine lv_iconst (pc := 61) (v := 1) hx hb dX12_middleOf_61 (by decide) ?_
          refine lv_goto (pc := 62) (tgt := 66) hx hb dX12_middleOf_62 (by decide) ?_
          exact WB_X12_middleOf_66 v3 1 v1 v2 v4 v5 D X (kb := (L_X12_middleOf_28 v1 v2 v4 D kx n_)) ih Y (lv_sub hl [0, 1, 2, 4, 5] rfl) h
set_option maxHeartbeats 4000000 in
set_option maxRecDepth 100000 in
theorem WL_X12_middleOf_14 {r9 : Int32} (v1 : Int32) (v2 : Int32) (D : Mem) (X : Cx p s m args meth c cX12_middleOf RX12 6 (some .int) dC dI ad bd cI cZ) {kx : Option Int32} (hkx : ∀ (H : Heap) (locs : List Loc) (ls : Array Slot), Ys s dC dI ad bd cI cZ C D H locs → lv_has ls 6 [] → kx = some r9 → W p l e rm_X12_middleOf s m args below meth c H locs 0 0 (MQ below (QC (some (.int r9)) dC dI ad bd cI cZ C D) args s 0 0 (AD ad bd)) (F0 m 87 ls [])) : ∀ (n_ : Nat) (v3 : Int32) (v4 : Int32) (H : Heap) (locs : List Loc) (ls : Array Slot), Ys s dC dI ad bd cI cZ C D H locs → lv_has ls 6 [(0, .ref (bd 0)), (1, .int v1), (2, .int v2), (3, .int v3), (4, .int v4)] → L_X12_middleOf_14 v1 v2 D kx n_ v3 v4 = some r9 → W p l e rm_X12_middleOf s m args below meth c H locs 0 0 (MQ below (QC (some (.int r9)) dC dI ad bd cI cZ C D) args s 0 0 (AD ad bd)) (F0 m 14 ls []) := by
  have hx := X.1
  have hb := X.2.1
  intro n_
  induction n_ with
  | zero =>
    intro v3 v4 H locs ls Y hl h
    cases h
  | succ n_ ih =>
    intro v3 v4 H locs ls Y hl h
    unfold L_X12_middleOf_14 at h
    refine lv_iload (pc := 14) hx hb dX12_middleOf_14 (lv_at hl 4 rfl) ?_
    refine lv_bipush (pc := 16) (v := 11) hx hb dX12_middleOf_16 (by decide) ?_
    refine lv_icmp_ge (pc := 18) (tgt := 87) hx hb dX12_middleOf_18 (by decide) (fun c_18 => ?_) (fun c_18 => ?_)
    · have h := itp c_18 h
      exact hkx  H locs ls Y (lv_sub hl [] rfl) h
    · have h := itn c_18 h
      refine lv_iload_n (pc := 21) hx hb dX12_middleOf_21 rfl (lv_at hl 3 rfl) ?_
      refine lv_if_le (pc := 22) (tgt := 87) hx hb dX12_middleOf_22 (by decide) (fun c_22 => ?_) (fun c_22 => ?_)
      · have h := itp c_22 h
        exact hkx  H locs ls Y (lv_sub hl [] rfl) h
      · have h := itn c_22 h
        refine lv_iconst (pc := 25) (v := 0) hx hb dX12_middleOf_25 (by decide) ?_
        refine lv_istore (pc := 26) (lv' := [(5, .int 0), (0, .ref (bd 0)), (1, .int v1), (2, .int v2), (3, .int v3), (4, .int v4)]) hx hb dX12_middleOf_26 hl (by decide) rfl (fun ls hl => ?_)
        refine WL_X12_middleOf_28 v1 v2 v4 D X (fun v3_74 H locs ls Y hl h => ?_) FU v3 0 H locs ls Y (lv_sub hl [1, 2, 3, 4, 5, 0] rfl) h
        refine lv_iload_n (pc := 74) hx hb dX12_middleOf_74 rfl (lv_at hl 3 rfl) ?_
        refine lv_if_gt (pc := 75) (tgt := 81) hx hb dX12_middleOf_75 (by decide) (fun c_75 => ?_) (fun c_75 => ?_)
        · have h := itp c_75 h
          obtain ⟨v4_81, ev4_81, h⟩ := lt_s_ h
          refine lv_iinc (pc := 81) (v := v4_81) (lv' := [(4, .int v4_81), (0, .ref (bd 0)), (1, .int v1), (2, .int v2), (3, .int v3_74)]) hx hb dX12_middleOf_81 hl (k := 4) rfl (by rw [ev4_81]; rfl) (by decide) rfl (fun ls hl => ?_)
          refine lv_goto (pc := 84) (tgt := 14) hx hb dX12_middleOf_84 (by decide) ?_
          exact ih v3_74 v4_81 H locs ls Y (lv_sub hl [1, 2, 3, 4, 0] rfl) h
        · have h := itn c_75 h
          refine lv_iload (pc := 78) hx hb dX12_middleOf_78 (lv_at hl 4 rfl) ?_
          have hr9 := ret_p h
          exact fin_i (pc := 80) X rfl Y hr9 rfl rfl dX12_middleOf_80
set_option maxHeartbeats 4000000 in
set_option maxRecDepth 100000 in
theorem c_X12_middleOf {r9 : Int32} (v1 : Int32) (v2 : Int32) (h : f_X12_middleOf v1 v2 D = some r9) : Ct l dC dI ad bd cI cZ yX12_middleOf cX12_middleOf 6 (some .int) rm_X12_middleOf [.ref (bd 0), .int v1, .int v2] C D (some (.int r9)) C D := by
  unfold f_X12_middleOf at h
  refine Ct.intro (own := RX12) (by decide) rfl (Nat.le_of_ble_eq_true rfl) ?_
  intro p e s m args below meth c H locs ls X Y hl
  have hx := X.1
  have hb := X.2.1
  have hl : lv_has ls 6 [(0, .ref (bd 0)), (1, .int v1), (2, .int v2)] := hl
  refine lv_aload_n (pc := 0) hx hb dX12_middleOf_0 rfl (lv_at hl 0 rfl) ?_
  refine lv_iload_n (pc := 1) hx hb dX12_middleOf_1 rfl (lv_at hl 1 rfl) ?_
  refine lv_iload_n (pc := 2) hx hb dX12_middleOf_2 rfl (lv_at hl 2 rfl) ?_
  obtain ⟨r_3, e_3, h⟩ := bnd_s h
  refine call_vi (pc := 3) (rest := []) [.int v1, .int v2] X Y (c_X12_countOf v1 v2 e_3) sw_X12_144 (rv_X12 X Y) rfl ⟨rfl, rfl, Nat.le_of_ble_eq_true rfl, Nat.le_of_ble_eq_true rfl⟩ hl rfl (Nat.le_of_ble_eq_true rfl) dX12_middleOf_3 (fun H locs Y => ?_)
  refine lv_iconst (pc := 6) (v := 1) hx hb dX12_middleOf_6 (by decide) ?_
  refine lv_iadd (pc := 7) hx hb dX12_middleOf_7 ?_
  refine lv_iconst (pc := 8) (v := 2) hx hb dX12_middleOf_8 (by decide) ?_
  refine lv_idiv (pc := 9) hx hb dX12_middleOf_9 (by decide) ?_
  obtain ⟨v3_10, ev3_10, h⟩ := lt_s_ h
  refine top_i ev3_10 ?_
  refine lv_istore_n (pc := 10) (lv' := [(3, .int v3_10), (0, .ref (bd 0)), (1, .int v1), (2, .int v2)]) hx hb dX12_middleOf_10 rfl hl (by decide) rfl (fun ls hl => ?_)
  refine lv_iconst (pc := 11) (v := 0) hx hb dX12_middleOf_11 (by decide) ?_
  refine lv_istore (pc := 12) (lv' := [(4, .int 0), (3, .int v3_10), (0, .ref (bd 0)), (1, .int v1), (2, .int v2)]) hx hb dX12_middleOf_12 hl (by decide) rfl (fun ls hl => ?_)
  refine WL_X12_middleOf_14 v1 v2 D X (fun H locs ls Y hl h => ?_) FU v3_10 0 H locs ls Y (lv_sub hl [2, 3, 4, 1, 0] rfl) h
  refine lv_bipush (pc := 87) (v := (-3)) hx hb dX12_middleOf_87 (by decide) ?_
  have hr9 := ret_p h
  exact fin_i (pc := 89) X rfl Y hr9 rfl rfl dX12_middleOf_89
abbrev rm_X12_manyNow : Room := { frames := 4, cells := 0, slots := 0, locals := 93 }
set_option maxHeartbeats 4000000 in
set_option maxRecDepth 100000 in
theorem c_X12_manyNow {r9 : Int32} (v1 : Int32) (v2 : Int32) (v3 : Int32) (h : f_X12_manyNow v1 v2 v3 D = some r9) : Ct l dC dI ad bd cI cZ yX12_manyNow cX12_manyNow 4 (some .int) rm_X12_manyNow [.ref (bd 0), .int v1, .int v2, .int v3] C D (some (.int r9)) C D := by
  unfold f_X12_manyNow at h
  refine Ct.intro (own := RX12) (by decide) rfl (Nat.le_of_ble_eq_true rfl) ?_
  intro p e s m args below meth c H locs ls X Y hl
  have hx := X.1
  have hb := X.2.1
  have hl : lv_has ls 4 [(0, .ref (bd 0)), (1, .int v1), (2, .int v2), (3, .int v3)] := hl
  refine lv_iload_n (pc := 0) hx hb dX12_manyNow_0 rfl (lv_at hl 3 rfl) ?_
  refine lv_if_ne (pc := 1) (tgt := 13) hx hb dX12_manyNow_1 (by decide) (fun c_1 => ?_) (fun c_1 => ?_)
  · have h := itn c_1 h
    refine lv_iload_n (pc := 13) hx hb dX12_manyNow_13 rfl (lv_at hl 3 rfl) ?_
    refine lv_iconst (pc := 14) (v := 1) hx hb dX12_manyNow_14 (by decide) ?_
    refine lv_icmp_ne (pc := 15) (tgt := 27) hx hb dX12_manyNow_15 (by decide) (fun c_15 => ?_) (fun c_15 => ?_)
    · have h := itn c_15 h
      refine lv_aload_n (pc := 27) hx hb dX12_manyNow_27 rfl (lv_at hl 0 rfl) ?_
      refine lv_iload_n (pc := 28) hx hb dX12_manyNow_28 rfl (lv_at hl 1 rfl) ?_
      refine lv_iload_n (pc := 29) hx hb dX12_manyNow_29 rfl (lv_at hl 2 rfl) ?_
      obtain ⟨r_30, e_30, h⟩ := bnd_s h
      refine call_vi (pc := 30) (rest := []) [.int v1, .int v2] X Y (c_X12_middleOf v1 v2 e_30) sw_X12_151 (rv_X12 X Y) rfl ⟨rfl, rfl, Nat.le_of_ble_eq_true rfl, Nat.le_of_ble_eq_true rfl⟩ hl rfl (Nat.le_of_ble_eq_true rfl) dX12_manyNow_30 (fun H locs Y => ?_)
      have hr9 := ret_p h
      exact fin_i (pc := 33) X rfl Y hr9 rfl rfl dX12_manyNow_33
    · have h := itp c_15 h
      refine lv_aload_n (pc := 18) hx hb dX12_manyNow_18 rfl (lv_at hl 0 rfl) ?_
      refine lv_iload_n (pc := 19) hx hb dX12_manyNow_19 rfl (lv_at hl 1 rfl) ?_
      refine lv_iload_n (pc := 20) hx hb dX12_manyNow_20 rfl (lv_at hl 2 rfl) ?_
      obtain ⟨r_21, e_21, h⟩ := bnd_s h
      refine call_vi (pc := 21) (rest := []) [.int v1, .int v2] X Y (c_X12_noesOf v1 v2 e_21) sw_X12_148 (rv_X12 X Y) rfl ⟨rfl, rfl, Nat.le_of_ble_eq_true rfl, Nat.le_of_ble_eq_true rfl⟩ hl rfl (Nat.le_of_ble_eq_true rfl) dX12_manyNow_21 (fun H locs Y => ?_)
      refine lv_goto (pc := 24) (tgt := 33) hx hb dX12_manyNow_24 (by decide) ?_
      have hr9 := ret_p h
      exact fin_i (pc := 33) X rfl Y hr9 rfl rfl dX12_manyNow_33
  · have h := itp c_1 h
    refine lv_aload_n (pc := 4) hx hb dX12_manyNow_4 rfl (lv_at hl 0 rfl) ?_
    refine lv_iload_n (pc := 5) hx hb dX12_manyNow_5 rfl (lv_at hl 1 rfl) ?_
    refine lv_iload_n (pc := 6) hx hb dX12_manyNow_6 rfl (lv_at hl 2 rfl) ?_
    obtain ⟨r_7, e_7, h⟩ := bnd_s h
    refine call_vi (pc := 7) (rest := []) [.int v1, .int v2] X Y (c_X12_countOf v1 v2 e_7) sw_X12_144 (rv_X12 X Y) rfl ⟨rfl, rfl, Nat.le_of_ble_eq_true rfl, Nat.le_of_ble_eq_true rfl⟩ hl rfl (Nat.le_of_ble_eq_true rfl) dX12_manyNow_7 (fun H locs Y => ?_)
    refine lv_goto (pc := 10) (tgt := 33) hx hb dX12_manyNow_10 (by decide) ?_
    have hr9 := ret_p h
    exact fin_i (pc := 33) X rfl Y hr9 rfl rfl dX12_manyNow_33
abbrev rm_X12_many : Room := { frames := 5, cells := 0, slots := 0, locals := 116 }
set_option maxHeartbeats 4000000 in
set_option maxRecDepth 100000 in
theorem c_X12_many {r9 : Int32} (v1 : Int32) (v2 : Int32) (v3 : Int32) (h : f_X12_many v1 v2 v3 D = some r9) : Ct l dC dI ad bd cI cZ yX12_many cX12_many 4 (some .int) rm_X12_many [.ref (bd 0), .int v1, .int v2, .int v3] C D (some (.int r9)) C D := by
  unfold f_X12_many at h
  refine Ct.intro (own := RX12) (by decide) rfl (Nat.le_of_ble_eq_true rfl) ?_
  intro p e s m args below meth c H locs ls X Y hl
  have hx := X.1
  have hb := X.2.1
  have hl : lv_has ls 4 [(0, .ref (bd 0)), (1, .int v1), (2, .int v2), (3, .int v3)] := hl
  refine lv_iload_n (pc := 0) hx hb dX12_many_0 rfl (lv_at hl 1 rfl) ?_
  refine call_si (pc := 1) (rest := []) [.int v1] X Y (c_X12_isAny v1) sw_X12_154 rfl ⟨rfl, rfl, Nat.le_of_ble_eq_true rfl, Nat.le_of_ble_eq_true rfl⟩ hl rfl (Nat.le_of_ble_eq_true rfl) dX12_many_1 (fun H locs Y => ?_)
  refine lv_if_eq (pc := 4) (tgt := 33) hx hb dX12_many_4 (by decide) (fun c_4 => ?_) (fun c_4 => ?_)
  · have h := itn (b2i_f c_4) h
    refine lv_bipush (pc := 33) (v := (-2)) hx hb dX12_many_33 (by decide) ?_
    have hr9 := ret_p h
    exact fin_i (pc := 35) X rfl Y hr9 rfl rfl dX12_many_35
  · have h := itp (b2i_t c_4) h
    refine lv_iload_n (pc := 7) hx hb dX12_many_7 rfl (lv_at hl 2 rfl) ?_
    refine call_si (pc := 8) (rest := []) [.int v2] X Y (c_X12_isKind v2) sw_X12_115 rfl ⟨rfl, rfl, Nat.le_of_ble_eq_true rfl, Nat.le_of_ble_eq_true rfl⟩ hl rfl (Nat.le_of_ble_eq_true rfl) dX12_many_8 (fun H locs Y => ?_)
    refine lv_if_eq (pc := 11) (tgt := 33) hx hb dX12_many_11 (by decide) (fun c_11 => ?_) (fun c_11 => ?_)
    · have h := itn (b2i_f c_11) h
      refine lv_bipush (pc := 33) (v := (-2)) hx hb dX12_many_33 (by decide) ?_
      have hr9 := ret_p h
      exact fin_i (pc := 35) X rfl Y hr9 rfl rfl dX12_many_35
    · have h := itp (b2i_t c_11) h
      refine lv_iload_n (pc := 14) hx hb dX12_many_14 rfl (lv_at hl 3 rfl) ?_
      refine lv_iconst (pc := 15) (v := 0) hx hb dX12_many_15 (by decide) ?_
      refine lv_iconst (pc := 16) (v := 2) hx hb dX12_many_16 (by decide) ?_
      refine call_si (pc := 17) (rest := []) [.int v3, .int 0, .int 2] X Y (c_X12_in v3 0 2) sw_X12_107 rfl ⟨rfl, rfl, Nat.le_of_ble_eq_true rfl, Nat.le_of_ble_eq_true rfl⟩ hl rfl (Nat.le_of_ble_eq_true rfl) dX12_many_17 (fun H locs Y => ?_)
      refine lv_if_eq (pc := 20) (tgt := 33) hx hb dX12_many_20 (by decide) (fun c_20 => ?_) (fun c_20 => ?_)
      · have h := itn (b2i_f c_20) h
        refine lv_bipush (pc := 33) (v := (-2)) hx hb dX12_many_33 (by decide) ?_
        have hr9 := ret_p h
        exact fin_i (pc := 35) X rfl Y hr9 rfl rfl dX12_many_35
      · have h := itp (b2i_t c_20) h
        refine lv_aload_n (pc := 23) hx hb dX12_many_23 rfl (lv_at hl 0 rfl) ?_
        refine lv_iload_n (pc := 24) hx hb dX12_many_24 rfl (lv_at hl 1 rfl) ?_
        refine lv_iload_n (pc := 25) hx hb dX12_many_25 rfl (lv_at hl 2 rfl) ?_
        refine lv_iload_n (pc := 26) hx hb dX12_many_26 rfl (lv_at hl 3 rfl) ?_
        obtain ⟨r_27, e_27, h⟩ := bnd_s h
        refine call_vi (pc := 27) (rest := []) [.int v1, .int v2, .int v3] X Y (c_X12_manyNow v1 v2 v3 e_27) sw_X12_157 (rv_X12 X Y) rfl ⟨rfl, rfl, Nat.le_of_ble_eq_true rfl, Nat.le_of_ble_eq_true rfl⟩ hl rfl (Nat.le_of_ble_eq_true rfl) dX12_many_27 (fun H locs Y => ?_)
        refine lv_goto (pc := 30) (tgt := 35) hx hb dX12_many_30 (by decide) ?_
        have hr9 := ret_p h
        exact fin_i (pc := 35) X rfl Y hr9 rfl rfl dX12_many_35
abbrev rm_X12_meanNow : Room := { frames := 3, cells := 0, slots := 0, locals := 68 }
set_option maxHeartbeats 4000000 in
set_option maxRecDepth 100000 in
theorem c_X12_meanNow {r9 : Int64} (v1 : Int32) (v2 : Int32) (v3 : Int32) (h : f_X12_meanNow v1 v2 v3 D = some r9) : Ct l dC dI ad bd cI cZ yX12_meanNow cX12_meanNow 5 (some .long) rm_X12_meanNow [.ref (bd 0), .int v1, .int v2, .int v3] C D (some (.long r9)) C D := by
  unfold f_X12_meanNow at h
  refine Ct.intro (own := RX12) (by decide) rfl (Nat.le_of_ble_eq_true rfl) ?_
  intro p e s m args below meth c H locs ls X Y hl
  have hx := X.1
  have hb := X.2.1
  have hl : lv_has ls 5 [(0, .ref (bd 0)), (1, .int v1), (2, .int v2), (3, .int v3)] := hl
  refine lv_aload_n (pc := 0) hx hb dX12_meanNow_0 rfl (lv_at hl 0 rfl) ?_
  refine lv_iload_n (pc := 1) hx hb dX12_meanNow_1 rfl (lv_at hl 1 rfl) ?_
  refine lv_iload_n (pc := 2) hx hb dX12_meanNow_2 rfl (lv_at hl 2 rfl) ?_
  obtain ⟨r_3, e_3, h⟩ := bnd_s h
  refine call_vi (pc := 3) (rest := []) [.int v1, .int v2] X Y (c_X12_countOf v1 v2 e_3) sw_X12_144 (rv_X12 X Y) rfl ⟨rfl, rfl, Nat.le_of_ble_eq_true rfl, Nat.le_of_ble_eq_true rfl⟩ hl rfl (Nat.le_of_ble_eq_true rfl) dX12_meanNow_3 (fun H locs Y => ?_)
  refine lv_istore (pc := 6) (lv' := [(4, .int r_3), (0, .ref (bd 0)), (1, .int v1), (2, .int v2), (3, .int v3)]) hx hb dX12_meanNow_6 hl (by decide) rfl (fun ls hl => ?_)
  refine lv_iload (pc := 8) hx hb dX12_meanNow_8 (lv_at hl 0 rfl) ?_
  refine lv_if_ne (pc := 10) (tgt := 21) hx hb dX12_meanNow_10 (by decide) (fun c_10 => ?_) (fun c_10 => ?_)
  · have h := itn c_10 h
    refine lv_aload_n (pc := 21) hx hb dX12_meanNow_21 rfl (lv_at hl 1 rfl) ?_
    refine lv_iload_n (pc := 22) hx hb dX12_meanNow_22 rfl (lv_at hl 2 rfl) ?_
    refine lv_iload_n (pc := 23) hx hb dX12_meanNow_23 rfl (lv_at hl 3 rfl) ?_
    obtain ⟨r_24, e_24, h⟩ := bnd_s h
    refine call_vi (pc := 24) (rest := []) [.int v1, .int v2] X Y (c_X12_sumOf v1 v2 e_24) sw_X12_165 (rv_X12 X Y) rfl ⟨rfl, rfl, Nat.le_of_ble_eq_true rfl, Nat.le_of_ble_eq_true rfl⟩ hl rfl (Nat.le_of_ble_eq_true rfl) dX12_meanNow_24 (fun H locs Y => ?_)
    refine lv_i2l (pc := 27) hx hb dX12_meanNow_27 rfl ?_
    refine lv_iload (pc := 28) hx hb dX12_meanNow_28 (lv_at hl 0 rfl) ?_
    refine lv_i2l (pc := 30) hx hb dX12_meanNow_30 rfl ?_
    refine lv_iload_n (pc := 31) hx hb dX12_meanNow_31 rfl (lv_at hl 4 rfl) ?_
    obtain ⟨r_32, e_32, h⟩ := bnd_s h
    refine call_sl (pc := 32) (rest := []) [.long (r_24.toInt64), .long (r_3.toInt64), .int v3] X Y (c_X12_lowest (r_24.toInt64) (r_3.toInt64) v3 e_32) sw_X12_168 rfl ⟨rfl, rfl, Nat.le_of_ble_eq_true rfl, Nat.le_of_ble_eq_true rfl⟩ hl rfl (Nat.le_of_ble_eq_true rfl) dX12_meanNow_32 (fun H locs Y => ?_)
    have hr9 := ret_p h
    exact fin_l (pc := 35) X rfl Y hr9 rfl rfl dX12_meanNow_35
  · have h := itp c_10 h
    refine lv_bipush (pc := 13) (v := (-3)) hx hb dX12_meanNow_13 (by decide) ?_
    refine call_sl (pc := 15) (rest := []) [.int (-3)] X Y (c_X12_no (-3)) sw_X12_161 rfl ⟨rfl, rfl, Nat.le_of_ble_eq_true rfl, Nat.le_of_ble_eq_true rfl⟩ hl rfl (Nat.le_of_ble_eq_true rfl) dX12_meanNow_15 (fun H locs Y => ?_)
    refine lv_goto (pc := 18) (tgt := 35) hx hb dX12_meanNow_18 (by decide) ?_
    have hr9 := ret_p h
    exact fin_l (pc := 35) X rfl Y hr9 rfl rfl dX12_meanNow_35
abbrev rm_X12_mean : Room := { frames := 4, cells := 0, slots := 0, locals := 92 }
set_option maxHeartbeats 4000000 in
set_option maxRecDepth 100000 in
theorem WB_X12_mean_33 {r9 : Int64} (D : Mem) (X : Cx p s m args meth c cX12_mean RX12 4 (some .long) dC dI ad bd cI cZ) {H : Heap} {locs : List Loc} {ls : Array Slot} (Y : Ys s dC dI ad bd cI cZ C D H locs) (hl : lv_has ls 4 []) (h : B_X12_mean_33 = some r9) : W p l e rm_X12_mean s m args below meth c H locs 0 0 (MQ below (QC (some (.long r9)) dC dI ad bd cI cZ C D) args s 0 0 (AD ad bd)) (F0 m 33 ls []) := by
  have hx := X.1
  have hb := X.2.1
  unfold B_X12_mean_33 at h
  refine lv_bipush (pc := 33) (v := (-2)) hx hb dX12_mean_33 (by decide) ?_
  refine call_sl (pc := 35) (rest := []) [.int (-2)] X Y (c_X12_no (-2)) sw_X12_161 rfl ⟨rfl, rfl, Nat.le_of_ble_eq_true rfl, Nat.le_of_ble_eq_true rfl⟩ hl rfl (Nat.le_of_ble_eq_true rfl) dX12_mean_35 (fun H locs Y => ?_)
  have hr9 := ret_p h
  exact fin_l (pc := 38) X rfl Y hr9 rfl rfl dX12_mean_38
set_option maxHeartbeats 4000000 in
set_option maxRecDepth 100000 in
theorem c_X12_mean {r9 : Int64} (v1 : Int32) (v2 : Int32) (v3 : Int32) (h : f_X12_mean v1 v2 v3 D = some r9) : Ct l dC dI ad bd cI cZ yX12_mean cX12_mean 4 (some .long) rm_X12_mean [.ref (bd 0), .int v1, .int v2, .int v3] C D (some (.long r9)) C D := by
  unfold f_X12_mean at h
  refine Ct.intro (own := RX12) (by decide) rfl (Nat.le_of_ble_eq_true rfl) ?_
  intro p e s m args below meth c H locs ls X Y hl
  have hx := X.1
  have hb := X.2.1
  have hl : lv_has ls 4 [(0, .ref (bd 0)), (1, .int v1), (2, .int v2), (3, .int v3)] := hl
  refine lv_iload_n (pc := 0) hx hb dX12_mean_0 rfl (lv_at hl 1 rfl) ?_
  refine call_si (pc := 1) (rest := []) [.int v1] X Y (c_X12_isAny v1) sw_X12_154 rfl ⟨rfl, rfl, Nat.le_of_ble_eq_true rfl, Nat.le_of_ble_eq_true rfl⟩ hl rfl (Nat.le_of_ble_eq_true rfl) dX12_mean_1 (fun H locs Y => ?_)
  refine lv_if_eq (pc := 4) (tgt := 33) hx hb dX12_mean_4 (by decide) (fun c_4 => ?_) (fun c_4 => ?_)
  · have h := itn (b2i_f c_4) h
    exact WB_X12_mean_33  D X Y (lv_sub hl [] rfl) h
  · have h := itp (b2i_t c_4) h
    refine lv_iload_n (pc := 7) hx hb dX12_mean_7 rfl (lv_at hl 2 rfl) ?_
    refine call_si (pc := 8) (rest := []) [.int v2] X Y (c_X12_isKind v2) sw_X12_115 rfl ⟨rfl, rfl, Nat.le_of_ble_eq_true rfl, Nat.le_of_ble_eq_true rfl⟩ hl rfl (Nat.le_of_ble_eq_true rfl) dX12_mean_8 (fun H locs Y => ?_)
    refine lv_if_eq (pc := 11) (tgt := 33) hx hb dX12_mean_11 (by decide) (fun c_11 => ?_) (fun c_11 => ?_)
    · have h := itn (b2i_f c_11) h
      exact WB_X12_mean_33  D X Y (lv_sub hl [] rfl) h
    · have h := itp (b2i_t c_11) h
      refine lv_iload_n (pc := 14) hx hb dX12_mean_14 rfl (lv_at hl 3 rfl) ?_
      refine lv_iconst (pc := 15) (v := 0) hx hb dX12_mean_15 (by decide) ?_
      refine lv_iconst (pc := 16) (v := 1) hx hb dX12_mean_16 (by decide) ?_
      refine call_si (pc := 17) (rest := []) [.int v3, .int 0, .int 1] X Y (c_X12_in v3 0 1) sw_X12_107 rfl ⟨rfl, rfl, Nat.le_of_ble_eq_true rfl, Nat.le_of_ble_eq_true rfl⟩ hl rfl (Nat.le_of_ble_eq_true rfl) dX12_mean_17 (fun H locs Y => ?_)
      refine lv_if_eq (pc := 20) (tgt := 33) hx hb dX12_mean_20 (by decide) (fun c_20 => ?_) (fun c_20 => ?_)
      · have h := itn (b2i_f c_20) h
        exact WB_X12_mean_33  D X Y (lv_sub hl [] rfl) h
      · have h := itp (b2i_t c_20) h
        refine lv_aload_n (pc := 23) hx hb dX12_mean_23 rfl (lv_at hl 0 rfl) ?_
        refine lv_iload_n (pc := 24) hx hb dX12_mean_24 rfl (lv_at hl 1 rfl) ?_
        refine lv_iload_n (pc := 25) hx hb dX12_mean_25 rfl (lv_at hl 2 rfl) ?_
        refine lv_iload_n (pc := 26) hx hb dX12_mean_26 rfl (lv_at hl 3 rfl) ?_
        obtain ⟨r_27, e_27, h⟩ := bnd_s h
        refine call_vl (pc := 27) (rest := []) [.int v1, .int v2, .int v3] X Y (c_X12_meanNow v1 v2 v3 e_27) sw_X12_172 (rv_X12 X Y) rfl ⟨rfl, rfl, Nat.le_of_ble_eq_true rfl, Nat.le_of_ble_eq_true rfl⟩ hl rfl (Nat.le_of_ble_eq_true rfl) dX12_mean_27 (fun H locs Y => ?_)
        refine lv_goto (pc := 30) (tgt := 38) hx hb dX12_mean_30 (by decide) ?_
        have hr9 := ret_p h
        exact fin_l (pc := 38) X rfl Y hr9 rfl rfl dX12_mean_38
abbrev rm_X12_refused : Room := { frames := 2, cells := 0, slots := 0, locals := 44 }
set_option maxHeartbeats 4000000 in
set_option maxRecDepth 100000 in
theorem WB_X12_refused_31 {r9 : Int64} (D : Mem) (X : Cx p s m args meth c cX12_refused RX12 9 (some .long) dC dI ad bd cI cZ) {H : Heap} {locs : List Loc} {ls : Array Slot} (Y : Ys s dC dI ad bd cI cZ C D H locs) (hl : lv_has ls 9 []) (h : B_X12_refused_31 = some r9) : W p l e rm_X12_refused s m args below meth c H locs 0 0 (MQ below (QC (some (.long r9)) dC dI ad bd cI cZ C D) args s 0 0 (AD ad bd)) (F0 m 31 ls []) := by
  have hx := X.1
  have hb := X.2.1
  unfold B_X12_refused_31 at h
  refine lv_bipush (pc := 31) (v := (-2)) hx hb dX12_refused_31 (by decide) ?_
  refine call_sl (pc := 33) (rest := []) [.int (-2)] X Y (c_X12_no (-2)) sw_X12_161 rfl ⟨rfl, rfl, Nat.le_of_ble_eq_true rfl, Nat.le_of_ble_eq_true rfl⟩ hl rfl (Nat.le_of_ble_eq_true rfl) dX12_refused_33 (fun H locs Y => ?_)
  have hr9 := ret_p h
  exact fin_l (pc := 36) X rfl Y hr9 rfl rfl dX12_refused_36
set_option maxHeartbeats 4000000 in
set_option maxRecDepth 100000 in
theorem WB_X12_refused_119 {r9 : Int64} (x0 : Int32) (x1 : Int32) (v1 : Int32) (v2 : Int32) (v3 : Int32) (v4 : Int32) (v5 : Int32) (v7 : Int32) (D : Mem) (X : Cx p s m args meth c cX12_refused RX12 9 (some .long) dC dI ad bd cI cZ) {kb : Int32 → Int32 → Int32 → Option Int64} (hkb : ∀ (v5' : Int32) (v6' : Int32) (v7' : Int32) (H : Heap) (locs : List Loc) (ls : Array Slot), Ys s dC dI ad bd cI cZ C D H locs → lv_has ls 9 [(0, .ref (bd 0)), (1, .int v1), (2, .int v2), (3, .int v3), (4, .int v4), (5, .int v5'), (6, .int v6'), (7, .int v7')] → kb v5' v6' v7' = some r9 → W p l e rm_X12_refused s m args below meth c H locs 0 0 (MQ below (QC (some (.long r9)) dC dI ad bd cI cZ C D) args s 0 0 (AD ad bd)) (F0 m 46 ls [])) {H : Heap} {locs : List Loc} {ls : Array Slot} (Y : Ys s dC dI ad bd cI cZ C D H locs) (hl : lv_has ls 9 [(0, .ref (bd 0)), (1, .int v1), (2, .int v2), (3, .int v3), (4, .int v4), (5, .int v5), (7, .int v7)]) (h : B_X12_refused_119 x0 x1 v5 v7 kb = some r9) : W p l e rm_X12_refused s m args below meth c H locs 0 0 (MQ below (QC (some (.long r9)) dC dI ad bd cI cZ C D) args s 0 0 (AD ad bd)) (F0 m 119 ls [.int x1, .int x0]) := by
  have hx := X.1
  have hb := X.2.1
  unfold B_X12_refused_119 at h
  refine lv_iadd (pc := 119) hx hb dX12_refused_119 ?_
  obtain ⟨v6_120, ev6_120, h⟩ := lt_s_ h
  refine top_i ev6_120 ?_
  refine lv_istore (pc := 120) (lv' := [(6, .int v6_120), (0, .ref (bd 0)), (1, .int v1), (2, .int v2), (3, .int v3), (4, .int v4), (5, .int v5), (7, .int v7)]) hx hb dX12_refused_120 hl (by decide) rfl (fun ls hl => ?_)
  obtain ⟨v7_122, ev7_122, h⟩ := lt_s_ h
  refine lv_iinc (pc := 122) (v := v7_122) (lv' := [(7, .int v7_122), (6, .int v6_120), (0, .ref (bd 0)), (1, .int v1), (2, .int v2), (3, .int v3), (4, .int v4), (5, .int v5)]) hx hb dX12_refused_122 hl (k := 7) rfl (by rw [ev7_122]; rfl) (by decide) rfl (fun ls hl => ?_)
  refine lv_goto (pc := 125) (tgt := 46) hx hb dX12_refused_125 (by decide) ?_
  exact hkb v5 v6_120 v7_122 H locs ls Y (lv_sub hl [2, 3, 4, 5, 6, 7, 1, 0] rfl) h
set_option maxHeartbeats 4000000 in
set_option maxRecDepth 100000 in
theorem WB_X12_refused_96 {r9 : Int64} (x0 : Int32) (x1 : Int32) (v1 : Int32) (v2 : Int32) (v3 : Int32) (v4 : Int32) (v6 : Int32) (v7 : Int32) (v8 : Int32) (D : Mem) (X : Cx p s m args meth c cX12_refused RX12 9 (some .long) dC dI ad bd cI cZ) {kb : Int32 → Int32 → Int32 → Option Int64} (hkb : ∀ (v5' : Int32) (v6' : Int32) (v7' : Int32) (H : Heap) (locs : List Loc) (ls : Array Slot), Ys s dC dI ad bd cI cZ C D H locs → lv_has ls 9 [(0, .ref (bd 0)), (1, .int v1), (2, .int v2), (3, .int v3), (4, .int v4), (5, .int v5'), (6, .int v6'), (7, .int v7')] → kb v5' v6' v7' = some r9 → W p l e rm_X12_refused s m args below meth c H locs 0 0 (MQ below (QC (some (.long r9)) dC dI ad bd cI cZ C D) args s 0 0 (AD ad bd)) (F0 m 46 ls [])) {H : Heap} {locs : List Loc} {ls : Array Slot} (Y : Ys s dC dI ad bd cI cZ C D H locs) (hl : lv_has ls 9 [(0, .ref (bd 0)), (1, .int v1), (2, .int v2), (3, .int v3), (4, .int v4), (6, .int v6), (7, .int v7), (8, .int v8)]) (h : B_X12_refused_96 x0 x1 v6 v7 v8 D kb = some r9) : W p l e rm_X12_refused s m args below meth c H locs 0 0 (MQ below (QC (some (.long r9)) dC dI ad bd cI cZ C D) args s 0 0 (AD ad bd)) (F0 m 96 ls [.int x1, .int x0]) := by
  have hx := X.1
  have hb := X.2.1
  unfold B_X12_refused_96 at h
  refine lv_iadd (pc := 96) hx hb dX12_refused_96 ?_
  obtain ⟨v5_97, ev5_97, h⟩ := lt_s_ h
  refine top_i ev5_97 ?_
  refine lv_istore (pc := 97) (lv' := [(5, .int v5_97), (0, .ref (bd 0)), (1, .int v1), (2, .int v2), (3, .int v3), (4, .int v4), (6, .int v6), (7, .int v7), (8, .int v8)]) hx hb dX12_refused_97 hl (by decide) rfl (fun ls hl => ?_)
  refine lv_iload (pc := 99) hx hb dX12_refused_99 (lv_at hl 6 rfl) ?_
  refine lv_iload (pc := 101) hx hb dX12_refused_101 (lv_at hl 8 rfl) ?_
  refine lv_if_eq (pc := 103) (tgt := 118) hx hb dX12_refused_103 (by decide) (fun c_103 => ?_) (fun c_103 => ?_)
  · have h := itp c_103 h
    refine lv_iconst (pc := 118) (v := 0) hx hb dX12_refused_118 (by decide) ?_
    exact WB_X12_refused_119 v6 0 v1 v2 v3 v4 v5_97 v7 D X (kb := kb) hkb Y (lv_sub hl [1, 2, 3, 4, 5, 0, 7] rfl) h
  · have h := itn c_103 h
    refine lv_iconst (pc := 106) (v := 1) hx hb dX12_refused_106 (by decide) ?_
    refine lv_aload_n (pc := 107) hx hb dX12_refused_107 rfl (lv_at hl 1 rfl) ?_
    refine gf_X12_19 (pc := 108) X Y dX12_refused_108 ?_
    refine lv_iload (pc := 111) hx hb dX12_refused_111 (lv_at hl 7 rfl) ?_
    obtain ⟨g_113, h⟩ := gd_s h
    refine r_ialdm (pc := 113) X Y (cm_4 bd cI cZ) g_113 dX12_refused_113 ?_
    refine lv_isub (pc := 114) hx hb dX12_refused_114 ?_
    refine lv_goto (pc := 115) (tgt := 119) hx hb dX12_refused_115 (by decide) ?_
    exact WB_X12_refused_119 v6 (1 - (D 4 v7.toNatClampNeg)) v1 v2 v3 v4 v5_97 v7 D X (kb := kb) hkb Y (lv_sub hl [1, 2, 3, 4, 5, 0, 7] rfl) h
set_option maxHeartbeats 4000000 in
set_option maxRecDepth 100000 in
theorem WB_X12_refused_82 {r9 : Int64} (x0 : Int32) (v1 : Int32) (v2 : Int32) (v3 : Int32) (v4 : Int32) (v5 : Int32) (v6 : Int32) (v7 : Int32) (D : Mem) (X : Cx p s m args meth c cX12_refused RX12 9 (some .long) dC dI ad bd cI cZ) {kb : Int32 → Int32 → Int32 → Option Int64} (hkb : ∀ (v5' : Int32) (v6' : Int32) (v7' : Int32) (H : Heap) (locs : List Loc) (ls : Array Slot), Ys s dC dI ad bd cI cZ C D H locs → lv_has ls 9 [(0, .ref (bd 0)), (1, .int v1), (2, .int v2), (3, .int v3), (4, .int v4), (5, .int v5'), (6, .int v6'), (7, .int v7')] → kb v5' v6' v7' = some r9 → W p l e rm_X12_refused s m args below meth c H locs 0 0 (MQ below (QC (some (.long r9)) dC dI ad bd cI cZ C D) args s 0 0 (AD ad bd)) (F0 m 46 ls [])) {H : Heap} {locs : List Loc} {ls : Array Slot} (Y : Ys s dC dI ad bd cI cZ C D H locs) (hl : lv_has ls 9 [(0, .ref (bd 0)), (1, .int v1), (2, .int v2), (3, .int v3), (4, .int v4), (5, .int v5), (6, .int v6), (7, .int v7)]) (h : B_X12_refused_82 x0 v5 v6 v7 D kb = some r9) : W p l e rm_X12_refused s m args below meth c H locs 0 0 (MQ below (QC (some (.long r9)) dC dI ad bd cI cZ C D) args s 0 0 (AD ad bd)) (F0 m 82 ls [.int x0]) := by
  have hx := X.1
  have hb := X.2.1
  unfold B_X12_refused_82 at h
  refine lv_istore (pc := 82) (lv' := [(8, .int x0), (0, .ref (bd 0)), (1, .int v1), (2, .int v2), (3, .int v3), (4, .int v4), (5, .int v5), (6, .int v6), (7, .int v7)]) hx hb dX12_refused_82 hl (by decide) rfl (fun ls hl => ?_)
  refine lv_iload (pc := 84) hx hb dX12_refused_84 (lv_at hl 6 rfl) ?_
  refine lv_iload (pc := 86) hx hb dX12_refused_86 (lv_at hl 0 rfl) ?_
  refine lv_if_eq (pc := 88) (tgt := 95) hx hb dX12_refused_88 (by decide) (fun c_88 => ?_) (fun c_88 => ?_)
  · have h := itp c_88 h
    refine lv_iconst (pc := 95) (v := 0) hx hb dX12_refused_95 (by decide) ?_
    exact WB_X12_refused_96 v5 0 v1 v2 v3 v4 v6 v7 x0 D X (kb := kb) hkb Y (lv_sub hl [1, 2, 3, 4, 5, 7, 8, 0] rfl) h
  · have h := itn c_88 h
    refine lv_iconst (pc := 91) (v := 1) hx hb dX12_refused_91 (by decide) ?_
    refine lv_goto (pc := 92) (tgt := 96) hx hb dX12_refused_92 (by decide) ?_
    exact WB_X12_refused_96 v5 1 v1 v2 v3 v4 v6 v7 x0 D X (kb := kb) hkb Y (lv_sub hl [1, 2, 3, 4, 5, 7, 8, 0] rfl) h
set_option maxHeartbeats 4000000 in
set_option maxRecDepth 100000 in
theorem WB_X12_refused_81 {r9 : Int64} (v1 : Int32) (v2 : Int32) (v3 : Int32) (v4 : Int32) (v5 : Int32) (v6 : Int32) (v7 : Int32) (D : Mem) (X : Cx p s m args meth c cX12_refused RX12 9 (some .long) dC dI ad bd cI cZ) {kb : Int32 → Int32 → Int32 → Option Int64} (hkb : ∀ (v5' : Int32) (v6' : Int32) (v7' : Int32) (H : Heap) (locs : List Loc) (ls : Array Slot), Ys s dC dI ad bd cI cZ C D H locs → lv_has ls 9 [(0, .ref (bd 0)), (1, .int v1), (2, .int v2), (3, .int v3), (4, .int v4), (5, .int v5'), (6, .int v6'), (7, .int v7')] → kb v5' v6' v7' = some r9 → W p l e rm_X12_refused s m args below meth c H locs 0 0 (MQ below (QC (some (.long r9)) dC dI ad bd cI cZ C D) args s 0 0 (AD ad bd)) (F0 m 46 ls [])) {H : Heap} {locs : List Loc} {ls : Array Slot} (Y : Ys s dC dI ad bd cI cZ C D H locs) (hl : lv_has ls 9 [(0, .ref (bd 0)), (1, .int v1), (2, .int v2), (3, .int v3), (4, .int v4), (5, .int v5), (6, .int v6), (7, .int v7)]) (h : B_X12_refused_81 v5 v6 v7 D kb = some r9) : W p l e rm_X12_refused s m args below meth c H locs 0 0 (MQ below (QC (some (.long r9)) dC dI ad bd cI cZ C D) args s 0 0 (AD ad bd)) (F0 m 81 ls []) := by
  have hx := X.1
  have hb := X.2.1
  unfold B_X12_refused_81 at h
  refine lv_iconst (pc := 81) (v := 0) hx hb dX12_refused_81 (by decide) ?_
  exact WB_X12_refused_82 0 v1 v2 v3 v4 v5 v6 v7 D X (kb := kb) hkb Y (lv_sub hl [0, 1, 2, 3, 4, 5, 6, 7] rfl) h
set_option maxHeartbeats 4000000 in
set_option maxRecDepth 100000 in
theorem WL_X12_refused_46 {r9 : Int64} (v1 : Int32) (v2 : Int32) (v3 : Int32) (v4 : Int32) (D : Mem) (X : Cx p s m args meth c cX12_refused RX12 9 (some .long) dC dI ad bd cI cZ) {kx : Int32 → Int32 → Option Int64} (hkx : ∀ (v5' : Int32) (v6' : Int32) (H : Heap) (locs : List Loc) (ls : Array Slot), Ys s dC dI ad bd cI cZ C D H locs → lv_has ls 9 [(4, .int v4), (5, .int v5'), (6, .int v6')] → kx v5' v6' = some r9 → W p l e rm_X12_refused s m args below meth c H locs 0 0 (MQ below (QC (some (.long r9)) dC dI ad bd cI cZ C D) args s 0 0 (AD ad bd)) (F0 m 128 ls [])) : ∀ (n_ : Nat) (v5 : Int32) (v6 : Int32) (v7 : Int32) (H : Heap) (locs : List Loc) (ls : Array Slot), Ys s dC dI ad bd cI cZ C D H locs → lv_has ls 9 [(0, .ref (bd 0)), (1, .int v1), (2, .int v2), (3, .int v3), (4, .int v4), (5, .int v5), (6, .int v6), (7, .int v7)] → L_X12_refused_46 v1 v2 v3 D kx n_ v5 v6 v7 = some r9 → W p l e rm_X12_refused s m args below meth c H locs 0 0 (MQ below (QC (some (.long r9)) dC dI ad bd cI cZ C D) args s 0 0 (AD ad bd)) (F0 m 46 ls []) := by
  have hx := X.1
  have hb := X.2.1
  intro n_
  induction n_ with
  | zero =>
    intro v5 v6 v7 H locs ls Y hl h
    cases h
  | succ n_ ih =>
    intro v5 v6 v7 H locs ls Y hl h
    unfold L_X12_refused_46 at h
    refine lv_iload (pc := 46) hx hb dX12_refused_46 (lv_at hl 7 rfl) ?_
    refine lv_aload_n (pc := 48) hx hb dX12_refused_48 rfl (lv_at hl 0 rfl) ?_
    refine gf_X12_124 (pc := 49) X Y dX12_refused_49 ?_
    refine lv_icmp_ge (pc := 52) (tgt := 128) hx hb dX12_refused_52 (by decide) (fun c_52 => ?_) (fun c_52 => ?_)
    · have h := itp c_52 h
      exact hkx v5 v6 H locs ls Y (lv_sub hl [4, 5, 6] rfl) h
    · have h := itn c_52 h
      refine lv_aload_n (pc := 55) hx hb dX12_refused_55 rfl (lv_at hl 0 rfl) ?_
      refine lv_iload (pc := 56) hx hb dX12_refused_56 (lv_at hl 7 rfl) ?_
      refine lv_iload_n (pc := 58) hx hb dX12_refused_58 rfl (lv_at hl 1 rfl) ?_
      refine lv_iload_n (pc := 59) hx hb dX12_refused_59 rfl (lv_at hl 2 rfl) ?_
      obtain ⟨r_60, e_60, h⟩ := bnd_s h
      refine call_vi (pc := 60) (rest := []) [.int v7, .int v1, .int v2] X Y (c_X12_isOf v7 v1 v2 e_60) sw_X12_141 (rv_X12 X Y) rfl ⟨rfl, rfl, Nat.le_of_ble_eq_true rfl, Nat.le_of_ble_eq_true rfl⟩ hl rfl (Nat.le_of_ble_eq_true rfl) dX12_refused_60 (fun H locs Y => ?_)
      refine lv_if_eq (pc := 63) (tgt := 81) hx hb dX12_refused_63 (by decide) (fun c_63 => ?_) (fun c_63 => ?_)
      · have h := itn (b2i_f c_63) h
        exact WB_X12_refused_81 v1 v2 v3 v4 v5 v6 v7 D X (kb := (L_X12_refused_46 v1 v2 v3 D kx n_)) ih Y (lv_sub hl [0, 1, 2, 3, 4, 5, 6, 7] rfl) h
      · have h := itp (b2i_t c_63) h
        refine lv_aload_n (pc := 66) hx hb dX12_refused_66 rfl (lv_at hl 0 rfl) ?_
        refine gf_X12_16 (pc := 67) X Y dX12_refused_67 ?_
        refine lv_iload (pc := 70) hx hb dX12_refused_70 (lv_at hl 7 rfl) ?_
        obtain ⟨g_72, h⟩ := gd_s h
        refine r_ialdm (pc := 72) X Y (cm_3 bd cI cZ) g_72 dX12_refused_72 ?_
        refine lv_iload_n (pc := 73) hx hb dX12_refused_73 rfl (lv_at hl 3 rfl) ?_
        refine lv_icmp_ne (pc := 74) (tgt := 81) hx hb dX12_refused_74 (by decide) (fun c_74 => ?_) (fun c_74 => ?_)
        · have h := itn c_74 h
          exact WB_X12_refused_81 v1 v2 v3 v4 v5 v6 v7 D X (kb := (L_X12_refused_46 v1 v2 v3 D kx n_)) ih Y (lv_sub hl [0, 1, 2, 3, 4, 5, 6, 7] rfl) h
        · have h := itp c_74 h
          refine lv_iconst (pc := 77) (v := 1) hx hb dX12_refused_77 (by decide) ?_
          refine lv_goto (pc := 78) (tgt := 82) hx hb dX12_refused_78 (by decide) ?_
          exact WB_X12_refused_82 1 v1 v2 v3 v4 v5 v6 v7 D X (kb := (L_X12_refused_46 v1 v2 v3 D kx n_)) ih Y (lv_sub hl [0, 1, 2, 3, 4, 5, 6, 7] rfl) h
set_option maxHeartbeats 4000000 in
set_option maxRecDepth 100000 in
theorem c_X12_refused {r9 : Int64} (v1 : Int32) (v2 : Int32) (v3 : Int32) (v4 : Int32) (h : f_X12_refused v1 v2 v3 v4 D = some r9) : Ct l dC dI ad bd cI cZ yX12_refused cX12_refused 9 (some .long) rm_X12_refused [.ref (bd 0), .int v1, .int v2, .int v3, .int v4] C D (some (.long r9)) C D := by
  unfold f_X12_refused at h
  refine Ct.intro (own := RX12) (by decide) rfl (Nat.le_of_ble_eq_true rfl) ?_
  intro p e s m args below meth c H locs ls X Y hl
  have hx := X.1
  have hb := X.2.1
  have hl : lv_has ls 9 [(0, .ref (bd 0)), (1, .int v1), (2, .int v2), (3, .int v3), (4, .int v4)] := hl
  refine lv_iload_n (pc := 0) hx hb dX12_refused_0 rfl (lv_at hl 1 rfl) ?_
  refine call_si (pc := 1) (rest := []) [.int v1] X Y (c_X12_isAny v1) sw_X12_154 rfl ⟨rfl, rfl, Nat.le_of_ble_eq_true rfl, Nat.le_of_ble_eq_true rfl⟩ hl rfl (Nat.le_of_ble_eq_true rfl) dX12_refused_1 (fun H locs Y => ?_)
  refine lv_if_eq (pc := 4) (tgt := 31) hx hb dX12_refused_4 (by decide) (fun c_4 => ?_) (fun c_4 => ?_)
  · have h := itn (b2i_f c_4) h
    exact WB_X12_refused_31  D X Y (lv_sub hl [] rfl) h
  · have h := itp (b2i_t c_4) h
    refine lv_iload_n (pc := 7) hx hb dX12_refused_7 rfl (lv_at hl 2 rfl) ?_
    refine call_si (pc := 8) (rest := []) [.int v2] X Y (c_X12_isKind v2) sw_X12_115 rfl ⟨rfl, rfl, Nat.le_of_ble_eq_true rfl, Nat.le_of_ble_eq_true rfl⟩ hl rfl (Nat.le_of_ble_eq_true rfl) dX12_refused_8 (fun H locs Y => ?_)
    refine lv_if_eq (pc := 11) (tgt := 31) hx hb dX12_refused_11 (by decide) (fun c_11 => ?_) (fun c_11 => ?_)
    · have h := itn (b2i_f c_11) h
      exact WB_X12_refused_31  D X Y (lv_sub hl [] rfl) h
    · have h := itp (b2i_t c_11) h
      refine lv_iload_n (pc := 14) hx hb dX12_refused_14 rfl (lv_at hl 3 rfl) ?_
      refine call_si (pc := 15) (rest := []) [.int v3] X Y (c_X12_isOffer v3) sw_X12_118 rfl ⟨rfl, rfl, Nat.le_of_ble_eq_true rfl, Nat.le_of_ble_eq_true rfl⟩ hl rfl (Nat.le_of_ble_eq_true rfl) dX12_refused_15 (fun H locs Y => ?_)
      refine lv_if_eq (pc := 18) (tgt := 31) hx hb dX12_refused_18 (by decide) (fun c_18 => ?_) (fun c_18 => ?_)
      · have h := itn (b2i_f c_18) h
        exact WB_X12_refused_31  D X Y (lv_sub hl [] rfl) h
      · have h := itp (b2i_t c_18) h
        refine lv_iload (pc := 21) hx hb dX12_refused_21 (lv_at hl 4 rfl) ?_
        refine lv_iconst (pc := 23) (v := 0) hx hb dX12_refused_23 (by decide) ?_
        refine lv_iconst (pc := 24) (v := 1) hx hb dX12_refused_24 (by decide) ?_
        refine call_si (pc := 25) (rest := []) [.int v4, .int 0, .int 1] X Y (c_X12_in v4 0 1) sw_X12_107 rfl ⟨rfl, rfl, Nat.le_of_ble_eq_true rfl, Nat.le_of_ble_eq_true rfl⟩ hl rfl (Nat.le_of_ble_eq_true rfl) dX12_refused_25 (fun H locs Y => ?_)
        refine lv_if_ne (pc := 28) (tgt := 37) hx hb dX12_refused_28 (by decide) (fun c_28 => ?_) (fun c_28 => ?_)
        · have h := itp (b2i_t c_28) h
          refine lv_iconst (pc := 37) (v := 0) hx hb dX12_refused_37 (by decide) ?_
          refine lv_istore (pc := 38) (lv' := [(5, .int 0), (0, .ref (bd 0)), (1, .int v1), (2, .int v2), (3, .int v3), (4, .int v4)]) hx hb dX12_refused_38 hl (by decide) rfl (fun ls hl => ?_)
          refine lv_iconst (pc := 40) (v := 0) hx hb dX12_refused_40 (by decide) ?_
          refine lv_istore (pc := 41) (lv' := [(6, .int 0), (5, .int 0), (0, .ref (bd 0)), (1, .int v1), (2, .int v2), (3, .int v3), (4, .int v4)]) hx hb dX12_refused_41 hl (by decide) rfl (fun ls hl => ?_)
          refine lv_iconst (pc := 43) (v := 0) hx hb dX12_refused_43 (by decide) ?_
          refine lv_istore (pc := 44) (lv' := [(7, .int 0), (6, .int 0), (5, .int 0), (0, .ref (bd 0)), (1, .int v1), (2, .int v2), (3, .int v3), (4, .int v4)]) hx hb dX12_refused_44 hl (by decide) rfl (fun ls hl => ?_)
          refine WL_X12_refused_46 v1 v2 v3 v4 D X (fun v5_128 v6_128 H locs ls Y hl h => ?_) FU 0 0 0 H locs ls Y (lv_sub hl [3, 4, 5, 6, 7, 2, 1, 0] rfl) h
          refine lv_iload (pc := 128) hx hb dX12_refused_128 (lv_at hl 1 rfl) ?_
          refine lv_if_ne (pc := 130) (tgt := 141) hx hb dX12_refused_130 (by decide) (fun c_130 => ?_) (fun c_130 => ?_)
          · have h := itn c_130 h
            refine lv_iload (pc := 141) hx hb dX12_refused_141 (lv_at hl 2 rfl) ?_
            refine lv_i2l (pc := 143) hx hb dX12_refused_143 rfl ?_
            refine lv_iload (pc := 144) hx hb dX12_refused_144 (lv_at hl 1 rfl) ?_
            refine lv_i2l (pc := 146) hx hb dX12_refused_146 rfl ?_
            refine lv_iload (pc := 147) hx hb dX12_refused_147 (lv_at hl 0 rfl) ?_
            obtain ⟨r_149, e_149, h⟩ := bnd_s h
            refine call_sl (pc := 149) (rest := []) [.long (v6_128.toInt64), .long (v5_128.toInt64), .int v4] X Y (c_X12_lowest (v6_128.toInt64) (v5_128.toInt64) v4 e_149) sw_X12_168 rfl ⟨rfl, rfl, Nat.le_of_ble_eq_true rfl, Nat.le_of_ble_eq_true rfl⟩ hl rfl (Nat.le_of_ble_eq_true rfl) dX12_refused_149 (fun H locs Y => ?_)
            have hr9 := ret_p h
            exact fin_l (pc := 152) X rfl Y hr9 rfl rfl dX12_refused_152
          · have h := itp c_130 h
            refine lv_bipush (pc := 133) (v := (-3)) hx hb dX12_refused_133 (by decide) ?_
            refine call_sl (pc := 135) (rest := []) [.int (-3)] X Y (c_X12_no (-3)) sw_X12_161 rfl ⟨rfl, rfl, Nat.le_of_ble_eq_true rfl, Nat.le_of_ble_eq_true rfl⟩ hl rfl (Nat.le_of_ble_eq_true rfl) dX12_refused_135 (fun H locs Y => ?_)
            refine lv_goto (pc := 138) (tgt := 152) hx hb dX12_refused_138 (by decide) ?_
            have hr9 := ret_p h
            exact fin_l (pc := 152) X rfl Y hr9 rfl rfl dX12_refused_152
        · have h := itn (b2i_f c_28) h
          exact WB_X12_refused_31  D X Y (lv_sub hl [] rfl) h
abbrev rm_X12_moves : Room := { frames := 3, cells := 0, slots := 0, locals := 68 }
set_option maxHeartbeats 4000000 in
set_option maxRecDepth 100000 in
theorem WB_X12_moves_25 {r9 : Int64} (D : Mem) (X : Cx p s m args meth c cX12_moves RX12 14 (some .long) dC dI ad bd cI cZ) {H : Heap} {locs : List Loc} {ls : Array Slot} (Y : Ys s dC dI ad bd cI cZ C D H locs) (hl : lv_has ls 14 []) (h : B_X12_moves_25 = some r9) : W p l e rm_X12_moves s m args below meth c H locs 0 0 (MQ below (QC (some (.long r9)) dC dI ad bd cI cZ C D) args s 0 0 (AD ad bd)) (F0 m 25 ls []) := by
  have hx := X.1
  have hb := X.2.1
  unfold B_X12_moves_25 at h
  refine lv_bipush (pc := 25) (v := (-2)) hx hb dX12_moves_25 (by decide) ?_
  refine call_sl (pc := 27) (rest := []) [.int (-2)] X Y (c_X12_no (-2)) sw_X12_161 rfl ⟨rfl, rfl, Nat.le_of_ble_eq_true rfl, Nat.le_of_ble_eq_true rfl⟩ hl rfl (Nat.le_of_ble_eq_true rfl) dX12_moves_27 (fun H locs Y => ?_)
  have hr9 := ret_p h
  exact fin_l (pc := 30) X rfl Y hr9 rfl rfl dX12_moves_30
set_option maxHeartbeats 4000000 in
set_option maxRecDepth 100000 in
theorem WB_X12_moves_97 {r9 : Int64} (D : Mem) (X : Cx p s m args meth c cX12_moves RX12 14 (some .long) dC dI ad bd cI cZ) {H : Heap} {locs : List Loc} {ls : Array Slot} (Y : Ys s dC dI ad bd cI cZ C D H locs) (hl : lv_has ls 14 []) (h : B_X12_moves_97 = some r9) : W p l e rm_X12_moves s m args below meth c H locs 0 0 (MQ below (QC (some (.long r9)) dC dI ad bd cI cZ C D) args s 0 0 (AD ad bd)) (F0 m 97 ls []) := by
  have hx := X.1
  have hb := X.2.1
  unfold B_X12_moves_97 at h
  refine lv_bipush (pc := 97) (v := (-3)) hx hb dX12_moves_97 (by decide) ?_
  refine call_sl (pc := 99) (rest := []) [.int (-3)] X Y (c_X12_no (-3)) sw_X12_161 rfl ⟨rfl, rfl, Nat.le_of_ble_eq_true rfl, Nat.le_of_ble_eq_true rfl⟩ hl rfl (Nat.le_of_ble_eq_true rfl) dX12_moves_99 (fun H locs Y => ?_)
  have hr9 := ret_p h
  exact fin_l (pc := 102) X rfl Y hr9 rfl rfl dX12_moves_102
set_option maxHeartbeats 4000000 in
set_option maxRecDepth 100000 in
theorem WB_X12_moves_153 {r9 : Int64} (x0 : Int64) (v3 : Int32) (v6 : Int64) (v8 : Int64) (v10 : Int64) (D : Mem) (X : Cx p s m args meth c cX12_moves RX12 14 (some .long) dC dI ad bd cI cZ) {H : Heap} {locs : List Loc} {ls : Array Slot} (Y : Ys s dC dI ad bd cI cZ C D H locs) (hl : lv_has ls 14 [(3, .int v3), (6, .long v6), (8, .long v8), (10, .long v10)]) (h : B_X12_moves_153 x0 v3 v6 v8 v10 = some r9) : W p l e rm_X12_moves s m args below meth c H locs 0 0 (MQ below (QC (some (.long r9)) dC dI ad bd cI cZ C D) args s 0 0 (AD ad bd)) (F0 m 153 ls [.long x0]) := by
  have hx := X.1
  have hb := X.2.1
  unfold B_X12_moves_153 at h
  refine lv_lstore (pc := 153) (lv' := [(12, .long x0), (3, .int v3), (6, .long v6), (8, .long v8), (10, .long v10)]) hx hb dX12_moves_153 hl (by decide) rfl (fun ls hl => ?_)
  refine lv_lload (pc := 155) hx hb dX12_moves_155 (lv_at hl 4 rfl) ?_
  refine lv_lload (pc := 157) hx hb dX12_moves_157 (lv_at hl 3 rfl) ?_
  refine lv_lmul (pc := 159) hx hb dX12_moves_159 ?_
  refine lv_lload (pc := 160) hx hb dX12_moves_160 (lv_at hl 0 rfl) ?_
  refine lv_lload (pc := 162) hx hb dX12_moves_162 (lv_at hl 2 rfl) ?_
  refine lv_lmul (pc := 164) hx hb dX12_moves_164 ?_
  refine lv_lsub (pc := 165) hx hb dX12_moves_165 ?_
  refine lv_lload (pc := 166) hx hb dX12_moves_166 (lv_at hl 2 rfl) ?_
  refine lv_lload (pc := 168) hx hb dX12_moves_168 (lv_at hl 3 rfl) ?_
  refine lv_lmul (pc := 170) hx hb dX12_moves_170 ?_
  refine lv_iload_n (pc := 171) hx hb dX12_moves_171 rfl (lv_at hl 1 rfl) ?_
  obtain ⟨r_172, e_172, h⟩ := bnd_s h
  refine call_sl (pc := 172) (rest := []) [.long ((v10 * v8) - (x0 * v6)), .long (v6 * v8), .int v3] X Y (c_X12_lowest ((v10 * v8) - (x0 * v6)) (v6 * v8) v3 e_172) sw_X12_168 rfl ⟨rfl, rfl, Nat.le_of_ble_eq_true rfl, Nat.le_of_ble_eq_true rfl⟩ hl rfl (Nat.le_of_ble_eq_true rfl) dX12_moves_172 (fun H locs Y => ?_)
  have hr9 := ret_p h
  exact fin_l (pc := 175) X rfl Y hr9 rfl rfl dX12_moves_175
set_option maxHeartbeats 4000000 in
set_option maxRecDepth 100000 in
theorem WB_X12_moves_127 {r9 : Int64} (x0 : Int64) (v1 : Int32) (v2 : Int32) (v3 : Int32) (v5 : Int32) (v6 : Int64) (v8 : Int64) (D : Mem) (X : Cx p s m args meth c cX12_moves RX12 14 (some .long) dC dI ad bd cI cZ) {H : Heap} {locs : List Loc} {ls : Array Slot} (Y : Ys s dC dI ad bd cI cZ C D H locs) (hl : lv_has ls 14 [(0, .ref (bd 0)), (1, .int v1), (2, .int v2), (3, .int v3), (5, .int v5), (6, .long v6), (8, .long v8)]) (h : B_X12_moves_127 x0 v1 v2 v3 v5 v6 v8 D = some r9) : W p l e rm_X12_moves s m args below meth c H locs 0 0 (MQ below (QC (some (.long r9)) dC dI ad bd cI cZ C D) args s 0 0 (AD ad bd)) (F0 m 127 ls [.long x0]) := by
  have hx := X.1
  have hb := X.2.1
  unfold B_X12_moves_127 at h
  refine lv_lstore (pc := 127) (lv' := [(10, .long x0), (0, .ref (bd 0)), (1, .int v1), (2, .int v2), (3, .int v3), (5, .int v5), (6, .long v6), (8, .long v8)]) hx hb dX12_moves_127 hl (by decide) rfl (fun ls hl => ?_)
  refine lv_iload_n (pc := 129) hx hb dX12_moves_129 rfl (lv_at hl 3 rfl) ?_
  refine lv_iconst (pc := 130) (v := 2) hx hb dX12_moves_130 (by decide) ?_
  refine lv_icmp_ne (pc := 131) (tgt := 145) hx hb dX12_moves_131 (by decide) (fun c_131 => ?_) (fun c_131 => ?_)
  · have h := itn c_131 h
    refine lv_aload_n (pc := 145) hx hb dX12_moves_145 rfl (lv_at hl 1 rfl) ?_
    refine lv_iload_n (pc := 146) hx hb dX12_moves_146 rfl (lv_at hl 2 rfl) ?_
    refine lv_iload (pc := 147) hx hb dX12_moves_147 (lv_at hl 5 rfl) ?_
    obtain ⟨r_149, e_149, h⟩ := bnd_s h
    refine call_vi (pc := 149) (rest := []) [.int v1, .int v5] X Y (c_X12_sumOf v1 v5 e_149) sw_X12_165 (rv_X12 X Y) rfl ⟨rfl, rfl, Nat.le_of_ble_eq_true rfl, Nat.le_of_ble_eq_true rfl⟩ hl rfl (Nat.le_of_ble_eq_true rfl) dX12_moves_149 (fun H locs Y => ?_)
    refine lv_i2l (pc := 152) hx hb dX12_moves_152 rfl ?_
    exact WB_X12_moves_153 (r_149.toInt64) v3 v6 v8 x0 D X Y (lv_sub hl [4, 6, 7, 0] rfl) h
  · have h := itp c_131 h
    refine lv_aload_n (pc := 134) hx hb dX12_moves_134 rfl (lv_at hl 1 rfl) ?_
    refine lv_iload_n (pc := 135) hx hb dX12_moves_135 rfl (lv_at hl 2 rfl) ?_
    refine lv_iload (pc := 136) hx hb dX12_moves_136 (lv_at hl 5 rfl) ?_
    obtain ⟨r_138, e_138, h⟩ := bnd_s h
    refine call_vi (pc := 138) (rest := []) [.int v1, .int v5] X Y (c_X12_noesOf v1 v5 e_138) sw_X12_148 (rv_X12 X Y) rfl ⟨rfl, rfl, Nat.le_of_ble_eq_true rfl, Nat.le_of_ble_eq_true rfl⟩ hl rfl (Nat.le_of_ble_eq_true rfl) dX12_moves_138 (fun H locs Y => ?_)
    refine lv_i2l (pc := 141) hx hb dX12_moves_141 rfl ?_
    refine lv_goto (pc := 142) (tgt := 153) hx hb dX12_moves_142 (by decide) ?_
    exact WB_X12_moves_153 (r_138.toInt64) v3 v6 v8 x0 D X Y (lv_sub hl [4, 6, 7, 0] rfl) h
set_option maxHeartbeats 4000000 in
set_option maxRecDepth 100000 in
theorem WB_X12_moves_61 {r9 : Int64} (x0 : Int32) (v1 : Int32) (v2 : Int32) (v3 : Int32) (v4 : Int32) (D : Mem) (X : Cx p s m args meth c cX12_moves RX12 14 (some .long) dC dI ad bd cI cZ) {H : Heap} {locs : List Loc} {ls : Array Slot} (Y : Ys s dC dI ad bd cI cZ C D H locs) (hl : lv_has ls 14 [(0, .ref (bd 0)), (1, .int v1), (2, .int v2), (3, .int v3), (4, .int v4)]) (h : B_X12_moves_61 x0 v1 v2 v3 v4 D = some r9) : W p l e rm_X12_moves s m args below meth c H locs 0 0 (MQ below (QC (some (.long r9)) dC dI ad bd cI cZ C D) args s 0 0 (AD ad bd)) (F0 m 61 ls [.int x0]) := by
  have hx := X.1
  have hb := X.2.1
  unfold B_X12_moves_61 at h
  refine lv_istore (pc := 61) (lv' := [(5, .int x0), (0, .ref (bd 0)), (1, .int v1), (2, .int v2), (3, .int v3), (4, .int v4)]) hx hb dX12_moves_61 hl (by decide) rfl (fun ls hl => ?_)
  refine lv_aload_n (pc := 63) hx hb dX12_moves_63 rfl (lv_at hl 1 rfl) ?_
  refine lv_iload_n (pc := 64) hx hb dX12_moves_64 rfl (lv_at hl 2 rfl) ?_
  refine lv_iload (pc := 65) hx hb dX12_moves_65 (lv_at hl 5 rfl) ?_
  obtain ⟨r_67, e_67, h⟩ := bnd_s h
  refine call_vi (pc := 67) (rest := []) [.int v1, .int v4] X Y (c_X12_countOf v1 v4 e_67) sw_X12_144 (rv_X12 X Y) rfl ⟨rfl, rfl, Nat.le_of_ble_eq_true rfl, Nat.le_of_ble_eq_true rfl⟩ hl rfl (Nat.le_of_ble_eq_true rfl) dX12_moves_67 (fun H locs Y => ?_)
  refine lv_i2l (pc := 70) hx hb dX12_moves_70 rfl ?_
  obtain ⟨v6_71, ev6_71, h⟩ := lt_s_ h
  refine top_l ev6_71 ?_
  refine lv_lstore (pc := 71) (lv' := [(6, .long v6_71), (5, .int x0), (0, .ref (bd 0)), (1, .int v1), (2, .int v2), (3, .int v3), (4, .int v4)]) hx hb dX12_moves_71 hl (by decide) rfl (fun ls hl => ?_)
  refine lv_aload_n (pc := 73) hx hb dX12_moves_73 rfl (lv_at hl 2 rfl) ?_
  refine lv_iload_n (pc := 74) hx hb dX12_moves_74 rfl (lv_at hl 3 rfl) ?_
  refine lv_iload (pc := 75) hx hb dX12_moves_75 (lv_at hl 1 rfl) ?_
  obtain ⟨r_77, e_77, h⟩ := bnd_s h
  refine call_vi (pc := 77) (rest := []) [.int v1, .int x0] X Y (c_X12_countOf v1 x0 e_77) sw_X12_144 (rv_X12 X Y) rfl ⟨rfl, rfl, Nat.le_of_ble_eq_true rfl, Nat.le_of_ble_eq_true rfl⟩ hl rfl (Nat.le_of_ble_eq_true rfl) dX12_moves_77 (fun H locs Y => ?_)
  refine lv_i2l (pc := 80) hx hb dX12_moves_80 rfl ?_
  obtain ⟨v8_81, ev8_81, h⟩ := lt_s_ h
  refine top_l ev8_81 ?_
  refine lv_lstore (pc := 81) (lv' := [(8, .long v8_81), (6, .long v6_71), (5, .int x0), (0, .ref (bd 0)), (1, .int v1), (2, .int v2), (3, .int v3), (4, .int v4)]) hx hb dX12_moves_81 hl (by decide) rfl (fun ls hl => ?_)
  refine lv_lload (pc := 83) hx hb dX12_moves_83 (lv_at hl 1 rfl) ?_
  refine lv_lconst (pc := 85) (v := 0) hx hb dX12_moves_85 (by decide) ?_
  refine W.lcmp (pc := 86) hx hb dX12_moves_86 ?_
  refine lv_if_eq (pc := 87) (tgt := 97) hx hb dX12_moves_87 (by decide) (fun c_87 => ?_) (fun c_87 => ?_)
  · have h := itp c_87 h
    exact WB_X12_moves_97  D X Y (lv_sub hl [] rfl) h
  · have h := itn c_87 h
    refine lv_lload (pc := 90) hx hb dX12_moves_90 (lv_at hl 0 rfl) ?_
    refine lv_lconst (pc := 92) (v := 0) hx hb dX12_moves_92 (by decide) ?_
    refine W.lcmp (pc := 93) hx hb dX12_moves_93 ?_
    refine lv_if_ne (pc := 94) (tgt := 103) hx hb dX12_moves_94 (by decide) (fun c_94 => ?_) (fun c_94 => ?_)
    · have h := itn c_94 h
      refine lv_iload_n (pc := 103) hx hb dX12_moves_103 rfl (lv_at hl 5 rfl) ?_
      refine lv_iconst (pc := 104) (v := 2) hx hb dX12_moves_104 (by decide) ?_
      refine lv_icmp_ne (pc := 105) (tgt := 119) hx hb dX12_moves_105 (by decide) (fun c_105 => ?_) (fun c_105 => ?_)
      · have h := itn c_105 h
        refine lv_aload_n (pc := 119) hx hb dX12_moves_119 rfl (lv_at hl 3 rfl) ?_
        refine lv_iload_n (pc := 120) hx hb dX12_moves_120 rfl (lv_at hl 4 rfl) ?_
        refine lv_iload (pc := 121) hx hb dX12_moves_121 (lv_at hl 7 rfl) ?_
        obtain ⟨r_123, e_123, h⟩ := bnd_s h
        refine call_vi (pc := 123) (rest := []) [.int v1, .int v4] X Y (c_X12_sumOf v1 v4 e_123) sw_X12_165 (rv_X12 X Y) rfl ⟨rfl, rfl, Nat.le_of_ble_eq_true rfl, Nat.le_of_ble_eq_true rfl⟩ hl rfl (Nat.le_of_ble_eq_true rfl) dX12_moves_123 (fun H locs Y => ?_)
        refine lv_i2l (pc := 126) hx hb dX12_moves_126 rfl ?_
        exact WB_X12_moves_127 (r_123.toInt64) v1 v2 v3 x0 v6_71 v8_81 D X Y (lv_sub hl [3, 4, 5, 6, 2, 1, 0] rfl) h
      · have h := itp c_105 h
        refine lv_aload_n (pc := 108) hx hb dX12_moves_108 rfl (lv_at hl 3 rfl) ?_
        refine lv_iload_n (pc := 109) hx hb dX12_moves_109 rfl (lv_at hl 4 rfl) ?_
        refine lv_iload (pc := 110) hx hb dX12_moves_110 (lv_at hl 7 rfl) ?_
        obtain ⟨r_112, e_112, h⟩ := bnd_s h
        refine call_vi (pc := 112) (rest := []) [.int v1, .int v4] X Y (c_X12_noesOf v1 v4 e_112) sw_X12_148 (rv_X12 X Y) rfl ⟨rfl, rfl, Nat.le_of_ble_eq_true rfl, Nat.le_of_ble_eq_true rfl⟩ hl rfl (Nat.le_of_ble_eq_true rfl) dX12_moves_112 (fun H locs Y => ?_)
        refine lv_i2l (pc := 115) hx hb dX12_moves_115 rfl ?_
        refine lv_goto (pc := 116) (tgt := 127) hx hb dX12_moves_116 (by decide) ?_
        exact WB_X12_moves_127 (r_112.toInt64) v1 v2 v3 x0 v6_71 v8_81 D X Y (lv_sub hl [3, 4, 5, 6, 2, 1, 0] rfl) h
    · have h := itp c_94 h
      exact WB_X12_moves_97  D X Y (lv_sub hl [] rfl) h
set_option maxHeartbeats 4000000 in
set_option maxRecDepth 100000 in
theorem WB_X12_moves_41 {r9 : Int64} (x0 : Int32) (v1 : Int32) (v2 : Int32) (v3 : Int32) (D : Mem) (X : Cx p s m args meth c cX12_moves RX12 14 (some .long) dC dI ad bd cI cZ) {H : Heap} {locs : List Loc} {ls : Array Slot} (Y : Ys s dC dI ad bd cI cZ C D H locs) (hl : lv_has ls 14 [(0, .ref (bd 0)), (1, .int v1), (2, .int v2), (3, .int v3)]) (h : B_X12_moves_41 x0 v1 v2 v3 D = some r9) : W p l e rm_X12_moves s m args below meth c H locs 0 0 (MQ below (QC (some (.long r9)) dC dI ad bd cI cZ C D) args s 0 0 (AD ad bd)) (F0 m 41 ls [.int x0]) := by
  have hx := X.1
  have hb := X.2.1
  unfold B_X12_moves_41 at h
  refine lv_istore (pc := 41) (lv' := [(4, .int x0), (0, .ref (bd 0)), (1, .int v1), (2, .int v2), (3, .int v3)]) hx hb dX12_moves_41 hl (by decide) rfl (fun ls hl => ?_)
  refine lv_iload_n (pc := 43) hx hb dX12_moves_43 rfl (lv_at hl 3 rfl) ?_
  refine lv_if_ne (pc := 44) (tgt := 51) hx hb dX12_moves_44 (by decide) (fun c_44 => ?_) (fun c_44 => ?_)
  · have h := itn c_44 h
    refine lv_iload_n (pc := 51) hx hb dX12_moves_51 rfl (lv_at hl 3 rfl) ?_
    refine lv_iconst (pc := 52) (v := 1) hx hb dX12_moves_52 (by decide) ?_
    refine lv_icmp_ne (pc := 53) (tgt := 60) hx hb dX12_moves_53 (by decide) (fun c_53 => ?_) (fun c_53 => ?_)
    · have h := itn c_53 h
      refine lv_iconst (pc := 60) (v := 2) hx hb dX12_moves_60 (by decide) ?_
      exact WB_X12_moves_61 2 v1 v2 v3 x0 D X Y (lv_sub hl [1, 2, 3, 4, 0] rfl) h
    · have h := itp c_53 h
      refine lv_iconst (pc := 56) (v := 0) hx hb dX12_moves_56 (by decide) ?_
      refine lv_goto (pc := 57) (tgt := 61) hx hb dX12_moves_57 (by decide) ?_
      exact WB_X12_moves_61 0 v1 v2 v3 x0 D X Y (lv_sub hl [1, 2, 3, 4, 0] rfl) h
  · have h := itp c_44 h
    refine lv_iconst (pc := 47) (v := 1) hx hb dX12_moves_47 (by decide) ?_
    refine lv_goto (pc := 48) (tgt := 61) hx hb dX12_moves_48 (by decide) ?_
    exact WB_X12_moves_61 1 v1 v2 v3 x0 D X Y (lv_sub hl [1, 2, 3, 4, 0] rfl) h
set_option maxHeartbeats 4000000 in
set_option maxRecDepth 100000 in
theorem c_X12_moves {r9 : Int64} (v1 : Int32) (v2 : Int32) (v3 : Int32) (h : f_X12_moves v1 v2 v3 D = some r9) : Ct l dC dI ad bd cI cZ yX12_moves cX12_moves 14 (some .long) rm_X12_moves [.ref (bd 0), .int v1, .int v2, .int v3] C D (some (.long r9)) C D := by
  unfold f_X12_moves at h
  refine Ct.intro (own := RX12) (by decide) rfl (Nat.le_of_ble_eq_true rfl) ?_
  intro p e s m args below meth c H locs ls X Y hl
  have hx := X.1
  have hb := X.2.1
  have hl : lv_has ls 14 [(0, .ref (bd 0)), (1, .int v1), (2, .int v2), (3, .int v3)] := hl
  refine lv_iload_n (pc := 0) hx hb dX12_moves_0 rfl (lv_at hl 1 rfl) ?_
  refine call_si (pc := 1) (rest := []) [.int v1] X Y (c_X12_isAny v1) sw_X12_154 rfl ⟨rfl, rfl, Nat.le_of_ble_eq_true rfl, Nat.le_of_ble_eq_true rfl⟩ hl rfl (Nat.le_of_ble_eq_true rfl) dX12_moves_1 (fun H locs Y => ?_)
  refine lv_if_eq (pc := 4) (tgt := 25) hx hb dX12_moves_4 (by decide) (fun c_4 => ?_) (fun c_4 => ?_)
  · have h := itn (b2i_f c_4) h
    exact WB_X12_moves_25  D X Y (lv_sub hl [] rfl) h
  · have h := itp (b2i_t c_4) h
    refine lv_iload_n (pc := 7) hx hb dX12_moves_7 rfl (lv_at hl 2 rfl) ?_
    refine lv_iconst (pc := 8) (v := 0) hx hb dX12_moves_8 (by decide) ?_
    refine lv_iconst (pc := 9) (v := 2) hx hb dX12_moves_9 (by decide) ?_
    refine call_si (pc := 10) (rest := []) [.int v2, .int 0, .int 2] X Y (c_X12_in v2 0 2) sw_X12_107 rfl ⟨rfl, rfl, Nat.le_of_ble_eq_true rfl, Nat.le_of_ble_eq_true rfl⟩ hl rfl (Nat.le_of_ble_eq_true rfl) dX12_moves_10 (fun H locs Y => ?_)
    refine lv_if_eq (pc := 13) (tgt := 25) hx hb dX12_moves_13 (by decide) (fun c_13 => ?_) (fun c_13 => ?_)
    · have h := itn (b2i_f c_13) h
      exact WB_X12_moves_25  D X Y (lv_sub hl [] rfl) h
    · have h := itp (b2i_t c_13) h
      refine lv_iload_n (pc := 16) hx hb dX12_moves_16 rfl (lv_at hl 3 rfl) ?_
      refine lv_iconst (pc := 17) (v := 0) hx hb dX12_moves_17 (by decide) ?_
      refine lv_iconst (pc := 18) (v := 1) hx hb dX12_moves_18 (by decide) ?_
      refine call_si (pc := 19) (rest := []) [.int v3, .int 0, .int 1] X Y (c_X12_in v3 0 1) sw_X12_107 rfl ⟨rfl, rfl, Nat.le_of_ble_eq_true rfl, Nat.le_of_ble_eq_true rfl⟩ hl rfl (Nat.le_of_ble_eq_true rfl) dX12_moves_19 (fun H locs Y => ?_)
      refine lv_if_ne (pc := 22) (tgt := 31) hx hb dX12_moves_22 (by decide) (fun c_22 => ?_) (fun c_22 => ?_)
      · have h := itp (b2i_t c_22) h
        refine lv_iload_n (pc := 31) hx hb dX12_moves_31 rfl (lv_at hl 2 rfl) ?_
        refine lv_iconst (pc := 32) (v := 1) hx hb dX12_moves_32 (by decide) ?_
        refine lv_icmp_ne (pc := 33) (tgt := 40) hx hb dX12_moves_33 (by decide) (fun c_33 => ?_) (fun c_33 => ?_)
        · have h := itn c_33 h
          refine lv_iconst (pc := 40) (v := 0) hx hb dX12_moves_40 (by decide) ?_
          exact WB_X12_moves_41 0 v1 v2 v3 D X Y (lv_sub hl [0, 1, 2, 3] rfl) h
        · have h := itp c_33 h
          refine lv_iconst (pc := 36) (v := 3) hx hb dX12_moves_36 (by decide) ?_
          refine lv_goto (pc := 37) (tgt := 41) hx hb dX12_moves_37 (by decide) ?_
          exact WB_X12_moves_41 3 v1 v2 v3 D X Y (lv_sub hl [0, 1, 2, 3] rfl) h
      · have h := itn (b2i_f c_22) h
        exact WB_X12_moves_25  D X Y (lv_sub hl [] rfl) h
abbrev rm_X12_row : Room := { frames := 2, cells := 0, slots := 0, locals := 42 }
set_option maxHeartbeats 4000000 in
set_option maxRecDepth 100000 in
theorem c_X12_row {r9 : Int32} {D9 : Mem} (v1 : Int32) (v2 : Int32) (h : f_X12_row v1 v2 D = some (r9, D9)) : Ct l dC dI ad bd cI cZ yX12_row cX12_row 3 (some .int) rm_X12_row [.ref (bd 0), .int v1, .int v2] C D (some (.int r9)) C D9 := by
  unfold f_X12_row at h
  refine Ct.intro (own := RX12) (by decide) rfl (Nat.le_of_ble_eq_true rfl) ?_
  intro p e s m args below meth c H locs ls X Y hl
  have hx := X.1
  have hb := X.2.1
  have hl : lv_has ls 3 [(0, .ref (bd 0)), (1, .int v1), (2, .int v2)] := hl
  refine lv_iload_n (pc := 0) hx hb dX12_row_0 rfl (lv_at hl 1 rfl) ?_
  refine call_si (pc := 1) (rest := []) [.int v1] X Y (c_X12_isPeople v1) sw_X12_111 rfl ⟨rfl, rfl, Nat.le_of_ble_eq_true rfl, Nat.le_of_ble_eq_true rfl⟩ hl rfl (Nat.le_of_ble_eq_true rfl) dX12_row_1 (fun H locs Y => ?_)
  refine lv_if_eq (pc := 4) (tgt := 18) hx hb dX12_row_4 (by decide) (fun c_4 => ?_) (fun c_4 => ?_)
  · have h := itn (b2i_f c_4) h
    refine lv_bipush (pc := 18) (v := (-2)) hx hb dX12_row_18 (by decide) ?_
    obtain ⟨hr9, hm9⟩ := ret_e h
    exact fin_i (pc := 20) X rfl Y hr9 rfl hm9 dX12_row_20
  · have h := itp (b2i_t c_4) h
    refine lv_iload_n (pc := 7) hx hb dX12_row_7 rfl (lv_at hl 2 rfl) ?_
    refine lv_iconst (pc := 8) (v := 0) hx hb dX12_row_8 (by decide) ?_
    refine lv_sipush (pc := 9) (v := 2047) hx hb dX12_row_9 (by decide) ?_
    refine call_si (pc := 12) (rest := []) [.int v2, .int 0, .int 2047] X Y (c_X12_in v2 0 2047) sw_X12_107 rfl ⟨rfl, rfl, Nat.le_of_ble_eq_true rfl, Nat.le_of_ble_eq_true rfl⟩ hl rfl (Nat.le_of_ble_eq_true rfl) dX12_row_12 (fun H locs Y => ?_)
    refine lv_if_ne (pc := 15) (tgt := 21) hx hb dX12_row_15 (by decide) (fun c_15 => ?_) (fun c_15 => ?_)
    · have h := itp (b2i_t c_15) h
      refine lv_aload_n (pc := 21) hx hb dX12_row_21 rfl (lv_at hl 0 rfl) ?_
      refine gf_X12_176 (pc := 22) X Y dX12_row_22 ?_
      refine lv_bipush (pc := 25) (v := 12) hx hb dX12_row_25 (by decide) ?_
      refine lv_icmp_ne (pc := 27) (tgt := 33) hx hb dX12_row_27 (by decide) (fun c_27 => ?_) (fun c_27 => ?_)
      · have h := itn c_27 h
        refine lv_aload_n (pc := 33) hx hb dX12_row_33 rfl (lv_at hl 0 rfl) ?_
        refine gf_X12_32 (pc := 34) X Y dX12_row_34 ?_
        refine lv_aload_n (pc := 37) hx hb dX12_row_37 rfl (lv_at hl 0 rfl) ?_
        refine gf_X12_176 (pc := 38) X Y dX12_row_38 ?_
        refine lv_iload_n (pc := 41) hx hb dX12_row_41 rfl (lv_at hl 1 rfl) ?_
        obtain ⟨g_42, h⟩ := gd_s h
        obtain ⟨D_42, hD_42, h⟩ := sto_s h
        refine r_iastm (pc := 42) X Y (cm_7 bd cI cZ) g_42 hD_42 dX12_row_42 (fun H locs Y => ?_)
        refine lv_aload_n (pc := 43) hx hb dX12_row_43 rfl (lv_at hl 0 rfl) ?_
        refine gf_X12_35 (pc := 44) X Y dX12_row_44 ?_
        refine lv_aload_n (pc := 47) hx hb dX12_row_47 rfl (lv_at hl 0 rfl) ?_
        refine gf_X12_176 (pc := 48) X Y dX12_row_48 ?_
        refine lv_iload_n (pc := 51) hx hb dX12_row_51 rfl (lv_at hl 2 rfl) ?_
        obtain ⟨g_52, h⟩ := gd_s h
        obtain ⟨D_52, hD_52, h⟩ := sto_s h
        refine r_iastm (pc := 52) X Y (cm_8 bd cI cZ) g_52 hD_52 dX12_row_52 (fun H locs Y => ?_)
        refine lv_aload_n (pc := 53) hx hb dX12_row_53 rfl (lv_at hl 0 rfl) ?_
        refine lv_dup (pc := 54) hx hb dX12_row_54 rfl ?_
        refine gf_X12_176 (pc := 55) X Y dX12_row_55 ?_
        refine lv_iconst (pc := 58) (v := 1) hx hb dX12_row_58 (by decide) ?_
        refine lv_iadd (pc := 59) hx hb dX12_row_59 ?_
        obtain ⟨D_60, hD_60, h⟩ := sto_s h
        refine pf_X12_176 (pc := 60) X Y hD_60 dX12_row_60 (fun H locs Y => ?_)
        refine lv_aload_n (pc := 63) hx hb dX12_row_63 rfl (lv_at hl 0 rfl) ?_
        refine gf_X12_176 (pc := 64) X Y dX12_row_64 ?_
        refine lv_iconst (pc := 67) (v := 1) hx hb dX12_row_67 (by decide) ?_
        refine lv_isub (pc := 68) hx hb dX12_row_68 ?_
        obtain ⟨hr9, hm9⟩ := ret_e h
        exact fin_i (pc := 69) X rfl Y hr9 rfl hm9 dX12_row_69
      · have h := itp c_27 h
        refine lv_bipush (pc := 30) (v := (-4)) hx hb dX12_row_30 (by decide) ?_
        obtain ⟨hr9, hm9⟩ := ret_e h
        exact fin_i (pc := 32) X rfl Y hr9 rfl hm9 dX12_row_32
    · have h := itn (b2i_f c_15) h
      refine lv_bipush (pc := 18) (v := (-2)) hx hb dX12_row_18 (by decide) ?_
      obtain ⟨hr9, hm9⟩ := ret_e h
      exact fin_i (pc := 20) X rfl Y hr9 rfl hm9 dX12_row_20
abbrev rm_X12_lineNow : Room := { frames := 1, cells := 0, slots := 0, locals := 22 }
set_option maxHeartbeats 4000000 in
set_option maxRecDepth 100000 in
theorem WB_X12_lineNow_73 {r9 : Int32} (x0 : Int32) (x1 : Int32) (v1 : Int32) (v2 : Int32) (v3 : Int32) (v4 : Int32) (v5 : Int32) (v6 : Int32) (v7 : Int32) (v9 : Int32) (D : Mem) (X : Cx p s m args meth c cX12_lineNow RX12 10 (some .int) dC dI ad bd cI cZ) {kb : Int32 → Int32 → Option Int32} (hkb : ∀ (v8' : Int32) (v9' : Int32) (H : Heap) (locs : List Loc) (ls : Array Slot), Ys s dC dI ad bd cI cZ C D H locs → lv_has ls 10 [(0, .ref (bd 0)), (1, .int v1), (2, .int v2), (3, .int v3), (4, .int v4), (5, .int v5), (6, .int v6), (7, .int v7), (8, .int v8'), (9, .int v9')] → kb v8' v9' = some r9 → W p l e rm_X12_lineNow s m args below meth c H locs 0 0 (MQ below (QC (some (.int r9)) dC dI ad bd cI cZ C D) args s 0 0 (AD ad bd)) (F0 m 36 ls [])) {H : Heap} {locs : List Loc} {ls : Array Slot} (Y : Ys s dC dI ad bd cI cZ C D H locs) (hl : lv_has ls 10 [(0, .ref (bd 0)), (1, .int v1), (2, .int v2), (3, .int v3), (4, .int v4), (5, .int v5), (6, .int v6), (7, .int v7), (9, .int v9)]) (h : B_X12_lineNow_73 x0 x1 v9 kb = some r9) : W p l e rm_X12_lineNow s m args below meth c H locs 0 0 (MQ below (QC (some (.int r9)) dC dI ad bd cI cZ C D) args s 0 0 (AD ad bd)) (F0 m 73 ls [.int x1, .int x0]) := by
  have hx := X.1
  have hb := X.2.1
  unfold B_X12_lineNow_73 at h
  refine lv_iadd (pc := 73) hx hb dX12_lineNow_73 ?_
  obtain ⟨v8_74, ev8_74, h⟩ := lt_s_ h
  refine top_i ev8_74 ?_
  refine lv_istore (pc := 74) (lv' := [(8, .int v8_74), (0, .ref (bd 0)), (1, .int v1), (2, .int v2), (3, .int v3), (4, .int v4), (5, .int v5), (6, .int v6), (7, .int v7), (9, .int v9)]) hx hb dX12_lineNow_74 hl (by decide) rfl (fun ls hl => ?_)
  obtain ⟨v9_76, ev9_76, h⟩ := lt_s_ h
  refine lv_iinc (pc := 76) (v := v9_76) (lv' := [(9, .int v9_76), (8, .int v8_74), (0, .ref (bd 0)), (1, .int v1), (2, .int v2), (3, .int v3), (4, .int v4), (5, .int v5), (6, .int v6), (7, .int v7)]) hx hb dX12_lineNow_76 hl (k := 9) rfl (by rw [ev9_76]; rfl) (by decide) rfl (fun ls hl => ?_)
  refine lv_goto (pc := 79) (tgt := 36) hx hb dX12_lineNow_79 (by decide) ?_
  exact hkb v8_74 v9_76 H locs ls Y (lv_sub hl [2, 3, 4, 5, 6, 7, 8, 9, 1, 0] rfl) h
set_option maxHeartbeats 4000000 in
set_option maxRecDepth 100000 in
theorem WL_X12_lineNow_36 {r9 : Int32} (v1 : Int32) (v2 : Int32) (v3 : Int32) (v4 : Int32) (v5 : Int32) (v6 : Int32) (v7 : Int32) (D : Mem) (X : Cx p s m args meth c cX12_lineNow RX12 10 (some .int) dC dI ad bd cI cZ) {kx : Int32 → Option Int32} (hkx : ∀ (v8' : Int32) (H : Heap) (locs : List Loc) (ls : Array Slot), Ys s dC dI ad bd cI cZ C D H locs → lv_has ls 10 [(0, .ref (bd 0)), (1, .int v1), (2, .int v2), (3, .int v3), (4, .int v4), (5, .int v5), (6, .int v6), (7, .int v7), (8, .int v8')] → kx v8' = some r9 → W p l e rm_X12_lineNow s m args below meth c H locs 0 0 (MQ below (QC (some (.int r9)) dC dI ad bd cI cZ C D) args s 0 0 (AD ad bd)) (F0 m 82 ls [])) : ∀ (n_ : Nat) (v8 : Int32) (v9 : Int32) (H : Heap) (locs : List Loc) (ls : Array Slot), Ys s dC dI ad bd cI cZ C D H locs → lv_has ls 10 [(0, .ref (bd 0)), (1, .int v1), (2, .int v2), (3, .int v3), (4, .int v4), (5, .int v5), (6, .int v6), (7, .int v7), (8, .int v8), (9, .int v9)] → L_X12_lineNow_36 v1 v6 v7 D kx n_ v8 v9 = some r9 → W p l e rm_X12_lineNow s m args below meth c H locs 0 0 (MQ below (QC (some (.int r9)) dC dI ad bd cI cZ C D) args s 0 0 (AD ad bd)) (F0 m 36 ls []) := by
  have hx := X.1
  have hb := X.2.1
  intro n_
  induction n_ with
  | zero =>
    intro v8 v9 H locs ls Y hl h
    cases h
  | succ n_ ih =>
    intro v8 v9 H locs ls Y hl h
    unfold L_X12_lineNow_36 at h
    refine lv_iload (pc := 36) hx hb dX12_lineNow_36 (lv_at hl 9 rfl) ?_
    refine lv_bipush (pc := 38) (v := 11) hx hb dX12_lineNow_38 (by decide) ?_
    refine lv_icmp_ge (pc := 40) (tgt := 82) hx hb dX12_lineNow_40 (by decide) (fun c_40 => ?_) (fun c_40 => ?_)
    · have h := itp c_40 h
      exact hkx v8 H locs ls Y (lv_sub hl [0, 1, 2, 3, 4, 5, 6, 7, 8] rfl) h
    · have h := itn c_40 h
      refine lv_iload (pc := 43) hx hb dX12_lineNow_43 (lv_at hl 8 rfl) ?_
      refine lv_aload_n (pc := 45) hx hb dX12_lineNow_45 rfl (lv_at hl 0 rfl) ?_
      refine gf_X12_35 (pc := 46) X Y dX12_lineNow_46 ?_
      refine lv_iload_n (pc := 49) hx hb dX12_lineNow_49 rfl (lv_at hl 1 rfl) ?_
      obtain ⟨g_50, h⟩ := gd_s h
      refine r_ialdm (pc := 50) X Y (cm_8 bd cI cZ) g_50 dX12_lineNow_50 ?_
      refine lv_iload (pc := 51) hx hb dX12_lineNow_51 (lv_at hl 9 rfl) ?_
      refine call_si (pc := 53) (rest := [.int v8]) [.int (D 8 v1.toNatClampNeg), .int v9] X Y (c_X12_has (D 8 v1.toNatClampNeg) v9) sw_X12_179 rfl ⟨rfl, rfl, Nat.le_of_ble_eq_true rfl, Nat.le_of_ble_eq_true rfl⟩ hl rfl (Nat.le_of_ble_eq_true rfl) dX12_lineNow_53 (fun H locs Y => ?_)
      refine lv_iload (pc := 56) hx hb dX12_lineNow_56 (lv_at hl 9 rfl) ?_
      refine lv_iload (pc := 58) hx hb dX12_lineNow_58 (lv_at hl 6 rfl) ?_
      refine lv_iload (pc := 60) hx hb dX12_lineNow_60 (lv_at hl 7 rfl) ?_
      refine call_si (pc := 62) (rest := [.int (b2i (f_X12_has (D 8 v1.toNatClampNeg) v9)), .int v8]) [.int v9, .int v6, .int v7] X Y (c_X12_in v9 v6 v7) sw_X12_107 rfl ⟨rfl, rfl, Nat.le_of_ble_eq_true rfl, Nat.le_of_ble_eq_true rfl⟩ hl rfl (Nat.le_of_ble_eq_true rfl) dX12_lineNow_62 (fun H locs Y => ?_)
      refine lv_icmp_ne (pc := 65) (tgt := 72) hx hb dX12_lineNow_65 (by decide) (fun c_65 => ?_) (fun c_65 => ?_)
      · have h := itn c_65 h
        refine lv_iconst (pc := 72) (v := 1) hx hb dX12_lineNow_72 (by decide) ?_
        exact WB_X12_lineNow_73 v8 1 v1 v2 v3 v4 v5 v6 v7 v9 D X (kb := (L_X12_lineNow_36 v1 v6 v7 D kx n_)) ih Y (lv_sub hl [0, 1, 2, 3, 4, 5, 6, 7, 9] rfl) h
      · have h := itp c_65 h
        refine lv_iconst (pc := 68) (v := 0) hx hb dX12_lineNow_68 (by decide) ?_
        refine lv_goto (pc := 69) (tgt := 73) hx hb dX12_lineNow_69 (by decide) ?_
        exact WB_X12_lineNow_73 v8 0 v1 v2 v3 v4 v5 v6 v7 v9 D X (kb := (L_X12_lineNow_36 v1 v6 v7 D kx n_)) ih Y (lv_sub hl [0, 1, 2, 3, 4, 5, 6, 7, 9] rfl) h
set_option maxHeartbeats 4000000 in
set_option maxRecDepth 100000 in
theorem WB_X12_lineNow_99 {r9 : Int32} (v1 : Int32) (v2 : Int32) (v3 : Int32) (v4 : Int32) (v5 : Int32) (v6 : Int32) (v7 : Int32) (D : Mem) (X : Cx p s m args meth c cX12_lineNow RX12 10 (some .int) dC dI ad bd cI cZ) {kb : Int32 → Int32 → Int32 → Int32 → Option Int32} (hkb : ∀ (v3' : Int32) (v4' : Int32) (v5' : Int32) (v7' : Int32) (H : Heap) (locs : List Loc) (ls : Array Slot), Ys s dC dI ad bd cI cZ C D H locs → lv_has ls 10 [(0, .ref (bd 0)), (1, .int v1), (2, .int v2), (3, .int v3'), (4, .int v4'), (5, .int v5'), (6, .int v6), (7, .int v7')] → kb v3' v4' v5' v7' = some r9 → W p l e rm_X12_lineNow s m args below meth c H locs 0 0 (MQ below (QC (some (.int r9)) dC dI ad bd cI cZ C D) args s 0 0 (AD ad bd)) (F0 m 23 ls [])) {H : Heap} {locs : List Loc} {ls : Array Slot} (Y : Ys s dC dI ad bd cI cZ C D H locs) (hl : lv_has ls 10 [(0, .ref (bd 0)), (1, .int v1), (2, .int v2), (3, .int v3), (4, .int v4), (5, .int v5), (6, .int v6), (7, .int v7)]) (h : B_X12_lineNow_99 v3 v4 v5 v7 kb = some r9) : W p l e rm_X12_lineNow s m args below meth c H locs 0 0 (MQ below (QC (some (.int r9)) dC dI ad bd cI cZ C D) args s 0 0 (AD ad bd)) (F0 m 99 ls []) := by
  have hx := X.1
  have hb := X.2.1
  unfold B_X12_lineNow_99 at h
  obtain ⟨v7_99, ev7_99, h⟩ := lt_s_ h
  refine lv_iinc (pc := 99) (v := v7_99) (lv' := [(7, .int v7_99), (0, .ref (bd 0)), (1, .int v1), (2, .int v2), (3, .int v3), (4, .int v4), (5, .int v5), (6, .int v6)]) hx hb dX12_lineNow_99 hl (k := 7) rfl (by rw [ev7_99]; rfl) (by decide) rfl (fun ls hl => ?_)
  refine lv_goto (pc := 102) (tgt := 23) hx hb dX12_lineNow_102 (by decide) ?_
  exact hkb v3 v4 v5 v7_99 H locs ls Y (lv_sub hl [1, 2, 3, 4, 5, 6, 7, 0] rfl) h
set_option maxHeartbeats 4000000 in
set_option maxRecDepth 100000 in
theorem WL_X12_lineNow_23 {r9 : Int32} (v1 : Int32) (v2 : Int32) (v6 : Int32) (D : Mem) (X : Cx p s m args meth c cX12_lineNow RX12 10 (some .int) dC dI ad bd cI cZ) {kx : Int32 → Int32 → Int32 → Option Int32} (hkx : ∀ (v3' : Int32) (v4' : Int32) (v5' : Int32) (H : Heap) (locs : List Loc) (ls : Array Slot), Ys s dC dI ad bd cI cZ C D H locs → lv_has ls 10 [(0, .ref (bd 0)), (1, .int v1), (2, .int v2), (3, .int v3'), (4, .int v4'), (5, .int v5'), (6, .int v6)] → kx v3' v4' v5' = some r9 → W p l e rm_X12_lineNow s m args below meth c H locs 0 0 (MQ below (QC (some (.int r9)) dC dI ad bd cI cZ C D) args s 0 0 (AD ad bd)) (F0 m 105 ls [])) : ∀ (n_ : Nat) (v3 : Int32) (v4 : Int32) (v5 : Int32) (v7 : Int32) (H : Heap) (locs : List Loc) (ls : Array Slot), Ys s dC dI ad bd cI cZ C D H locs → lv_has ls 10 [(0, .ref (bd 0)), (1, .int v1), (2, .int v2), (3, .int v3), (4, .int v4), (5, .int v5), (6, .int v6), (7, .int v7)] → L_X12_lineNow_23 v1 v6 D kx n_ v3 v4 v5 v7 = some r9 → W p l e rm_X12_lineNow s m args below meth c H locs 0 0 (MQ below (QC (some (.int r9)) dC dI ad bd cI cZ C D) args s 0 0 (AD ad bd)) (F0 m 23 ls []) := by
  have hx := X.1
  have hb := X.2.1
  intro n_
  induction n_ with
  | zero =>
    intro v3 v4 v5 v7 H locs ls Y hl h
    cases h
  | succ n_ ih =>
    intro v3 v4 v5 v7 H locs ls Y hl h
    unfold L_X12_lineNow_23 at h
    refine lv_iload (pc := 23) hx hb dX12_lineNow_23 (lv_at hl 7 rfl) ?_
    refine lv_iload (pc := 25) hx hb dX12_lineNow_25 (lv_at hl 6 rfl) ?_
    refine lv_icmp_lt (pc := 27) (tgt := 105) hx hb dX12_lineNow_27 (by decide) (fun c_27 => ?_) (fun c_27 => ?_)
    · have h := itp c_27 h
      exact hkx v3 v4 v5 H locs ls Y (lv_sub hl [0, 1, 2, 3, 4, 5, 6] rfl) h
    · have h := itn c_27 h
      refine lv_iconst (pc := 30) (v := 0) hx hb dX12_lineNow_30 (by decide) ?_
      refine lv_istore (pc := 31) (lv' := [(8, .int 0), (0, .ref (bd 0)), (1, .int v1), (2, .int v2), (3, .int v3), (4, .int v4), (5, .int v5), (6, .int v6), (7, .int v7)]) hx hb dX12_lineNow_31 hl (by decide) rfl (fun ls hl => ?_)
      refine lv_iconst (pc := 33) (v := 0) hx hb dX12_lineNow_33 (by decide) ?_
      refine lv_istore (pc := 34) (lv' := [(9, .int 0), (8, .int 0), (0, .ref (bd 0)), (1, .int v1), (2, .int v2), (3, .int v3), (4, .int v4), (5, .int v5), (6, .int v6), (7, .int v7)]) hx hb dX12_lineNow_34 hl (by decide) rfl (fun ls hl => ?_)
      refine WL_X12_lineNow_36 v1 v2 v3 v4 v5 v6 v7 D X (fun v8_82 H locs ls Y hl h => ?_) FU 0 0 H locs ls Y (lv_sub hl [2, 3, 4, 5, 6, 7, 8, 9, 1, 0] rfl) h
      refine lv_iload (pc := 82) hx hb dX12_lineNow_82 (lv_at hl 8 rfl) ?_
      refine lv_iload_n (pc := 84) hx hb dX12_lineNow_84 rfl (lv_at hl 3 rfl) ?_
      refine lv_icmp_ge (pc := 85) (tgt := 99) hx hb dX12_lineNow_85 (by decide) (fun c_85 => ?_) (fun c_85 => ?_)
      · have h := itp c_85 h
        exact WB_X12_lineNow_99 v1 v2 v3 v4 v5 v6 v7 D X (kb := (L_X12_lineNow_23 v1 v6 D kx n_)) ih Y (lv_sub hl [0, 1, 2, 3, 4, 5, 6, 7] rfl) h
      · have h := itn c_85 h
        refine lv_iload (pc := 88) hx hb dX12_lineNow_88 (lv_at hl 8 rfl) ?_
        refine lv_istore_n (pc := 90) (lv' := [(3, .int v8_82), (0, .ref (bd 0)), (1, .int v1), (2, .int v2), (4, .int v4), (5, .int v5), (6, .int v6), (7, .int v7), (8, .int v8_82)]) hx hb dX12_lineNow_90 rfl hl (by decide) rfl (fun ls hl => ?_)
        refine lv_iload (pc := 91) hx hb dX12_lineNow_91 (lv_at hl 6 rfl) ?_
        refine lv_istore (pc := 93) (lv' := [(4, .int v6), (3, .int v8_82), (0, .ref (bd 0)), (1, .int v1), (2, .int v2), (5, .int v5), (6, .int v6), (7, .int v7), (8, .int v8_82)]) hx hb dX12_lineNow_93 hl (by decide) rfl (fun ls hl => ?_)
        refine lv_iload (pc := 95) hx hb dX12_lineNow_95 (lv_at hl 7 rfl) ?_
        refine lv_istore (pc := 97) (lv' := [(5, .int v7), (4, .int v6), (3, .int v8_82), (0, .ref (bd 0)), (1, .int v1), (2, .int v2), (6, .int v6), (7, .int v7), (8, .int v8_82)]) hx hb dX12_lineNow_97 hl (by decide) rfl (fun ls hl => ?_)
        exact WB_X12_lineNow_99 v1 v2 v8_82 v6 v7 v6 v7 D X (kb := (L_X12_lineNow_23 v1 v6 D kx n_)) ih Y (lv_sub hl [3, 4, 5, 2, 1, 0, 6, 7] rfl) h
set_option maxHeartbeats 4000000 in
set_option maxRecDepth 100000 in
theorem WL_X12_lineNow_12 {r9 : Int32} (v1 : Int32) (v2 : Int32) (D : Mem) (X : Cx p s m args meth c cX12_lineNow RX12 10 (some .int) dC dI ad bd cI cZ) {kx : Int32 → Int32 → Int32 → Option Int32} (hkx : ∀ (v3' : Int32) (v4' : Int32) (v5' : Int32) (H : Heap) (locs : List Loc) (ls : Array Slot), Ys s dC dI ad bd cI cZ C D H locs → lv_has ls 10 [(2, .int v2), (3, .int v3'), (4, .int v4'), (5, .int v5')] → kx v3' v4' v5' = some r9 → W p l e rm_X12_lineNow s m args below meth c H locs 0 0 (MQ below (QC (some (.int r9)) dC dI ad bd cI cZ C D) args s 0 0 (AD ad bd)) (F0 m 111 ls [])) : ∀ (n_ : Nat) (v3 : Int32) (v4 : Int32) (v5 : Int32) (v6 : Int32) (H : Heap) (locs : List Loc) (ls : Array Slot), Ys s dC dI ad bd cI cZ C D H locs → lv_has ls 10 [(0, .ref (bd 0)), (1, .int v1), (2, .int v2), (3, .int v3), (4, .int v4), (5, .int v5), (6, .int v6)] → L_X12_lineNow_12 v1 D kx n_ v3 v4 v5 v6 = some r9 → W p l e rm_X12_lineNow s m args below meth c H locs 0 0 (MQ below (QC (some (.int r9)) dC dI ad bd cI cZ C D) args s 0 0 (AD ad bd)) (F0 m 12 ls []) := by
  have hx := X.1
  have hb := X.2.1
  intro n_
  induction n_ with
  | zero =>
    intro v3 v4 v5 v6 H locs ls Y hl h
    cases h
  | succ n_ ih =>
    intro v3 v4 v5 v6 H locs ls Y hl h
    unfold L_X12_lineNow_12 at h
    refine lv_iload (pc := 12) hx hb dX12_lineNow_12 (lv_at hl 6 rfl) ?_
    refine lv_bipush (pc := 14) (v := 11) hx hb dX12_lineNow_14 (by decide) ?_
    refine lv_icmp_ge (pc := 16) (tgt := 111) hx hb dX12_lineNow_16 (by decide) (fun c_16 => ?_) (fun c_16 => ?_)
    · have h := itp c_16 h
      exact hkx v3 v4 v5 H locs ls Y (lv_sub hl [2, 3, 4, 5] rfl) h
    · have h := itn c_16 h
      refine lv_bipush (pc := 19) (v := 10) hx hb dX12_lineNow_19 (by decide) ?_
      refine lv_istore (pc := 21) (lv' := [(7, .int 10), (0, .ref (bd 0)), (1, .int v1), (2, .int v2), (3, .int v3), (4, .int v4), (5, .int v5), (6, .int v6)]) hx hb dX12_lineNow_21 hl (by decide) rfl (fun ls hl => ?_)
      refine WL_X12_lineNow_23 v1 v2 v6 D X (fun v3_105 v4_105 v5_105 H locs ls Y hl h => ?_) FU v3 v4 v5 10 H locs ls Y (lv_sub hl [1, 2, 3, 4, 5, 6, 7, 0] rfl) h
      obtain ⟨v6_105, ev6_105, h⟩ := lt_s_ h
      refine lv_iinc (pc := 105) (v := v6_105) (lv' := [(6, .int v6_105), (0, .ref (bd 0)), (1, .int v1), (2, .int v2), (3, .int v3_105), (4, .int v4_105), (5, .int v5_105)]) hx hb dX12_lineNow_105 hl (k := 6) rfl (by rw [ev6_105]; rfl) (by decide) rfl (fun ls hl => ?_)
      refine lv_goto (pc := 108) (tgt := 12) hx hb dX12_lineNow_108 (by decide) ?_
      exact ih v3_105 v4_105 v5_105 v6_105 H locs ls Y (lv_sub hl [1, 2, 3, 4, 5, 6, 0] rfl) h
set_option maxHeartbeats 4000000 in
set_option maxRecDepth 100000 in
theorem c_X12_lineNow {r9 : Int32} (v1 : Int32) (v2 : Int32) (h : f_X12_lineNow v1 v2 D = some r9) : Ct l dC dI ad bd cI cZ yX12_lineNow cX12_lineNow 10 (some .int) rm_X12_lineNow [.ref (bd 0), .int v1, .int v2] C D (some (.int r9)) C D := by
  unfold f_X12_lineNow at h
  refine Ct.intro (own := RX12) (by decide) rfl (Nat.le_of_ble_eq_true rfl) ?_
  intro p e s m args below meth c H locs ls X Y hl
  have hx := X.1
  have hb := X.2.1
  have hl : lv_has ls 10 [(0, .ref (bd 0)), (1, .int v1), (2, .int v2)] := hl
  refine lv_bipush (pc := 0) (v := 99) hx hb dX12_lineNow_0 (by decide) ?_
  refine lv_istore_n (pc := 2) (lv' := [(3, .int 99), (0, .ref (bd 0)), (1, .int v1), (2, .int v2)]) hx hb dX12_lineNow_2 rfl hl (by decide) rfl (fun ls hl => ?_)
  refine lv_iconst (pc := 3) (v := 0) hx hb dX12_lineNow_3 (by decide) ?_
  refine lv_istore (pc := 4) (lv' := [(4, .int 0), (3, .int 99), (0, .ref (bd 0)), (1, .int v1), (2, .int v2)]) hx hb dX12_lineNow_4 hl (by decide) rfl (fun ls hl => ?_)
  refine lv_iconst (pc := 6) (v := 0) hx hb dX12_lineNow_6 (by decide) ?_
  refine lv_istore (pc := 7) (lv' := [(5, .int 0), (4, .int 0), (3, .int 99), (0, .ref (bd 0)), (1, .int v1), (2, .int v2)]) hx hb dX12_lineNow_7 hl (by decide) rfl (fun ls hl => ?_)
  refine lv_iconst (pc := 9) (v := 0) hx hb dX12_lineNow_9 (by decide) ?_
  refine lv_istore (pc := 10) (lv' := [(6, .int 0), (5, .int 0), (4, .int 0), (3, .int 99), (0, .ref (bd 0)), (1, .int v1), (2, .int v2)]) hx hb dX12_lineNow_10 hl (by decide) rfl (fun ls hl => ?_)
  refine WL_X12_lineNow_12 v1 v2 D X (fun v3_111 v4_111 v5_111 H locs ls Y hl h => ?_) FU 99 0 0 0 H locs ls Y (lv_sub hl [4, 5, 6, 3, 2, 1, 0] rfl) h
  refine lv_iload_n (pc := 111) hx hb dX12_lineNow_111 rfl (lv_at hl 0 rfl) ?_
  refine lv_if_ne (pc := 112) (tgt := 119) hx hb dX12_lineNow_112 (by decide) (fun c_112 => ?_) (fun c_112 => ?_)
  · have h := itn c_112 h
    refine lv_iload_n (pc := 119) hx hb dX12_lineNow_119 rfl (lv_at hl 0 rfl) ?_
    refine lv_iconst (pc := 120) (v := 1) hx hb dX12_lineNow_120 (by decide) ?_
    refine lv_icmp_ne (pc := 121) (tgt := 129) hx hb dX12_lineNow_121 (by decide) (fun c_121 => ?_) (fun c_121 => ?_)
    · have h := itn c_121 h
      refine lv_iload (pc := 129) hx hb dX12_lineNow_129 (lv_at hl 3 rfl) ?_
      have hr9 := ret_p h
      exact fin_i (pc := 131) X rfl Y hr9 rfl rfl dX12_lineNow_131
    · have h := itp c_121 h
      refine lv_iload (pc := 124) hx hb dX12_lineNow_124 (lv_at hl 2 rfl) ?_
      refine lv_goto (pc := 126) (tgt := 131) hx hb dX12_lineNow_126 (by decide) ?_
      have hr9 := ret_p h
      exact fin_i (pc := 131) X rfl Y hr9 rfl rfl dX12_lineNow_131
  · have h := itp c_112 h
    refine lv_iload_n (pc := 115) hx hb dX12_lineNow_115 rfl (lv_at hl 1 rfl) ?_
    refine lv_goto (pc := 116) (tgt := 131) hx hb dX12_lineNow_116 (by decide) ?_
    have hr9 := ret_p h
    exact fin_i (pc := 131) X rfl Y hr9 rfl rfl dX12_lineNow_131
abbrev rm_X12_line : Room := { frames := 2, cells := 0, slots := 0, locals := 51 }
set_option maxHeartbeats 4000000 in
set_option maxRecDepth 100000 in
theorem c_X12_line {r9 : Int32} (v1 : Int32) (v2 : Int32) (h : f_X12_line v1 v2 D = some r9) : Ct l dC dI ad bd cI cZ yX12_line cX12_line 3 (some .int) rm_X12_line [.ref (bd 0), .int v1, .int v2] C D (some (.int r9)) C D := by
  unfold f_X12_line at h
  refine Ct.intro (own := RX12) (by decide) rfl (Nat.le_of_ble_eq_true rfl) ?_
  intro p e s m args below meth c H locs ls X Y hl
  have hx := X.1
  have hb := X.2.1
  have hl : lv_has ls 3 [(0, .ref (bd 0)), (1, .int v1), (2, .int v2)] := hl
  refine lv_iload_n (pc := 0) hx hb dX12_line_0 rfl (lv_at hl 1 rfl) ?_
  refine lv_iconst (pc := 1) (v := 0) hx hb dX12_line_1 (by decide) ?_
  refine lv_aload_n (pc := 2) hx hb dX12_line_2 rfl (lv_at hl 0 rfl) ?_
  refine gf_X12_176 (pc := 3) X Y dX12_line_3 ?_
  refine lv_iconst (pc := 6) (v := 1) hx hb dX12_line_6 (by decide) ?_
  refine lv_isub (pc := 7) hx hb dX12_line_7 ?_
  refine call_si (pc := 8) (rest := []) [.int v1, .int 0, .int ((D 0 9) - 1)] X Y (c_X12_in v1 0 ((D 0 9) - 1)) sw_X12_107 rfl ⟨rfl, rfl, Nat.le_of_ble_eq_true rfl, Nat.le_of_ble_eq_true rfl⟩ hl rfl (Nat.le_of_ble_eq_true rfl) dX12_line_8 (fun H locs Y => ?_)
  refine lv_if_eq (pc := 11) (tgt := 32) hx hb dX12_line_11 (by decide) (fun c_11 => ?_) (fun c_11 => ?_)
  · have h := itn (b2i_f c_11) h
    refine lv_bipush (pc := 32) (v := (-2)) hx hb dX12_line_32 (by decide) ?_
    have hr9 := ret_p h
    exact fin_i (pc := 34) X rfl Y hr9 rfl rfl dX12_line_34
  · have h := itp (b2i_t c_11) h
    refine lv_iload_n (pc := 14) hx hb dX12_line_14 rfl (lv_at hl 2 rfl) ?_
    refine lv_iconst (pc := 15) (v := 0) hx hb dX12_line_15 (by decide) ?_
    refine lv_iconst (pc := 16) (v := 2) hx hb dX12_line_16 (by decide) ?_
    refine call_si (pc := 17) (rest := []) [.int v2, .int 0, .int 2] X Y (c_X12_in v2 0 2) sw_X12_107 rfl ⟨rfl, rfl, Nat.le_of_ble_eq_true rfl, Nat.le_of_ble_eq_true rfl⟩ hl rfl (Nat.le_of_ble_eq_true rfl) dX12_line_17 (fun H locs Y => ?_)
    refine lv_if_eq (pc := 20) (tgt := 32) hx hb dX12_line_20 (by decide) (fun c_20 => ?_) (fun c_20 => ?_)
    · have h := itn (b2i_f c_20) h
      refine lv_bipush (pc := 32) (v := (-2)) hx hb dX12_line_32 (by decide) ?_
      have hr9 := ret_p h
      exact fin_i (pc := 34) X rfl Y hr9 rfl rfl dX12_line_34
    · have h := itp (b2i_t c_20) h
      refine lv_aload_n (pc := 23) hx hb dX12_line_23 rfl (lv_at hl 0 rfl) ?_
      refine lv_iload_n (pc := 24) hx hb dX12_line_24 rfl (lv_at hl 1 rfl) ?_
      refine lv_iload_n (pc := 25) hx hb dX12_line_25 rfl (lv_at hl 2 rfl) ?_
      obtain ⟨r_26, e_26, h⟩ := bnd_s h
      refine call_vi (pc := 26) (rest := []) [.int v1, .int v2] X Y (c_X12_lineNow v1 v2 e_26) sw_X12_183 (rv_X12 X Y) rfl ⟨rfl, rfl, Nat.le_of_ble_eq_true rfl, Nat.le_of_ble_eq_true rfl⟩ hl rfl (Nat.le_of_ble_eq_true rfl) dX12_line_26 (fun H locs Y => ?_)
      refine lv_goto (pc := 29) (tgt := 34) hx hb dX12_line_29 (by decide) ?_
      have hr9 := ret_p h
      exact fin_i (pc := 34) X rfl Y hr9 rfl rfl dX12_line_34
abbrev rm_X12_rowsOf : Room := { frames := 0, cells := 0, slots := 0, locals := 0 }
set_option maxHeartbeats 4000000 in
set_option maxRecDepth 100000 in
theorem WB_X12_rowsOf_33 {r9 : Int32} (x0 : Int32) (x1 : Int32) (v1 : Int32) (v3 : Int32) (D : Mem) (X : Cx p s m args meth c cX12_rowsOf RX12 4 (some .int) dC dI ad bd cI cZ) {kb : Int32 → Int32 → Option Int32} (hkb : ∀ (v2' : Int32) (v3' : Int32) (H : Heap) (locs : List Loc) (ls : Array Slot), Ys s dC dI ad bd cI cZ C D H locs → lv_has ls 4 [(0, .ref (bd 0)), (1, .int v1), (2, .int v2'), (3, .int v3')] → kb v2' v3' = some r9 → W p l e rm_X12_rowsOf s m args below meth c H locs 0 0 (MQ below (QC (some (.int r9)) dC dI ad bd cI cZ C D) args s 0 0 (AD ad bd)) (F0 m 4 ls [])) {H : Heap} {locs : List Loc} {ls : Array Slot} (Y : Ys s dC dI ad bd cI cZ C D H locs) (hl : lv_has ls 4 [(0, .ref (bd 0)), (1, .int v1), (3, .int v3)]) (h : B_X12_rowsOf_33 x0 x1 v3 kb = some r9) : W p l e rm_X12_rowsOf s m args below meth c H locs 0 0 (MQ below (QC (some (.int r9)) dC dI ad bd cI cZ C D) args s 0 0 (AD ad bd)) (F0 m 33 ls [.int x1, .int x0]) := by
  have hx := X.1
  have hb := X.2.1
  unfold B_X12_rowsOf_33 at h
  refine lv_iadd (pc := 33) hx hb dX12_rowsOf_33 ?_
  obtain ⟨v2_34, ev2_34, h⟩ := lt_s_ h
  refine top_i ev2_34 ?_
  refine lv_istore_n (pc := 34) (lv' := [(2, .int v2_34), (0, .ref (bd 0)), (1, .int v1), (3, .int v3)]) hx hb dX12_rowsOf_34 rfl hl (by decide) rfl (fun ls hl => ?_)
  obtain ⟨v3_35, ev3_35, h⟩ := lt_s_ h
  refine lv_iinc (pc := 35) (v := v3_35) (lv' := [(3, .int v3_35), (2, .int v2_34), (0, .ref (bd 0)), (1, .int v1)]) hx hb dX12_rowsOf_35 hl (k := 3) rfl (by rw [ev3_35]; rfl) (by decide) rfl (fun ls hl => ?_)
  refine lv_goto (pc := 38) (tgt := 4) hx hb dX12_rowsOf_38 (by decide) ?_
  exact hkb v2_34 v3_35 H locs ls Y (lv_sub hl [2, 3, 1, 0] rfl) h
set_option maxHeartbeats 4000000 in
set_option maxRecDepth 100000 in
theorem WB_X12_rowsOf_28 {r9 : Int32} (x0 : Int32) (v1 : Int32) (v3 : Int32) (D : Mem) (X : Cx p s m args meth c cX12_rowsOf RX12 4 (some .int) dC dI ad bd cI cZ) {kb : Int32 → Int32 → Option Int32} (hkb : ∀ (v2' : Int32) (v3' : Int32) (H : Heap) (locs : List Loc) (ls : Array Slot), Ys s dC dI ad bd cI cZ C D H locs → lv_has ls 4 [(0, .ref (bd 0)), (1, .int v1), (2, .int v2'), (3, .int v3')] → kb v2' v3' = some r9 → W p l e rm_X12_rowsOf s m args below meth c H locs 0 0 (MQ below (QC (some (.int r9)) dC dI ad bd cI cZ C D) args s 0 0 (AD ad bd)) (F0 m 4 ls [])) {H : Heap} {locs : List Loc} {ls : Array Slot} (Y : Ys s dC dI ad bd cI cZ C D H locs) (hl : lv_has ls 4 [(0, .ref (bd 0)), (1, .int v1), (3, .int v3)]) (h : B_X12_rowsOf_28 x0 v3 kb = some r9) : W p l e rm_X12_rowsOf s m args below meth c H locs 0 0 (MQ below (QC (some (.int r9)) dC dI ad bd cI cZ C D) args s 0 0 (AD ad bd)) (F0 m 28 ls [.int x0]) := by
  have hx := X.1
  have hb := X.2.1
  unfold B_X12_rowsOf_28 at h
  refine lv_iconst (pc := 28) (v := 1) hx hb dX12_rowsOf_28 (by decide) ?_
  refine lv_goto (pc := 29) (tgt := 33) hx hb dX12_rowsOf_29 (by decide) ?_
  exact WB_X12_rowsOf_33 x0 1 v1 v3 D X (kb := kb) hkb Y (lv_sub hl [0, 1, 2] rfl) h
set_option maxHeartbeats 4000000 in
set_option maxRecDepth 100000 in
theorem WL_X12_rowsOf_4 {r9 : Int32} (v1 : Int32) (D : Mem) (X : Cx p s m args meth c cX12_rowsOf RX12 4 (some .int) dC dI ad bd cI cZ) {kx : Int32 → Option Int32} (hkx : ∀ (v2' : Int32) (H : Heap) (locs : List Loc) (ls : Array Slot), Ys s dC dI ad bd cI cZ C D H locs → lv_has ls 4 [(2, .int v2')] → kx v2' = some r9 → W p l e rm_X12_rowsOf s m args below meth c H locs 0 0 (MQ below (QC (some (.int r9)) dC dI ad bd cI cZ C D) args s 0 0 (AD ad bd)) (F0 m 41 ls [])) : ∀ (n_ : Nat) (v2 : Int32) (v3 : Int32) (H : Heap) (locs : List Loc) (ls : Array Slot), Ys s dC dI ad bd cI cZ C D H locs → lv_has ls 4 [(0, .ref (bd 0)), (1, .int v1), (2, .int v2), (3, .int v3)] → L_X12_rowsOf_4 v1 D kx n_ v2 v3 = some r9 → W p l e rm_X12_rowsOf s m args below meth c H locs 0 0 (MQ below (QC (some (.int r9)) dC dI ad bd cI cZ C D) args s 0 0 (AD ad bd)) (F0 m 4 ls []) := by
  have hx := X.1
  have hb := X.2.1
  intro n_
  induction n_ with
  | zero =>
    intro v2 v3 H locs ls Y hl h
    cases h
  | succ n_ ih =>
    intro v2 v3 H locs ls Y hl h
    unfold L_X12_rowsOf_4 at h
    refine lv_iload_n (pc := 4) hx hb dX12_rowsOf_4 rfl (lv_at hl 3 rfl) ?_
    refine lv_aload_n (pc := 5) hx hb dX12_rowsOf_5 rfl (lv_at hl 0 rfl) ?_
    refine gf_X12_176 (pc := 6) X Y dX12_rowsOf_6 ?_
    refine lv_icmp_ge (pc := 9) (tgt := 41) hx hb dX12_rowsOf_9 (by decide) (fun c_9 => ?_) (fun c_9 => ?_)
    · have h := itp c_9 h
      exact hkx v2 H locs ls Y (lv_sub hl [2] rfl) h
    · have h := itn c_9 h
      refine lv_iload_n (pc := 12) hx hb dX12_rowsOf_12 rfl (lv_at hl 2 rfl) ?_
      refine lv_iload_n (pc := 13) hx hb dX12_rowsOf_13 rfl (lv_at hl 1 rfl) ?_
      refine lv_iconst (pc := 14) (v := (-1)) hx hb dX12_rowsOf_14 (by decide) ?_
      refine lv_icmp_eq (pc := 15) (tgt := 28) hx hb dX12_rowsOf_15 (by decide) (fun c_15 => ?_) (fun c_15 => ?_)
      · have h := itp c_15 h
        exact WB_X12_rowsOf_28 v2 v1 v3 D X (kb := (L_X12_rowsOf_4 v1 D kx n_)) ih Y (lv_sub hl [0, 1, 3] rfl) h
      · have h := itn c_15 h
        refine lv_aload_n (pc := 18) hx hb dX12_rowsOf_18 rfl (lv_at hl 0 rfl) ?_
        refine gf_X12_32 (pc := 19) X Y dX12_rowsOf_19 ?_
        refine lv_iload_n (pc := 22) hx hb dX12_rowsOf_22 rfl (lv_at hl 3 rfl) ?_
        obtain ⟨g_23, h⟩ := gd_s h
        refine r_ialdm (pc := 23) X Y (cm_7 bd cI cZ) g_23 dX12_rowsOf_23 ?_
        refine lv_iload_n (pc := 24) hx hb dX12_rowsOf_24 rfl (lv_at hl 1 rfl) ?_
        refine lv_icmp_ne (pc := 25) (tgt := 32) hx hb dX12_rowsOf_25 (by decide) (fun c_25 => ?_) (fun c_25 => ?_)
        · have h := itn c_25 h
          refine lv_iconst (pc := 32) (v := 0) hx hb dX12_rowsOf_32 (by decide) ?_
          exact WB_X12_rowsOf_33 v2 0 v1 v3 D X (kb := (L_X12_rowsOf_4 v1 D kx n_)) ih Y (lv_sub hl [0, 1, 3] rfl) h
        · have h := itp c_25 h
          exact WB_X12_rowsOf_28 v2 v1 v3 D X (kb := (L_X12_rowsOf_4 v1 D kx n_)) ih Y (lv_sub hl [0, 1, 3] rfl) h
set_option maxHeartbeats 4000000 in
set_option maxRecDepth 100000 in
theorem c_X12_rowsOf {r9 : Int32} (v1 : Int32) (h : f_X12_rowsOf v1 D = some r9) : Ct l dC dI ad bd cI cZ yX12_rowsOf cX12_rowsOf 4 (some .int) rm_X12_rowsOf [.ref (bd 0), .int v1] C D (some (.int r9)) C D := by
  unfold f_X12_rowsOf at h
  refine Ct.intro (own := RX12) (by decide) rfl (Nat.le_of_ble_eq_true rfl) ?_
  intro p e s m args below meth c H locs ls X Y hl
  have hx := X.1
  have hb := X.2.1
  have hl : lv_has ls 4 [(0, .ref (bd 0)), (1, .int v1)] := hl
  refine lv_iconst (pc := 0) (v := 0) hx hb dX12_rowsOf_0 (by decide) ?_
  refine lv_istore_n (pc := 1) (lv' := [(2, .int 0), (0, .ref (bd 0)), (1, .int v1)]) hx hb dX12_rowsOf_1 rfl hl (by decide) rfl (fun ls hl => ?_)
  refine lv_iconst (pc := 2) (v := 0) hx hb dX12_rowsOf_2 (by decide) ?_
  refine lv_istore_n (pc := 3) (lv' := [(3, .int 0), (2, .int 0), (0, .ref (bd 0)), (1, .int v1)]) hx hb dX12_rowsOf_3 rfl hl (by decide) rfl (fun ls hl => ?_)
  refine WL_X12_rowsOf_4 v1 D X (fun v2_41 H locs ls Y hl h => ?_) FU 0 0 H locs ls Y (lv_sub hl [2, 3, 1, 0] rfl) h
  refine lv_iload_n (pc := 41) hx hb dX12_rowsOf_41 rfl (lv_at hl 0 rfl) ?_
  have hr9 := ret_p h
  exact fin_i (pc := 42) X rfl Y hr9 rfl rfl dX12_rowsOf_42
abbrev rm_X12_yesesOf : Room := { frames := 1, cells := 0, slots := 0, locals := 21 }
set_option maxHeartbeats 4000000 in
set_option maxRecDepth 100000 in
theorem WB_X12_yesesOf_50 {r9 : Int32} (x0 : Int32) (x1 : Int32) (v1 : Int32) (v2 : Int32) (v4 : Int32) (D : Mem) (X : Cx p s m args meth c cX12_yesesOf RX12 5 (some .int) dC dI ad bd cI cZ) {kb : Int32 → Int32 → Option Int32} (hkb : ∀ (v3' : Int32) (v4' : Int32) (H : Heap) (locs : List Loc) (ls : Array Slot), Ys s dC dI ad bd cI cZ C D H locs → lv_has ls 5 [(0, .ref (bd 0)), (1, .int v1), (2, .int v2), (3, .int v3'), (4, .int v4')] → kb v3' v4' = some r9 → W p l e rm_X12_yesesOf s m args below meth c H locs 0 0 (MQ below (QC (some (.int r9)) dC dI ad bd cI cZ C D) args s 0 0 (AD ad bd)) (F0 m 5 ls [])) {H : Heap} {locs : List Loc} {ls : Array Slot} (Y : Ys s dC dI ad bd cI cZ C D H locs) (hl : lv_has ls 5 [(0, .ref (bd 0)), (1, .int v1), (2, .int v2), (4, .int v4)]) (h : B_X12_yesesOf_50 x0 x1 v4 kb = some r9) : W p l e rm_X12_yesesOf s m args below meth c H locs 0 0 (MQ below (QC (some (.int r9)) dC dI ad bd cI cZ C D) args s 0 0 (AD ad bd)) (F0 m 50 ls [.int x1, .int x0]) := by
  have hx := X.1
  have hb := X.2.1
  unfold B_X12_yesesOf_50 at h
  refine lv_iadd (pc := 50) hx hb dX12_yesesOf_50 ?_
  obtain ⟨v3_51, ev3_51, h⟩ := lt_s_ h
  refine top_i ev3_51 ?_
  refine lv_istore_n (pc := 51) (lv' := [(3, .int v3_51), (0, .ref (bd 0)), (1, .int v1), (2, .int v2), (4, .int v4)]) hx hb dX12_yesesOf_51 rfl hl (by decide) rfl (fun ls hl => ?_)
  obtain ⟨v4_52, ev4_52, h⟩ := lt_s_ h
  refine lv_iinc (pc := 52) (v := v4_52) (lv' := [(4, .int v4_52), (3, .int v3_51), (0, .ref (bd 0)), (1, .int v1), (2, .int v2)]) hx hb dX12_yesesOf_52 hl (k := 4) rfl (by rw [ev4_52]; rfl) (by decide) rfl (fun ls hl => ?_)
  refine lv_goto (pc := 55) (tgt := 5) hx hb dX12_yesesOf_55 (by decide) ?_
  exact hkb v3_51 v4_52 H locs ls Y (lv_sub hl [2, 3, 4, 1, 0] rfl) h
set_option maxHeartbeats 4000000 in
set_option maxRecDepth 100000 in
theorem WB_X12_yesesOf_49 {r9 : Int32} (x0 : Int32) (v1 : Int32) (v2 : Int32) (v4 : Int32) (D : Mem) (X : Cx p s m args meth c cX12_yesesOf RX12 5 (some .int) dC dI ad bd cI cZ) {kb : Int32 → Int32 → Option Int32} (hkb : ∀ (v3' : Int32) (v4' : Int32) (H : Heap) (locs : List Loc) (ls : Array Slot), Ys s dC dI ad bd cI cZ C D H locs → lv_has ls 5 [(0, .ref (bd 0)), (1, .int v1), (2, .int v2), (3, .int v3'), (4, .int v4')] → kb v3' v4' = some r9 → W p l e rm_X12_yesesOf s m args below meth c H locs 0 0 (MQ below (QC (some (.int r9)) dC dI ad bd cI cZ C D) args s 0 0 (AD ad bd)) (F0 m 5 ls [])) {H : Heap} {locs : List Loc} {ls : Array Slot} (Y : Ys s dC dI ad bd cI cZ C D H locs) (hl : lv_has ls 5 [(0, .ref (bd 0)), (1, .int v1), (2, .int v2), (4, .int v4)]) (h : B_X12_yesesOf_49 x0 v4 kb = some r9) : W p l e rm_X12_yesesOf s m args below meth c H locs 0 0 (MQ below (QC (some (.int r9)) dC dI ad bd cI cZ C D) args s 0 0 (AD ad bd)) (F0 m 49 ls [.int x0]) := by
  have hx := X.1
  have hb := X.2.1
  unfold B_X12_yesesOf_49 at h
  refine lv_iconst (pc := 49) (v := 0) hx hb dX12_yesesOf_49 (by decide) ?_
  exact WB_X12_yesesOf_50 x0 0 v1 v2 v4 D X (kb := kb) hkb Y (lv_sub hl [0, 1, 2, 3] rfl) h
set_option maxHeartbeats 4000000 in
set_option maxRecDepth 100000 in
theorem WB_X12_yesesOf_31 {r9 : Int32} (x0 : Int32) (v1 : Int32) (v2 : Int32) (v4 : Int32) (D : Mem) (X : Cx p s m args meth c cX12_yesesOf RX12 5 (some .int) dC dI ad bd cI cZ) {kb : Int32 → Int32 → Option Int32} (hkb : ∀ (v3' : Int32) (v4' : Int32) (H : Heap) (locs : List Loc) (ls : Array Slot), Ys s dC dI ad bd cI cZ C D H locs → lv_has ls 5 [(0, .ref (bd 0)), (1, .int v1), (2, .int v2), (3, .int v3'), (4, .int v4')] → kb v3' v4' = some r9 → W p l e rm_X12_yesesOf s m args below meth c H locs 0 0 (MQ below (QC (some (.int r9)) dC dI ad bd cI cZ C D) args s 0 0 (AD ad bd)) (F0 m 5 ls [])) {H : Heap} {locs : List Loc} {ls : Array Slot} (Y : Ys s dC dI ad bd cI cZ C D H locs) (hl : lv_has ls 5 [(0, .ref (bd 0)), (1, .int v1), (2, .int v2), (4, .int v4)]) (h : B_X12_yesesOf_31 x0 v2 v4 D kb = some r9) : W p l e rm_X12_yesesOf s m args below meth c H locs 0 0 (MQ below (QC (some (.int r9)) dC dI ad bd cI cZ C D) args s 0 0 (AD ad bd)) (F0 m 31 ls [.int x0]) := by
  have hx := X.1
  have hb := X.2.1
  unfold B_X12_yesesOf_31 at h
  refine lv_aload_n (pc := 31) hx hb dX12_yesesOf_31 rfl (lv_at hl 0 rfl) ?_
  refine gf_X12_35 (pc := 32) X Y dX12_yesesOf_32 ?_
  refine lv_iload (pc := 35) hx hb dX12_yesesOf_35 (lv_at hl 3 rfl) ?_
  obtain ⟨g_37, h⟩ := gd_s h
  refine r_ialdm (pc := 37) X Y (cm_8 bd cI cZ) g_37 dX12_yesesOf_37 ?_
  refine lv_iload_n (pc := 38) hx hb dX12_yesesOf_38 rfl (lv_at hl 2 rfl) ?_
  refine call_si (pc := 39) (rest := [.int x0]) [.int (D 8 v4.toNatClampNeg), .int v2] X Y (c_X12_has (D 8 v4.toNatClampNeg) v2) sw_X12_179 rfl ⟨rfl, rfl, Nat.le_of_ble_eq_true rfl, Nat.le_of_ble_eq_true rfl⟩ hl rfl (Nat.le_of_ble_eq_true rfl) dX12_yesesOf_39 (fun H locs Y => ?_)
  refine lv_if_eq (pc := 42) (tgt := 49) hx hb dX12_yesesOf_42 (by decide) (fun c_42 => ?_) (fun c_42 => ?_)
  · have h := itn (b2i_f c_42) h
    exact WB_X12_yesesOf_49 x0 v1 v2 v4 D X (kb := kb) hkb Y (lv_sub hl [0, 1, 2, 3] rfl) h
  · have h := itp (b2i_t c_42) h
    refine lv_iconst (pc := 45) (v := 1) hx hb dX12_yesesOf_45 (by decide) ?_
    refine lv_goto (pc := 46) (tgt := 50) hx hb dX12_yesesOf_46 (by decide) ?_
    exact WB_X12_yesesOf_50 x0 1 v1 v2 v4 D X (kb := kb) hkb Y (lv_sub hl [0, 1, 2, 3] rfl) h
set_option maxHeartbeats 4000000 in
set_option maxRecDepth 100000 in
theorem WL_X12_yesesOf_5 {r9 : Int32} (v1 : Int32) (v2 : Int32) (D : Mem) (X : Cx p s m args meth c cX12_yesesOf RX12 5 (some .int) dC dI ad bd cI cZ) {kx : Int32 → Option Int32} (hkx : ∀ (v3' : Int32) (H : Heap) (locs : List Loc) (ls : Array Slot), Ys s dC dI ad bd cI cZ C D H locs → lv_has ls 5 [(3, .int v3')] → kx v3' = some r9 → W p l e rm_X12_yesesOf s m args below meth c H locs 0 0 (MQ below (QC (some (.int r9)) dC dI ad bd cI cZ C D) args s 0 0 (AD ad bd)) (F0 m 58 ls [])) : ∀ (n_ : Nat) (v3 : Int32) (v4 : Int32) (H : Heap) (locs : List Loc) (ls : Array Slot), Ys s dC dI ad bd cI cZ C D H locs → lv_has ls 5 [(0, .ref (bd 0)), (1, .int v1), (2, .int v2), (3, .int v3), (4, .int v4)] → L_X12_yesesOf_5 v1 v2 D kx n_ v3 v4 = some r9 → W p l e rm_X12_yesesOf s m args below meth c H locs 0 0 (MQ below (QC (some (.int r9)) dC dI ad bd cI cZ C D) args s 0 0 (AD ad bd)) (F0 m 5 ls []) := by
  have hx := X.1
  have hb := X.2.1
  intro n_
  induction n_ with
  | zero =>
    intro v3 v4 H locs ls Y hl h
    cases h
  | succ n_ ih =>
    intro v3 v4 H locs ls Y hl h
    unfold L_X12_yesesOf_5 at h
    refine lv_iload (pc := 5) hx hb dX12_yesesOf_5 (lv_at hl 4 rfl) ?_
    refine lv_aload_n (pc := 7) hx hb dX12_yesesOf_7 rfl (lv_at hl 0 rfl) ?_
    refine gf_X12_176 (pc := 8) X Y dX12_yesesOf_8 ?_
    refine lv_icmp_ge (pc := 11) (tgt := 58) hx hb dX12_yesesOf_11 (by decide) (fun c_11 => ?_) (fun c_11 => ?_)
    · have h := itp c_11 h
      exact hkx v3 H locs ls Y (lv_sub hl [3] rfl) h
    · have h := itn c_11 h
      refine lv_iload_n (pc := 14) hx hb dX12_yesesOf_14 rfl (lv_at hl 3 rfl) ?_
      refine lv_iload_n (pc := 15) hx hb dX12_yesesOf_15 rfl (lv_at hl 1 rfl) ?_
      refine lv_iconst (pc := 16) (v := (-1)) hx hb dX12_yesesOf_16 (by decide) ?_
      refine lv_icmp_eq (pc := 17) (tgt := 31) hx hb dX12_yesesOf_17 (by decide) (fun c_17 => ?_) (fun c_17 => ?_)
      · have h := itp c_17 h
        exact WB_X12_yesesOf_31 v3 v1 v2 v4 D X (kb := (L_X12_yesesOf_5 v1 v2 D kx n_)) ih Y (lv_sub hl [0, 1, 2, 4] rfl) h
      · have h := itn c_17 h
        refine lv_aload_n (pc := 20) hx hb dX12_yesesOf_20 rfl (lv_at hl 0 rfl) ?_
        refine gf_X12_32 (pc := 21) X Y dX12_yesesOf_21 ?_
        refine lv_iload (pc := 24) hx hb dX12_yesesOf_24 (lv_at hl 4 rfl) ?_
        obtain ⟨g_26, h⟩ := gd_s h
        refine r_ialdm (pc := 26) X Y (cm_7 bd cI cZ) g_26 dX12_yesesOf_26 ?_
        refine lv_iload_n (pc := 27) hx hb dX12_yesesOf_27 rfl (lv_at hl 1 rfl) ?_
        refine lv_icmp_ne (pc := 28) (tgt := 49) hx hb dX12_yesesOf_28 (by decide) (fun c_28 => ?_) (fun c_28 => ?_)
        · have h := itn c_28 h
          exact WB_X12_yesesOf_49 v3 v1 v2 v4 D X (kb := (L_X12_yesesOf_5 v1 v2 D kx n_)) ih Y (lv_sub hl [0, 1, 2, 4] rfl) h
        · have h := itp c_28 h
          exact WB_X12_yesesOf_31 v3 v1 v2 v4 D X (kb := (L_X12_yesesOf_5 v1 v2 D kx n_)) ih Y (lv_sub hl [0, 1, 2, 4] rfl) h
set_option maxHeartbeats 4000000 in
set_option maxRecDepth 100000 in
theorem c_X12_yesesOf {r9 : Int32} (v1 : Int32) (v2 : Int32) (h : f_X12_yesesOf v1 v2 D = some r9) : Ct l dC dI ad bd cI cZ yX12_yesesOf cX12_yesesOf 5 (some .int) rm_X12_yesesOf [.ref (bd 0), .int v1, .int v2] C D (some (.int r9)) C D := by
  unfold f_X12_yesesOf at h
  refine Ct.intro (own := RX12) (by decide) rfl (Nat.le_of_ble_eq_true rfl) ?_
  intro p e s m args below meth c H locs ls X Y hl
  have hx := X.1
  have hb := X.2.1
  have hl : lv_has ls 5 [(0, .ref (bd 0)), (1, .int v1), (2, .int v2)] := hl
  refine lv_iconst (pc := 0) (v := 0) hx hb dX12_yesesOf_0 (by decide) ?_
  refine lv_istore_n (pc := 1) (lv' := [(3, .int 0), (0, .ref (bd 0)), (1, .int v1), (2, .int v2)]) hx hb dX12_yesesOf_1 rfl hl (by decide) rfl (fun ls hl => ?_)
  refine lv_iconst (pc := 2) (v := 0) hx hb dX12_yesesOf_2 (by decide) ?_
  refine lv_istore (pc := 3) (lv' := [(4, .int 0), (3, .int 0), (0, .ref (bd 0)), (1, .int v1), (2, .int v2)]) hx hb dX12_yesesOf_3 hl (by decide) rfl (fun ls hl => ?_)
  refine WL_X12_yesesOf_5 v1 v2 D X (fun v3_58 H locs ls Y hl h => ?_) FU 0 0 H locs ls Y (lv_sub hl [2, 3, 4, 1, 0] rfl) h
  refine lv_iload_n (pc := 58) hx hb dX12_yesesOf_58 rfl (lv_at hl 0 rfl) ?_
  have hr9 := ret_p h
  exact fin_i (pc := 59) X rfl Y hr9 rfl rfl dX12_yesesOf_59
abbrev rm_X12_taken : Room := { frames := 2, cells := 0, slots := 0, locals := 45 }
set_option maxHeartbeats 4000000 in
set_option maxRecDepth 100000 in
theorem WB_X12_taken_23 {r9 : Int64} (D : Mem) (X : Cx p s m args meth c cX12_taken RX12 5 (some .long) dC dI ad bd cI cZ) {H : Heap} {locs : List Loc} {ls : Array Slot} (Y : Ys s dC dI ad bd cI cZ C D H locs) (hl : lv_has ls 5 []) (h : B_X12_taken_23 = some r9) : W p l e rm_X12_taken s m args below meth c H locs 0 0 (MQ below (QC (some (.long r9)) dC dI ad bd cI cZ C D) args s 0 0 (AD ad bd)) (F0 m 23 ls []) := by
  have hx := X.1
  have hb := X.2.1
  unfold B_X12_taken_23 at h
  refine lv_bipush (pc := 23) (v := (-2)) hx hb dX12_taken_23 (by decide) ?_
  refine call_sl (pc := 25) (rest := []) [.int (-2)] X Y (c_X12_no (-2)) sw_X12_161 rfl ⟨rfl, rfl, Nat.le_of_ble_eq_true rfl, Nat.le_of_ble_eq_true rfl⟩ hl rfl (Nat.le_of_ble_eq_true rfl) dX12_taken_25 (fun H locs Y => ?_)
  have hr9 := ret_p h
  exact fin_l (pc := 28) X rfl Y hr9 rfl rfl dX12_taken_28
set_option maxHeartbeats 4000000 in
set_option maxRecDepth 100000 in
theorem c_X12_taken {r9 : Int64} (v1 : Int32) (v2 : Int32) (v3 : Int32) (h : f_X12_taken v1 v2 v3 D = some r9) : Ct l dC dI ad bd cI cZ yX12_taken cX12_taken 5 (some .long) rm_X12_taken [.ref (bd 0), .int v1, .int v2, .int v3] C D (some (.long r9)) C D := by
  unfold f_X12_taken at h
  refine Ct.intro (own := RX12) (by decide) rfl (Nat.le_of_ble_eq_true rfl) ?_
  intro p e s m args below meth c H locs ls X Y hl
  have hx := X.1
  have hb := X.2.1
  have hl : lv_has ls 5 [(0, .ref (bd 0)), (1, .int v1), (2, .int v2), (3, .int v3)] := hl
  refine lv_iload_n (pc := 0) hx hb dX12_taken_0 rfl (lv_at hl 1 rfl) ?_
  refine call_si (pc := 1) (rest := []) [.int v1] X Y (c_X12_isAny v1) sw_X12_154 rfl ⟨rfl, rfl, Nat.le_of_ble_eq_true rfl, Nat.le_of_ble_eq_true rfl⟩ hl rfl (Nat.le_of_ble_eq_true rfl) dX12_taken_1 (fun H locs Y => ?_)
  refine lv_if_eq (pc := 4) (tgt := 23) hx hb dX12_taken_4 (by decide) (fun c_4 => ?_) (fun c_4 => ?_)
  · have h := itn (b2i_f c_4) h
    exact WB_X12_taken_23  D X Y (lv_sub hl [] rfl) h
  · have h := itp (b2i_t c_4) h
    refine lv_iload_n (pc := 7) hx hb dX12_taken_7 rfl (lv_at hl 2 rfl) ?_
    refine call_si (pc := 8) (rest := []) [.int v2] X Y (c_X12_isOffer v2) sw_X12_118 rfl ⟨rfl, rfl, Nat.le_of_ble_eq_true rfl, Nat.le_of_ble_eq_true rfl⟩ hl rfl (Nat.le_of_ble_eq_true rfl) dX12_taken_8 (fun H locs Y => ?_)
    refine lv_if_eq (pc := 11) (tgt := 23) hx hb dX12_taken_11 (by decide) (fun c_11 => ?_) (fun c_11 => ?_)
    · have h := itn (b2i_f c_11) h
      exact WB_X12_taken_23  D X Y (lv_sub hl [] rfl) h
    · have h := itp (b2i_t c_11) h
      refine lv_iload_n (pc := 14) hx hb dX12_taken_14 rfl (lv_at hl 3 rfl) ?_
      refine lv_iconst (pc := 15) (v := 0) hx hb dX12_taken_15 (by decide) ?_
      refine lv_iconst (pc := 16) (v := 1) hx hb dX12_taken_16 (by decide) ?_
      refine call_si (pc := 17) (rest := []) [.int v3, .int 0, .int 1] X Y (c_X12_in v3 0 1) sw_X12_107 rfl ⟨rfl, rfl, Nat.le_of_ble_eq_true rfl, Nat.le_of_ble_eq_true rfl⟩ hl rfl (Nat.le_of_ble_eq_true rfl) dX12_taken_17 (fun H locs Y => ?_)
      refine lv_if_ne (pc := 20) (tgt := 29) hx hb dX12_taken_20 (by decide) (fun c_20 => ?_) (fun c_20 => ?_)
      · have h := itp (b2i_t c_20) h
        refine lv_aload_n (pc := 29) hx hb dX12_taken_29 rfl (lv_at hl 0 rfl) ?_
        refine lv_iload_n (pc := 30) hx hb dX12_taken_30 rfl (lv_at hl 1 rfl) ?_
        obtain ⟨r_31, e_31, h⟩ := bnd_s h
        refine call_vi (pc := 31) (rest := []) [.int v1] X Y (c_X12_rowsOf v1 e_31) sw_X12_186 (rv_X12 X Y) rfl ⟨rfl, rfl, Nat.le_of_ble_eq_true rfl, Nat.le_of_ble_eq_true rfl⟩ hl rfl (Nat.le_of_ble_eq_true rfl) dX12_taken_31 (fun H locs Y => ?_)
        refine lv_istore (pc := 34) (lv' := [(4, .int r_31), (0, .ref (bd 0)), (1, .int v1), (2, .int v2), (3, .int v3)]) hx hb dX12_taken_34 hl (by decide) rfl (fun ls hl => ?_)
        refine lv_iload (pc := 36) hx hb dX12_taken_36 (lv_at hl 0 rfl) ?_
        refine lv_if_ne (pc := 38) (tgt := 49) hx hb dX12_taken_38 (by decide) (fun c_38 => ?_) (fun c_38 => ?_)
        · have h := itn c_38 h
          refine lv_aload_n (pc := 49) hx hb dX12_taken_49 rfl (lv_at hl 1 rfl) ?_
          refine lv_iload_n (pc := 50) hx hb dX12_taken_50 rfl (lv_at hl 2 rfl) ?_
          refine lv_iload_n (pc := 51) hx hb dX12_taken_51 rfl (lv_at hl 3 rfl) ?_
          obtain ⟨r_52, e_52, h⟩ := bnd_s h
          refine call_vi (pc := 52) (rest := []) [.int v1, .int v2] X Y (c_X12_yesesOf v1 v2 e_52) sw_X12_189 (rv_X12 X Y) rfl ⟨rfl, rfl, Nat.le_of_ble_eq_true rfl, Nat.le_of_ble_eq_true rfl⟩ hl rfl (Nat.le_of_ble_eq_true rfl) dX12_taken_52 (fun H locs Y => ?_)
          refine lv_i2l (pc := 55) hx hb dX12_taken_55 rfl ?_
          refine lv_iload (pc := 56) hx hb dX12_taken_56 (lv_at hl 0 rfl) ?_
          refine lv_i2l (pc := 58) hx hb dX12_taken_58 rfl ?_
          refine lv_iload_n (pc := 59) hx hb dX12_taken_59 rfl (lv_at hl 4 rfl) ?_
          obtain ⟨r_60, e_60, h⟩ := bnd_s h
          refine call_sl (pc := 60) (rest := []) [.long (r_52.toInt64), .long (r_31.toInt64), .int v3] X Y (c_X12_lowest (r_52.toInt64) (r_31.toInt64) v3 e_60) sw_X12_168 rfl ⟨rfl, rfl, Nat.le_of_ble_eq_true rfl, Nat.le_of_ble_eq_true rfl⟩ hl rfl (Nat.le_of_ble_eq_true rfl) dX12_taken_60 (fun H locs Y => ?_)
          have hr9 := ret_p h
          exact fin_l (pc := 63) X rfl Y hr9 rfl rfl dX12_taken_63
        · have h := itp c_38 h
          refine lv_bipush (pc := 41) (v := (-3)) hx hb dX12_taken_41 (by decide) ?_
          refine call_sl (pc := 43) (rest := []) [.int (-3)] X Y (c_X12_no (-3)) sw_X12_161 rfl ⟨rfl, rfl, Nat.le_of_ble_eq_true rfl, Nat.le_of_ble_eq_true rfl⟩ hl rfl (Nat.le_of_ble_eq_true rfl) dX12_taken_43 (fun H locs Y => ?_)
          refine lv_goto (pc := 46) (tgt := 63) hx hb dX12_taken_46 (by decide) ?_
          have hr9 := ret_p h
          exact fin_l (pc := 63) X rfl Y hr9 rfl rfl dX12_taken_63
      · have h := itn (b2i_f c_20) h
        exact WB_X12_taken_23  D X Y (lv_sub hl [] rfl) h
abbrev rm_X12_bestNow : Room := { frames := 2, cells := 0, slots := 0, locals := 45 }
set_option maxHeartbeats 4000000 in
set_option maxRecDepth 100000 in
theorem WB_X12_bestNow_51 {r9 : Int32} (x0 : Int32) (v1 : Int32) (v3 : Int32) (D : Mem) (X : Cx p s m args meth c cX12_bestNow RX12 4 (some .int) dC dI ad bd cI cZ) {kb : Int32 → Int32 → Option Int32} (hkb : ∀ (v2' : Int32) (v3' : Int32) (H : Heap) (locs : List Loc) (ls : Array Slot), Ys s dC dI ad bd cI cZ C D H locs → lv_has ls 4 [(0, .ref (bd 0)), (1, .int v1), (2, .int v2'), (3, .int v3')] → kb v2' v3' = some r9 → W p l e rm_X12_bestNow s m args below meth c H locs 0 0 (MQ below (QC (some (.int r9)) dC dI ad bd cI cZ C D) args s 0 0 (AD ad bd)) (F0 m 15 ls [])) {H : Heap} {locs : List Loc} {ls : Array Slot} (Y : Ys s dC dI ad bd cI cZ C D H locs) (hl : lv_has ls 4 [(0, .ref (bd 0)), (1, .int v1), (3, .int v3)]) (h : B_X12_bestNow_51 x0 v3 kb = some r9) : W p l e rm_X12_bestNow s m args below meth c H locs 0 0 (MQ below (QC (some (.int r9)) dC dI ad bd cI cZ C D) args s 0 0 (AD ad bd)) (F0 m 51 ls [.int x0]) := by
  have hx := X.1
  have hb := X.2.1
  unfold B_X12_bestNow_51 at h
  refine lv_istore_n (pc := 51) (lv' := [(2, .int x0), (0, .ref (bd 0)), (1, .int v1), (3, .int v3)]) hx hb dX12_bestNow_51 rfl hl (by decide) rfl (fun ls hl => ?_)
  obtain ⟨v3_52, ev3_52, h⟩ := lt_s_ h
  refine lv_iinc (pc := 52) (v := v3_52) (lv' := [(3, .int v3_52), (2, .int x0), (0, .ref (bd 0)), (1, .int v1)]) hx hb dX12_bestNow_52 hl (k := 3) rfl (by rw [ev3_52]; rfl) (by decide) rfl (fun ls hl => ?_)
  refine lv_goto (pc := 55) (tgt := 15) hx hb dX12_bestNow_55 (by decide) ?_
  exact hkb x0 v3_52 H locs ls Y (lv_sub hl [2, 3, 1, 0] rfl) h
set_option maxHeartbeats 4000000 in
set_option maxRecDepth 100000 in
theorem WL_X12_bestNow_15 {r9 : Int32} (v1 : Int32) (D : Mem) (X : Cx p s m args meth c cX12_bestNow RX12 4 (some .int) dC dI ad bd cI cZ) {kx : Int32 → Option Int32} (hkx : ∀ (v2' : Int32) (H : Heap) (locs : List Loc) (ls : Array Slot), Ys s dC dI ad bd cI cZ C D H locs → lv_has ls 4 [(2, .int v2')] → kx v2' = some r9 → W p l e rm_X12_bestNow s m args below meth c H locs 0 0 (MQ below (QC (some (.int r9)) dC dI ad bd cI cZ C D) args s 0 0 (AD ad bd)) (F0 m 58 ls [])) : ∀ (n_ : Nat) (v2 : Int32) (v3 : Int32) (H : Heap) (locs : List Loc) (ls : Array Slot), Ys s dC dI ad bd cI cZ C D H locs → lv_has ls 4 [(0, .ref (bd 0)), (1, .int v1), (2, .int v2), (3, .int v3)] → L_X12_bestNow_15 v1 D kx n_ v2 v3 = some r9 → W p l e rm_X12_bestNow s m args below meth c H locs 0 0 (MQ below (QC (some (.int r9)) dC dI ad bd cI cZ C D) args s 0 0 (AD ad bd)) (F0 m 15 ls []) := by
  have hx := X.1
  have hb := X.2.1
  intro n_
  induction n_ with
  | zero =>
    intro v2 v3 H locs ls Y hl h
    cases h
  | succ n_ ih =>
    intro v2 v3 H locs ls Y hl h
    unfold L_X12_bestNow_15 at h
    refine lv_iload_n (pc := 15) hx hb dX12_bestNow_15 rfl (lv_at hl 3 rfl) ?_
    refine lv_bipush (pc := 16) (v := 11) hx hb dX12_bestNow_16 (by decide) ?_
    refine lv_icmp_ge (pc := 18) (tgt := 58) hx hb dX12_bestNow_18 (by decide) (fun c_18 => ?_) (fun c_18 => ?_)
    · have h := itp c_18 h
      exact hkx v2 H locs ls Y (lv_sub hl [2] rfl) h
    · have h := itn c_18 h
      refine lv_bipush (pc := 21) (v := 10) hx hb dX12_bestNow_21 (by decide) ?_
      refine lv_iload_n (pc := 23) hx hb dX12_bestNow_23 rfl (lv_at hl 3 rfl) ?_
      refine lv_isub (pc := 24) hx hb dX12_bestNow_24 ?_
      refine lv_aload_n (pc := 25) hx hb dX12_bestNow_25 rfl (lv_at hl 0 rfl) ?_
      refine lv_iload_n (pc := 26) hx hb dX12_bestNow_26 rfl (lv_at hl 1 rfl) ?_
      refine lv_iload_n (pc := 27) hx hb dX12_bestNow_27 rfl (lv_at hl 3 rfl) ?_
      obtain ⟨r_28, e_28, h⟩ := bnd_s h
      refine call_vi (pc := 28) (rest := [.int (10 - v3)]) [.int v1, .int v3] X Y (c_X12_yesesOf v1 v3 e_28) sw_X12_189 (rv_X12 X Y) rfl ⟨rfl, rfl, Nat.le_of_ble_eq_true rfl, Nat.le_of_ble_eq_true rfl⟩ hl rfl (Nat.le_of_ble_eq_true rfl) dX12_bestNow_28 (fun H locs Y => ?_)
      refine lv_imul (pc := 31) hx hb dX12_bestNow_31 ?_
      refine lv_bipush (pc := 32) (v := 10) hx hb dX12_bestNow_32 (by decide) ?_
      refine lv_iload_n (pc := 34) hx hb dX12_bestNow_34 rfl (lv_at hl 2 rfl) ?_
      refine lv_isub (pc := 35) hx hb dX12_bestNow_35 ?_
      refine lv_aload_n (pc := 36) hx hb dX12_bestNow_36 rfl (lv_at hl 0 rfl) ?_
      refine lv_iload_n (pc := 37) hx hb dX12_bestNow_37 rfl (lv_at hl 1 rfl) ?_
      refine lv_iload_n (pc := 38) hx hb dX12_bestNow_38 rfl (lv_at hl 2 rfl) ?_
      obtain ⟨r_39, e_39, h⟩ := bnd_s h
      refine call_vi (pc := 39) (rest := [.int (10 - v2), .int ((10 - v3) * r_28)]) [.int v1, .int v2] X Y (c_X12_yesesOf v1 v2 e_39) sw_X12_189 (rv_X12 X Y) rfl ⟨rfl, rfl, Nat.le_of_ble_eq_true rfl, Nat.le_of_ble_eq_true rfl⟩ hl rfl (Nat.le_of_ble_eq_true rfl) dX12_bestNow_39 (fun H locs Y => ?_)
      refine lv_imul (pc := 42) hx hb dX12_bestNow_42 ?_
      refine lv_icmp_le (pc := 43) (tgt := 50) hx hb dX12_bestNow_43 (by decide) (fun c_43 => ?_) (fun c_43 => ?_)
      · have h := itp c_43 h
        refine lv_iload_n (pc := 50) hx hb dX12_bestNow_50 rfl (lv_at hl 2 rfl) ?_
        exact WB_X12_bestNow_51 v2 v1 v3 D X (kb := (L_X12_bestNow_15 v1 D kx n_)) ih Y (lv_sub hl [0, 1, 3] rfl) h
      · have h := itn c_43 h
        refine lv_iload_n (pc := 46) hx hb dX12_bestNow_46 rfl (lv_at hl 3 rfl) ?_
        refine lv_goto (pc := 47) (tgt := 51) hx hb dX12_bestNow_47 (by decide) ?_
        exact WB_X12_bestNow_51 v3 v1 v3 D X (kb := (L_X12_bestNow_15 v1 D kx n_)) ih Y (lv_sub hl [0, 1, 3] rfl) h
set_option maxHeartbeats 4000000 in
set_option maxRecDepth 100000 in
theorem c_X12_bestNow {r9 : Int32} (v1 : Int32) (h : f_X12_bestNow v1 D = some r9) : Ct l dC dI ad bd cI cZ yX12_bestNow cX12_bestNow 4 (some .int) rm_X12_bestNow [.ref (bd 0), .int v1] C D (some (.int r9)) C D := by
  unfold f_X12_bestNow at h
  refine Ct.intro (own := RX12) (by decide) rfl (Nat.le_of_ble_eq_true rfl) ?_
  intro p e s m args below meth c H locs ls X Y hl
  have hx := X.1
  have hb := X.2.1
  have hl : lv_has ls 4 [(0, .ref (bd 0)), (1, .int v1)] := hl
  refine lv_aload_n (pc := 0) hx hb dX12_bestNow_0 rfl (lv_at hl 0 rfl) ?_
  refine lv_iload_n (pc := 1) hx hb dX12_bestNow_1 rfl (lv_at hl 1 rfl) ?_
  obtain ⟨r_2, e_2, h⟩ := bnd_s h
  refine call_vi (pc := 2) (rest := []) [.int v1] X Y (c_X12_rowsOf v1 e_2) sw_X12_186 (rv_X12 X Y) rfl ⟨rfl, rfl, Nat.le_of_ble_eq_true rfl, Nat.le_of_ble_eq_true rfl⟩ hl rfl (Nat.le_of_ble_eq_true rfl) dX12_bestNow_2 (fun H locs Y => ?_)
  refine lv_if_ne (pc := 5) (tgt := 11) hx hb dX12_bestNow_5 (by decide) (fun c_5 => ?_) (fun c_5 => ?_)
  · have h := itn c_5 h
    refine lv_iconst (pc := 11) (v := 0) hx hb dX12_bestNow_11 (by decide) ?_
    refine lv_istore_n (pc := 12) (lv' := [(2, .int 0), (0, .ref (bd 0)), (1, .int v1)]) hx hb dX12_bestNow_12 rfl hl (by decide) rfl (fun ls hl => ?_)
    refine lv_iconst (pc := 13) (v := 1) hx hb dX12_bestNow_13 (by decide) ?_
    refine lv_istore_n (pc := 14) (lv' := [(3, .int 1), (2, .int 0), (0, .ref (bd 0)), (1, .int v1)]) hx hb dX12_bestNow_14 rfl hl (by decide) rfl (fun ls hl => ?_)
    refine WL_X12_bestNow_15 v1 D X (fun v2_58 H locs ls Y hl h => ?_) FU 0 1 H locs ls Y (lv_sub hl [2, 3, 1, 0] rfl) h
    refine lv_iload_n (pc := 58) hx hb dX12_bestNow_58 rfl (lv_at hl 0 rfl) ?_
    have hr9 := ret_p h
    exact fin_i (pc := 59) X rfl Y hr9 rfl rfl dX12_bestNow_59
  · have h := itp c_5 h
    refine lv_bipush (pc := 8) (v := (-3)) hx hb dX12_bestNow_8 (by decide) ?_
    have hr9 := ret_p h
    exact fin_i (pc := 10) X rfl Y hr9 rfl rfl dX12_bestNow_10
abbrev rm_X12_best : Room := { frames := 3, cells := 0, slots := 0, locals := 68 }
set_option maxHeartbeats 4000000 in
set_option maxRecDepth 100000 in
theorem c_X12_best {r9 : Int32} (v1 : Int32) (h : f_X12_best v1 D = some r9) : Ct l dC dI ad bd cI cZ yX12_best cX12_best 2 (some .int) rm_X12_best [.ref (bd 0), .int v1] C D (some (.int r9)) C D := by
  unfold f_X12_best at h
  refine Ct.intro (own := RX12) (by decide) rfl (Nat.le_of_ble_eq_true rfl) ?_
  intro p e s m args below meth c H locs ls X Y hl
  have hx := X.1
  have hb := X.2.1
  have hl : lv_has ls 2 [(0, .ref (bd 0)), (1, .int v1)] := hl
  refine lv_iload_n (pc := 0) hx hb dX12_best_0 rfl (lv_at hl 1 rfl) ?_
  refine call_si (pc := 1) (rest := []) [.int v1] X Y (c_X12_isAny v1) sw_X12_154 rfl ⟨rfl, rfl, Nat.le_of_ble_eq_true rfl, Nat.le_of_ble_eq_true rfl⟩ hl rfl (Nat.le_of_ble_eq_true rfl) dX12_best_1 (fun H locs Y => ?_)
  refine lv_if_eq (pc := 4) (tgt := 15) hx hb dX12_best_4 (by decide) (fun c_4 => ?_) (fun c_4 => ?_)
  · have h := itn (b2i_f c_4) h
    refine lv_bipush (pc := 15) (v := (-2)) hx hb dX12_best_15 (by decide) ?_
    have hr9 := ret_p h
    exact fin_i (pc := 17) X rfl Y hr9 rfl rfl dX12_best_17
  · have h := itp (b2i_t c_4) h
    refine lv_aload_n (pc := 7) hx hb dX12_best_7 rfl (lv_at hl 0 rfl) ?_
    refine lv_iload_n (pc := 8) hx hb dX12_best_8 rfl (lv_at hl 1 rfl) ?_
    obtain ⟨r_9, e_9, h⟩ := bnd_s h
    refine call_vi (pc := 9) (rest := []) [.int v1] X Y (c_X12_bestNow v1 e_9) sw_X12_192 (rv_X12 X Y) rfl ⟨rfl, rfl, Nat.le_of_ble_eq_true rfl, Nat.le_of_ble_eq_true rfl⟩ hl rfl (Nat.le_of_ble_eq_true rfl) dX12_best_9 (fun H locs Y => ?_)
    refine lv_goto (pc := 12) (tgt := 17) hx hb dX12_best_12 (by decide) ?_
    have hr9 := ret_p h
    exact fin_i (pc := 17) X rfl Y hr9 rfl rfl dX12_best_17
abbrev rm_X12_isBelief : Room := { frames := 1, cells := 0, slots := 0, locals := 22 }
set_option maxHeartbeats 4000000 in
set_option maxRecDepth 100000 in
theorem c_X12_isBelief (v1 : Int32) : Ct l dC dI ad bd cI cZ yX12_isBelief cX12_isBelief 2 (some .boolean) rm_X12_isBelief [.ref (bd 0), .int v1] C D (some (.int (b2i (f_X12_isBelief v1 D)))) C D := by
  obtain ⟨r9, h⟩ : ∃ r9, f_X12_isBelief v1 D = r9 := ⟨_, rfl⟩
  rw [h]
  unfold f_X12_isBelief at h
  refine Ct.intro (own := RX12) (by decide) rfl (Nat.le_of_ble_eq_true rfl) ?_
  intro p e s m args below meth c H locs ls X Y hl
  have hx := X.1
  have hb := X.2.1
  have hl : lv_has ls 2 [(0, .ref (bd 0)), (1, .int v1)] := hl
  refine lv_iload_n (pc := 0) hx hb dX12_isBelief_0 rfl (lv_at hl 1 rfl) ?_
  refine lv_iconst (pc := 1) (v := 0) hx hb dX12_isBelief_1 (by decide) ?_
  refine lv_aload_n (pc := 2) hx hb dX12_isBelief_2 rfl (lv_at hl 0 rfl) ?_
  refine gf_X12_195 (pc := 3) X Y dX12_isBelief_3 ?_
  refine lv_iconst (pc := 6) (v := 1) hx hb dX12_isBelief_6 (by decide) ?_
  refine lv_isub (pc := 7) hx hb dX12_isBelief_7 ?_
  refine call_si (pc := 8) (rest := []) [.int v1, .int 0, .int ((D 0 12) - 1)] X Y (c_X12_in v1 0 ((D 0 12) - 1)) sw_X12_107 rfl ⟨rfl, rfl, Nat.le_of_ble_eq_true rfl, Nat.le_of_ble_eq_true rfl⟩ hl rfl (Nat.le_of_ble_eq_true rfl) dX12_isBelief_8 (fun H locs Y => ?_)
  have hr9 := h
  exact fin_z (b := (f_X12_in v1 0 ((D 0 12) - 1))) (pc := 11) X rfl Y rfl hr9 rfl rfl dX12_isBelief_11
abbrev rm_X12_belief : Room := { frames := 2, cells := 0, slots := 0, locals := 42 }
set_option maxHeartbeats 4000000 in
set_option maxRecDepth 100000 in
theorem c_X12_belief {r9 : Int32} {D9 : Mem} (v1 : Int32) (h : f_X12_belief v1 D = some (r9, D9)) : Ct l dC dI ad bd cI cZ yX12_belief cX12_belief 2 (some .int) rm_X12_belief [.ref (bd 0), .int v1] C D (some (.int r9)) C D9 := by
  unfold f_X12_belief at h
  refine Ct.intro (own := RX12) (by decide) rfl (Nat.le_of_ble_eq_true rfl) ?_
  intro p e s m args below meth c H locs ls X Y hl
  have hx := X.1
  have hb := X.2.1
  have hl : lv_has ls 2 [(0, .ref (bd 0)), (1, .int v1)] := hl
  refine lv_iload_n (pc := 0) hx hb dX12_belief_0 rfl (lv_at hl 1 rfl) ?_
  refine call_si (pc := 1) (rest := []) [.int v1] X Y (c_X12_isPeople v1) sw_X12_111 rfl ⟨rfl, rfl, Nat.le_of_ble_eq_true rfl, Nat.le_of_ble_eq_true rfl⟩ hl rfl (Nat.le_of_ble_eq_true rfl) dX12_belief_1 (fun H locs Y => ?_)
  refine lv_if_ne (pc := 4) (tgt := 10) hx hb dX12_belief_4 (by decide) (fun c_4 => ?_) (fun c_4 => ?_)
  · have h := itp (b2i_t c_4) h
    refine lv_aload_n (pc := 10) hx hb dX12_belief_10 rfl (lv_at hl 0 rfl) ?_
    refine gf_X12_195 (pc := 11) X Y dX12_belief_11 ?_
    refine lv_bipush (pc := 14) (v := 8) hx hb dX12_belief_14 (by decide) ?_
    refine lv_icmp_ne (pc := 16) (tgt := 22) hx hb dX12_belief_16 (by decide) (fun c_16 => ?_) (fun c_16 => ?_)
    · have h := itn c_16 h
      refine lv_aload_n (pc := 22) hx hb dX12_belief_22 rfl (lv_at hl 0 rfl) ?_
      refine gf_X12_38 (pc := 23) X Y dX12_belief_23 ?_
      refine lv_aload_n (pc := 26) hx hb dX12_belief_26 rfl (lv_at hl 0 rfl) ?_
      refine gf_X12_195 (pc := 27) X Y dX12_belief_27 ?_
      refine lv_iload_n (pc := 30) hx hb dX12_belief_30 rfl (lv_at hl 1 rfl) ?_
      obtain ⟨g_31, h⟩ := gd_s h
      obtain ⟨D_31, hD_31, h⟩ := sto_s h
      refine r_iastm (pc := 31) X Y (cm_9 bd cI cZ) g_31 hD_31 dX12_belief_31 (fun H locs Y => ?_)
      refine lv_aload_n (pc := 32) hx hb dX12_belief_32 rfl (lv_at hl 0 rfl) ?_
      refine lv_dup (pc := 33) hx hb dX12_belief_33 rfl ?_
      refine gf_X12_195 (pc := 34) X Y dX12_belief_34 ?_
      refine lv_iconst (pc := 37) (v := 1) hx hb dX12_belief_37 (by decide) ?_
      refine lv_iadd (pc := 38) hx hb dX12_belief_38 ?_
      obtain ⟨D_39, hD_39, h⟩ := sto_s h
      refine pf_X12_195 (pc := 39) X Y hD_39 dX12_belief_39 (fun H locs Y => ?_)
      refine lv_aload_n (pc := 42) hx hb dX12_belief_42 rfl (lv_at hl 0 rfl) ?_
      refine gf_X12_195 (pc := 43) X Y dX12_belief_43 ?_
      refine lv_iconst (pc := 46) (v := 1) hx hb dX12_belief_46 (by decide) ?_
      refine lv_isub (pc := 47) hx hb dX12_belief_47 ?_
      obtain ⟨hr9, hm9⟩ := ret_e h
      exact fin_i (pc := 48) X rfl Y hr9 rfl hm9 dX12_belief_48
    · have h := itp c_16 h
      refine lv_bipush (pc := 19) (v := (-4)) hx hb dX12_belief_19 (by decide) ?_
      obtain ⟨hr9, hm9⟩ := ret_e h
      exact fin_i (pc := 21) X rfl Y hr9 rfl hm9 dX12_belief_21
  · have h := itn (b2i_f c_4) h
    refine lv_bipush (pc := 7) (v := (-2)) hx hb dX12_belief_7 (by decide) ?_
    obtain ⟨hr9, hm9⟩ := ret_e h
    exact fin_i (pc := 9) X rfl Y hr9 rfl hm9 dX12_belief_9
abbrev rm_X12_believe : Room := { frames := 2, cells := 0, slots := 0, locals := 43 }
set_option maxHeartbeats 4000000 in
set_option maxRecDepth 100000 in
theorem c_X12_believe {r9 : Int32} {D9 : Mem} (v1 : Int32) (v2 : Int32) (v3 : Int32) (h : f_X12_believe v1 v2 v3 D = some (r9, D9)) : Ct l dC dI ad bd cI cZ yX12_believe cX12_believe 5 (some .int) rm_X12_believe [.ref (bd 0), .int v1, .int v2, .int v3] C D (some (.int r9)) C D9 := by
  unfold f_X12_believe at h
  refine Ct.intro (own := RX12) (by decide) rfl (Nat.le_of_ble_eq_true rfl) ?_
  intro p e s m args below meth c H locs ls X Y hl
  have hx := X.1
  have hb := X.2.1
  have hl : lv_has ls 5 [(0, .ref (bd 0)), (1, .int v1), (2, .int v2), (3, .int v3)] := hl
  refine lv_aload_n (pc := 0) hx hb dX12_believe_0 rfl (lv_at hl 0 rfl) ?_
  refine lv_iload_n (pc := 1) hx hb dX12_believe_1 rfl (lv_at hl 1 rfl) ?_
  refine call_vi (pc := 2) (rest := []) [.int v1] X Y (c_X12_isBelief v1) sw_X12_198 (rv_X12 X Y) rfl ⟨rfl, rfl, Nat.le_of_ble_eq_true rfl, Nat.le_of_ble_eq_true rfl⟩ hl rfl (Nat.le_of_ble_eq_true rfl) dX12_believe_2 (fun H locs Y => ?_)
  refine lv_if_eq (pc := 5) (tgt := 25) hx hb dX12_believe_5 (by decide) (fun c_5 => ?_) (fun c_5 => ?_)
  · have h := itn (b2i_f c_5) h
    refine lv_bipush (pc := 25) (v := (-2)) hx hb dX12_believe_25 (by decide) ?_
    obtain ⟨hr9, hm9⟩ := ret_e h
    exact fin_i (pc := 27) X rfl Y hr9 rfl hm9 dX12_believe_27
  · have h := itp (b2i_t c_5) h
    refine lv_iload_n (pc := 8) hx hb dX12_believe_8 rfl (lv_at hl 2 rfl) ?_
    refine call_si (pc := 9) (rest := []) [.int v2] X Y (c_X12_isOffer v2) sw_X12_118 rfl ⟨rfl, rfl, Nat.le_of_ble_eq_true rfl, Nat.le_of_ble_eq_true rfl⟩ hl rfl (Nat.le_of_ble_eq_true rfl) dX12_believe_9 (fun H locs Y => ?_)
    refine lv_if_eq (pc := 12) (tgt := 25) hx hb dX12_believe_12 (by decide) (fun c_12 => ?_) (fun c_12 => ?_)
    · have h := itn (b2i_f c_12) h
      refine lv_bipush (pc := 25) (v := (-2)) hx hb dX12_believe_25 (by decide) ?_
      obtain ⟨hr9, hm9⟩ := ret_e h
      exact fin_i (pc := 27) X rfl Y hr9 rfl hm9 dX12_believe_27
    · have h := itp (b2i_t c_12) h
      refine lv_iload_n (pc := 15) hx hb dX12_believe_15 rfl (lv_at hl 3 rfl) ?_
      refine lv_iconst (pc := 16) (v := 0) hx hb dX12_believe_16 (by decide) ?_
      refine lv_bipush (pc := 17) (v := 10) hx hb dX12_believe_17 (by decide) ?_
      refine call_si (pc := 19) (rest := []) [.int v3, .int 0, .int 10] X Y (c_X12_in v3 0 10) sw_X12_107 rfl ⟨rfl, rfl, Nat.le_of_ble_eq_true rfl, Nat.le_of_ble_eq_true rfl⟩ hl rfl (Nat.le_of_ble_eq_true rfl) dX12_believe_19 (fun H locs Y => ?_)
      refine lv_if_ne (pc := 22) (tgt := 28) hx hb dX12_believe_22 (by decide) (fun c_22 => ?_) (fun c_22 => ?_)
      · have h := itp (b2i_t c_22) h
        refine lv_aload_n (pc := 28) hx hb dX12_believe_28 rfl (lv_at hl 0 rfl) ?_
        refine gf_X12_41 (pc := 29) X Y dX12_believe_29 ?_
        refine lv_bipush (pc := 32) (v := 11) hx hb dX12_believe_32 (by decide) ?_
        refine lv_iload_n (pc := 34) hx hb dX12_believe_34 rfl (lv_at hl 1 rfl) ?_
        refine lv_imul (pc := 35) hx hb dX12_believe_35 ?_
        refine lv_iload_n (pc := 36) hx hb dX12_believe_36 rfl (lv_at hl 2 rfl) ?_
        refine lv_iadd (pc := 37) hx hb dX12_believe_37 ?_
        obtain ⟨g_38, h⟩ := gd_s h
        refine r_ialdm (pc := 38) X Y (cm_10 bd cI cZ) g_38 dX12_believe_38 ?_
        obtain ⟨v4_39, ev4_39, h⟩ := lt_s_ h
        refine top_i ev4_39 ?_
        refine lv_istore (pc := 39) (lv' := [(4, .int v4_39), (0, .ref (bd 0)), (1, .int v1), (2, .int v2), (3, .int v3)]) hx hb dX12_believe_39 hl (by decide) rfl (fun ls hl => ?_)
        refine lv_aload_n (pc := 41) hx hb dX12_believe_41 rfl (lv_at hl 1 rfl) ?_
        refine gf_X12_41 (pc := 42) X Y dX12_believe_42 ?_
        refine lv_bipush (pc := 45) (v := 11) hx hb dX12_believe_45 (by decide) ?_
        refine lv_iload_n (pc := 47) hx hb dX12_believe_47 rfl (lv_at hl 2 rfl) ?_
        refine lv_imul (pc := 48) hx hb dX12_believe_48 ?_
        refine lv_iload_n (pc := 49) hx hb dX12_believe_49 rfl (lv_at hl 3 rfl) ?_
        refine lv_iadd (pc := 50) hx hb dX12_believe_50 ?_
        refine lv_iload_n (pc := 51) hx hb dX12_believe_51 rfl (lv_at hl 4 rfl) ?_
        obtain ⟨g_52, h⟩ := gd_s h
        obtain ⟨D_52, hD_52, h⟩ := sto_s h
        refine r_iastm (pc := 52) X Y (cm_10 bd cI cZ) g_52 hD_52 dX12_believe_52 (fun H locs Y => ?_)
        refine lv_iload (pc := 53) hx hb dX12_believe_53 (lv_at hl 0 rfl) ?_
        obtain ⟨hr9, hm9⟩ := ret_e h
        exact fin_i (pc := 55) X rfl Y hr9 rfl hm9 dX12_believe_55
      · have h := itn (b2i_f c_22) h
        refine lv_bipush (pc := 25) (v := (-2)) hx hb dX12_believe_25 (by decide) ?_
        obtain ⟨hr9, hm9⟩ := ret_e h
        exact fin_i (pc := 27) X rfl Y hr9 rfl hm9 dX12_believe_27
abbrev rm_X12_hisNow : Room := { frames := 0, cells := 0, slots := 0, locals := 0 }
set_option maxHeartbeats 4000000 in
set_option maxRecDepth 100000 in
theorem WB_X12_hisNow_50 {r9 : Int32} (x0 : Int32) (v1 : Int32) (v3 : Int32) (D : Mem) (X : Cx p s m args meth c cX12_hisNow RX12 4 (some .int) dC dI ad bd cI cZ) {kb : Int32 → Int32 → Option Int32} (hkb : ∀ (v2' : Int32) (v3' : Int32) (H : Heap) (locs : List Loc) (ls : Array Slot), Ys s dC dI ad bd cI cZ C D H locs → lv_has ls 4 [(0, .ref (bd 0)), (1, .int v1), (2, .int v2'), (3, .int v3')] → kb v2' v3' = some r9 → W p l e rm_X12_hisNow s m args below meth c H locs 0 0 (MQ below (QC (some (.int r9)) dC dI ad bd cI cZ C D) args s 0 0 (AD ad bd)) (F0 m 4 ls [])) {H : Heap} {locs : List Loc} {ls : Array Slot} (Y : Ys s dC dI ad bd cI cZ C D H locs) (hl : lv_has ls 4 [(0, .ref (bd 0)), (1, .int v1), (3, .int v3)]) (h : B_X12_hisNow_50 x0 v3 kb = some r9) : W p l e rm_X12_hisNow s m args below meth c H locs 0 0 (MQ below (QC (some (.int r9)) dC dI ad bd cI cZ C D) args s 0 0 (AD ad bd)) (F0 m 50 ls [.int x0]) := by
  have hx := X.1
  have hb := X.2.1
  unfold B_X12_hisNow_50 at h
  refine lv_istore_n (pc := 50) (lv' := [(2, .int x0), (0, .ref (bd 0)), (1, .int v1), (3, .int v3)]) hx hb dX12_hisNow_50 rfl hl (by decide) rfl (fun ls hl => ?_)
  obtain ⟨v3_51, ev3_51, h⟩ := lt_s_ h
  refine lv_iinc (pc := 51) (v := v3_51) (lv' := [(3, .int v3_51), (2, .int x0), (0, .ref (bd 0)), (1, .int v1)]) hx hb dX12_hisNow_51 hl (k := 3) rfl (by rw [ev3_51]; rfl) (by decide) rfl (fun ls hl => ?_)
  refine lv_goto (pc := 54) (tgt := 4) hx hb dX12_hisNow_54 (by decide) ?_
  exact hkb x0 v3_51 H locs ls Y (lv_sub hl [2, 3, 1, 0] rfl) h
set_option maxHeartbeats 4000000 in
set_option maxRecDepth 100000 in
theorem WL_X12_hisNow_4 {r9 : Int32} (v1 : Int32) (D : Mem) (X : Cx p s m args meth c cX12_hisNow RX12 4 (some .int) dC dI ad bd cI cZ) {kx : Int32 → Option Int32} (hkx : ∀ (v2' : Int32) (H : Heap) (locs : List Loc) (ls : Array Slot), Ys s dC dI ad bd cI cZ C D H locs → lv_has ls 4 [(2, .int v2')] → kx v2' = some r9 → W p l e rm_X12_hisNow s m args below meth c H locs 0 0 (MQ below (QC (some (.int r9)) dC dI ad bd cI cZ C D) args s 0 0 (AD ad bd)) (F0 m 57 ls [])) : ∀ (n_ : Nat) (v2 : Int32) (v3 : Int32) (H : Heap) (locs : List Loc) (ls : Array Slot), Ys s dC dI ad bd cI cZ C D H locs → lv_has ls 4 [(0, .ref (bd 0)), (1, .int v1), (2, .int v2), (3, .int v3)] → L_X12_hisNow_4 v1 D kx n_ v2 v3 = some r9 → W p l e rm_X12_hisNow s m args below meth c H locs 0 0 (MQ below (QC (some (.int r9)) dC dI ad bd cI cZ C D) args s 0 0 (AD ad bd)) (F0 m 4 ls []) := by
  have hx := X.1
  have hb := X.2.1
  intro n_
  induction n_ with
  | zero =>
    intro v2 v3 H locs ls Y hl h
    cases h
  | succ n_ ih =>
    intro v2 v3 H locs ls Y hl h
    unfold L_X12_hisNow_4 at h
    refine lv_iload_n (pc := 4) hx hb dX12_hisNow_4 rfl (lv_at hl 3 rfl) ?_
    refine lv_bipush (pc := 5) (v := 11) hx hb dX12_hisNow_5 (by decide) ?_
    refine lv_icmp_ge (pc := 7) (tgt := 57) hx hb dX12_hisNow_7 (by decide) (fun c_7 => ?_) (fun c_7 => ?_)
    · have h := itp c_7 h
      exact hkx v2 H locs ls Y (lv_sub hl [2] rfl) h
    · have h := itn c_7 h
      refine lv_bipush (pc := 10) (v := 10) hx hb dX12_hisNow_10 (by decide) ?_
      refine lv_iload_n (pc := 12) hx hb dX12_hisNow_12 rfl (lv_at hl 3 rfl) ?_
      refine lv_isub (pc := 13) hx hb dX12_hisNow_13 ?_
      refine lv_aload_n (pc := 14) hx hb dX12_hisNow_14 rfl (lv_at hl 0 rfl) ?_
      refine gf_X12_41 (pc := 15) X Y dX12_hisNow_15 ?_
      refine lv_bipush (pc := 18) (v := 11) hx hb dX12_hisNow_18 (by decide) ?_
      refine lv_iload_n (pc := 20) hx hb dX12_hisNow_20 rfl (lv_at hl 1 rfl) ?_
      refine lv_imul (pc := 21) hx hb dX12_hisNow_21 ?_
      refine lv_iload_n (pc := 22) hx hb dX12_hisNow_22 rfl (lv_at hl 3 rfl) ?_
      refine lv_iadd (pc := 23) hx hb dX12_hisNow_23 ?_
      obtain ⟨g_24, h⟩ := gd_s h
      refine r_ialdm (pc := 24) X Y (cm_10 bd cI cZ) g_24 dX12_hisNow_24 ?_
      refine lv_imul (pc := 25) hx hb dX12_hisNow_25 ?_
      refine lv_bipush (pc := 26) (v := 10) hx hb dX12_hisNow_26 (by decide) ?_
      refine lv_iload_n (pc := 28) hx hb dX12_hisNow_28 rfl (lv_at hl 2 rfl) ?_
      refine lv_isub (pc := 29) hx hb dX12_hisNow_29 ?_
      refine lv_aload_n (pc := 30) hx hb dX12_hisNow_30 rfl (lv_at hl 0 rfl) ?_
      refine gf_X12_41 (pc := 31) X Y dX12_hisNow_31 ?_
      refine lv_bipush (pc := 34) (v := 11) hx hb dX12_hisNow_34 (by decide) ?_
      refine lv_iload_n (pc := 36) hx hb dX12_hisNow_36 rfl (lv_at hl 1 rfl) ?_
      refine lv_imul (pc := 37) hx hb dX12_hisNow_37 ?_
      refine lv_iload_n (pc := 38) hx hb dX12_hisNow_38 rfl (lv_at hl 2 rfl) ?_
      refine lv_iadd (pc := 39) hx hb dX12_hisNow_39 ?_
      obtain ⟨g_40, h⟩ := gd_s h
      refine r_ialdm (pc := 40) X Y (cm_10 bd cI cZ) g_40 dX12_hisNow_40 ?_
      refine lv_imul (pc := 41) hx hb dX12_hisNow_41 ?_
      refine lv_icmp_le (pc := 42) (tgt := 49) hx hb dX12_hisNow_42 (by decide) (fun c_42 => ?_) (fun c_42 => ?_)
      · have h := itp c_42 h
        refine lv_iload_n (pc := 49) hx hb dX12_hisNow_49 rfl (lv_at hl 2 rfl) ?_
        exact WB_X12_hisNow_50 v2 v1 v3 D X (kb := (L_X12_hisNow_4 v1 D kx n_)) ih Y (lv_sub hl [0, 1, 3] rfl) h
      · have h := itn c_42 h
        refine lv_iload_n (pc := 45) hx hb dX12_hisNow_45 rfl (lv_at hl 3 rfl) ?_
        refine lv_goto (pc := 46) (tgt := 50) hx hb dX12_hisNow_46 (by decide) ?_
        exact WB_X12_hisNow_50 v3 v1 v3 D X (kb := (L_X12_hisNow_4 v1 D kx n_)) ih Y (lv_sub hl [0, 1, 3] rfl) h
set_option maxHeartbeats 4000000 in
set_option maxRecDepth 100000 in
theorem c_X12_hisNow {r9 : Int32} (v1 : Int32) (h : f_X12_hisNow v1 D = some r9) : Ct l dC dI ad bd cI cZ yX12_hisNow cX12_hisNow 4 (some .int) rm_X12_hisNow [.ref (bd 0), .int v1] C D (some (.int r9)) C D := by
  unfold f_X12_hisNow at h
  refine Ct.intro (own := RX12) (by decide) rfl (Nat.le_of_ble_eq_true rfl) ?_
  intro p e s m args below meth c H locs ls X Y hl
  have hx := X.1
  have hb := X.2.1
  have hl : lv_has ls 4 [(0, .ref (bd 0)), (1, .int v1)] := hl
  refine lv_iconst (pc := 0) (v := 0) hx hb dX12_hisNow_0 (by decide) ?_
  refine lv_istore_n (pc := 1) (lv' := [(2, .int 0), (0, .ref (bd 0)), (1, .int v1)]) hx hb dX12_hisNow_1 rfl hl (by decide) rfl (fun ls hl => ?_)
  refine lv_iconst (pc := 2) (v := 1) hx hb dX12_hisNow_2 (by decide) ?_
  refine lv_istore_n (pc := 3) (lv' := [(3, .int 1), (2, .int 0), (0, .ref (bd 0)), (1, .int v1)]) hx hb dX12_hisNow_3 rfl hl (by decide) rfl (fun ls hl => ?_)
  refine WL_X12_hisNow_4 v1 D X (fun v2_57 H locs ls Y hl h => ?_) FU 0 1 H locs ls Y (lv_sub hl [2, 3, 1, 0] rfl) h
  refine lv_iload_n (pc := 57) hx hb dX12_hisNow_57 rfl (lv_at hl 0 rfl) ?_
  have hr9 := ret_p h
  exact fin_i (pc := 58) X rfl Y hr9 rfl rfl dX12_hisNow_58
abbrev rm_X12_hisBest : Room := { frames := 2, cells := 0, slots := 0, locals := 43 }
set_option maxHeartbeats 4000000 in
set_option maxRecDepth 100000 in
theorem c_X12_hisBest {r9 : Int32} (v1 : Int32) (h : f_X12_hisBest v1 D = some r9) : Ct l dC dI ad bd cI cZ yX12_hisBest cX12_hisBest 2 (some .int) rm_X12_hisBest [.ref (bd 0), .int v1] C D (some (.int r9)) C D := by
  unfold f_X12_hisBest at h
  refine Ct.intro (own := RX12) (by decide) rfl (Nat.le_of_ble_eq_true rfl) ?_
  intro p e s m args below meth c H locs ls X Y hl
  have hx := X.1
  have hb := X.2.1
  have hl : lv_has ls 2 [(0, .ref (bd 0)), (1, .int v1)] := hl
  refine lv_aload_n (pc := 0) hx hb dX12_hisBest_0 rfl (lv_at hl 0 rfl) ?_
  refine lv_iload_n (pc := 1) hx hb dX12_hisBest_1 rfl (lv_at hl 1 rfl) ?_
  refine call_vi (pc := 2) (rest := []) [.int v1] X Y (c_X12_isBelief v1) sw_X12_198 (rv_X12 X Y) rfl ⟨rfl, rfl, Nat.le_of_ble_eq_true rfl, Nat.le_of_ble_eq_true rfl⟩ hl rfl (Nat.le_of_ble_eq_true rfl) dX12_hisBest_2 (fun H locs Y => ?_)
  refine lv_if_eq (pc := 5) (tgt := 16) hx hb dX12_hisBest_5 (by decide) (fun c_5 => ?_) (fun c_5 => ?_)
  · have h := itn (b2i_f c_5) h
    refine lv_bipush (pc := 16) (v := (-2)) hx hb dX12_hisBest_16 (by decide) ?_
    have hr9 := ret_p h
    exact fin_i (pc := 18) X rfl Y hr9 rfl rfl dX12_hisBest_18
  · have h := itp (b2i_t c_5) h
    refine lv_aload_n (pc := 8) hx hb dX12_hisBest_8 rfl (lv_at hl 0 rfl) ?_
    refine lv_iload_n (pc := 9) hx hb dX12_hisBest_9 rfl (lv_at hl 1 rfl) ?_
    obtain ⟨r_10, e_10, h⟩ := bnd_s h
    refine call_vi (pc := 10) (rest := []) [.int v1] X Y (c_X12_hisNow v1 e_10) sw_X12_201 (rv_X12 X Y) rfl ⟨rfl, rfl, Nat.le_of_ble_eq_true rfl, Nat.le_of_ble_eq_true rfl⟩ hl rfl (Nat.le_of_ble_eq_true rfl) dX12_hisBest_10 (fun H locs Y => ?_)
    refine lv_goto (pc := 13) (tgt := 18) hx hb dX12_hisBest_13 (by decide) ?_
    have hr9 := ret_p h
    exact fin_i (pc := 18) X rfl Y hr9 rfl rfl dX12_hisBest_18
abbrev rm_X12_off : Room := { frames := 3, cells := 0, slots := 0, locals := 68 }
set_option maxHeartbeats 4000000 in
set_option maxRecDepth 100000 in
theorem WB_X12_off_26 {r9 : Int64} (D : Mem) (X : Cx p s m args meth c cX12_off RX12 8 (some .long) dC dI ad bd cI cZ) {H : Heap} {locs : List Loc} {ls : Array Slot} (Y : Ys s dC dI ad bd cI cZ C D H locs) (hl : lv_has ls 8 []) (h : B_X12_off_26 = some r9) : W p l e rm_X12_off s m args below meth c H locs 0 0 (MQ below (QC (some (.long r9)) dC dI ad bd cI cZ C D) args s 0 0 (AD ad bd)) (F0 m 26 ls []) := by
  have hx := X.1
  have hb := X.2.1
  unfold B_X12_off_26 at h
  refine lv_bipush (pc := 26) (v := (-2)) hx hb dX12_off_26 (by decide) ?_
  refine call_sl (pc := 28) (rest := []) [.int (-2)] X Y (c_X12_no (-2)) sw_X12_161 rfl ⟨rfl, rfl, Nat.le_of_ble_eq_true rfl, Nat.le_of_ble_eq_true rfl⟩ hl rfl (Nat.le_of_ble_eq_true rfl) dX12_off_28 (fun H locs Y => ?_)
  have hr9 := ret_p h
  exact fin_l (pc := 31) X rfl Y hr9 rfl rfl dX12_off_31
set_option maxHeartbeats 4000000 in
set_option maxRecDepth 100000 in
theorem WL_X12_off_123 {r9 : Int64} (v1 : Int32) (v3 : Int32) (v4 : Int32) (v5 : Int32) (D : Mem) (X : Cx p s m args meth c cX12_off RX12 8 (some .long) dC dI ad bd cI cZ) {kx : Int32 → Option Int64} (hkx : ∀ (v6' : Int32) (H : Heap) (locs : List Loc) (ls : Array Slot), Ys s dC dI ad bd cI cZ C D H locs → lv_has ls 8 [(3, .int v3), (5, .int v5), (6, .int v6')] → kx v6' = some r9 → W p l e rm_X12_off s m args below meth c H locs 0 0 (MQ below (QC (some (.long r9)) dC dI ad bd cI cZ C D) args s 0 0 (AD ad bd)) (F0 m 171 ls [])) : ∀ (n_ : Nat) (v6 : Int32) (v7 : Int32) (H : Heap) (locs : List Loc) (ls : Array Slot), Ys s dC dI ad bd cI cZ C D H locs → lv_has ls 8 [(0, .ref (bd 0)), (1, .int v1), (3, .int v3), (4, .int v4), (5, .int v5), (6, .int v6), (7, .int v7)] → L_X12_off_123 v1 v4 v5 D kx n_ v6 v7 = some r9 → W p l e rm_X12_off s m args below meth c H locs 0 0 (MQ below (QC (some (.long r9)) dC dI ad bd cI cZ C D) args s 0 0 (AD ad bd)) (F0 m 123 ls []) := by
  have hx := X.1
  have hb := X.2.1
  intro n_
  induction n_ with
  | zero =>
    intro v6 v7 H locs ls Y hl h
    cases h
  | succ n_ ih =>
    intro v6 v7 H locs ls Y hl h
    unfold L_X12_off_123 at h
    refine lv_iload (pc := 123) hx hb dX12_off_123 (lv_at hl 6 rfl) ?_
    refine lv_bipush (pc := 125) (v := 11) hx hb dX12_off_125 (by decide) ?_
    refine lv_icmp_ge (pc := 127) (tgt := 171) hx hb dX12_off_127 (by decide) (fun c_127 => ?_) (fun c_127 => ?_)
    · have h := itp c_127 h
      exact hkx v6 H locs ls Y (lv_sub hl [2, 4, 5] rfl) h
    · have h := itn c_127 h
      refine lv_iload (pc := 130) hx hb dX12_off_130 (lv_at hl 5 rfl) ?_
      refine lv_aload_n (pc := 132) hx hb dX12_off_132 rfl (lv_at hl 0 rfl) ?_
      refine gf_X12_41 (pc := 133) X Y dX12_off_133 ?_
      refine lv_bipush (pc := 136) (v := 11) hx hb dX12_off_136 (by decide) ?_
      refine lv_iload_n (pc := 138) hx hb dX12_off_138 rfl (lv_at hl 1 rfl) ?_
      refine lv_imul (pc := 139) hx hb dX12_off_139 ?_
      refine lv_iload (pc := 140) hx hb dX12_off_140 (lv_at hl 6 rfl) ?_
      refine lv_iadd (pc := 142) hx hb dX12_off_142 ?_
      obtain ⟨g_143, h⟩ := gd_s h
      refine r_ialdm (pc := 143) X Y (cm_10 bd cI cZ) g_143 dX12_off_143 ?_
      refine lv_iload (pc := 144) hx hb dX12_off_144 (lv_at hl 4 rfl) ?_
      refine lv_imul (pc := 146) hx hb dX12_off_146 ?_
      refine lv_bipush (pc := 147) (v := 10) hx hb dX12_off_147 (by decide) ?_
      refine lv_aload_n (pc := 149) hx hb dX12_off_149 rfl (lv_at hl 0 rfl) ?_
      refine lv_iload (pc := 150) hx hb dX12_off_150 (lv_at hl 3 rfl) ?_
      refine lv_iload (pc := 152) hx hb dX12_off_152 (lv_at hl 6 rfl) ?_
      obtain ⟨r_154, e_154, h⟩ := bnd_s h
      refine call_vi (pc := 154) (rest := [.int 10, .int ((D 10 ((11 * v1) + v7).toNatClampNeg) * v5), .int v6]) [.int v4, .int v7] X Y (c_X12_yesesOf v4 v7 e_154) sw_X12_189 (rv_X12 X Y) rfl ⟨rfl, rfl, Nat.le_of_ble_eq_true rfl, Nat.le_of_ble_eq_true rfl⟩ hl rfl (Nat.le_of_ble_eq_true rfl) dX12_off_154 (fun H locs Y => ?_)
      refine lv_imul (pc := 157) hx hb dX12_off_157 ?_
      refine lv_isub (pc := 158) hx hb dX12_off_158 ?_
      refine call_si (pc := 159) (rest := [.int v6]) [.int (((D 10 ((11 * v1) + v7).toNatClampNeg) * v5) - (10 * r_154))] X Y (c_X12_amount (((D 10 ((11 * v1) + v7).toNatClampNeg) * v5) - (10 * r_154))) sw_X12_204 rfl ⟨rfl, rfl, Nat.le_of_ble_eq_true rfl, Nat.le_of_ble_eq_true rfl⟩ hl rfl (Nat.le_of_ble_eq_true rfl) dX12_off_159 (fun H locs Y => ?_)
      refine lv_iadd (pc := 162) hx hb dX12_off_162 ?_
      obtain ⟨v6_163, ev6_163, h⟩ := lt_s_ h
      refine top_i ev6_163 ?_
      refine lv_istore (pc := 163) (lv' := [(6, .int v6_163), (0, .ref (bd 0)), (1, .int v1), (3, .int v3), (4, .int v4), (5, .int v5), (7, .int v7)]) hx hb dX12_off_163 hl (by decide) rfl (fun ls hl => ?_)
      obtain ⟨v7_165, ev7_165, h⟩ := lt_s_ h
      refine lv_iinc (pc := 165) (v := v7_165) (lv' := [(7, .int v7_165), (6, .int v6_163), (0, .ref (bd 0)), (1, .int v1), (3, .int v3), (4, .int v4), (5, .int v5)]) hx hb dX12_off_165 hl (k := 6) rfl (by rw [ev7_165]; rfl) (by decide) rfl (fun ls hl => ?_)
      refine lv_goto (pc := 168) (tgt := 123) hx hb dX12_off_168 (by decide) ?_
      exact ih v6_163 v7_165 H locs ls Y (lv_sub hl [2, 3, 4, 5, 6, 1, 0] rfl) h
set_option maxHeartbeats 4000000 in
set_option maxRecDepth 100000 in
theorem c_X12_off {r9 : Int64} (v1 : Int32) (v2 : Int32) (v3 : Int32) (h : f_X12_off v1 v2 v3 D = some r9) : Ct l dC dI ad bd cI cZ yX12_off cX12_off 8 (some .long) rm_X12_off [.ref (bd 0), .int v1, .int v2, .int v3] C D (some (.long r9)) C D := by
  unfold f_X12_off at h
  refine Ct.intro (own := RX12) (by decide) rfl (Nat.le_of_ble_eq_true rfl) ?_
  intro p e s m args below meth c H locs ls X Y hl
  have hx := X.1
  have hb := X.2.1
  have hl : lv_has ls 8 [(0, .ref (bd 0)), (1, .int v1), (2, .int v2), (3, .int v3)] := hl
  refine lv_aload_n (pc := 0) hx hb dX12_off_0 rfl (lv_at hl 0 rfl) ?_
  refine lv_iload_n (pc := 1) hx hb dX12_off_1 rfl (lv_at hl 1 rfl) ?_
  refine call_vi (pc := 2) (rest := []) [.int v1] X Y (c_X12_isBelief v1) sw_X12_198 (rv_X12 X Y) rfl ⟨rfl, rfl, Nat.le_of_ble_eq_true rfl, Nat.le_of_ble_eq_true rfl⟩ hl rfl (Nat.le_of_ble_eq_true rfl) dX12_off_2 (fun H locs Y => ?_)
  refine lv_if_eq (pc := 5) (tgt := 26) hx hb dX12_off_5 (by decide) (fun c_5 => ?_) (fun c_5 => ?_)
  · have h := itn (b2i_f c_5) h
    exact WB_X12_off_26  D X Y (lv_sub hl [] rfl) h
  · have h := itp (b2i_t c_5) h
    refine lv_iload_n (pc := 8) hx hb dX12_off_8 rfl (lv_at hl 2 rfl) ?_
    refine lv_iconst (pc := 9) (v := 0) hx hb dX12_off_9 (by decide) ?_
    refine lv_iconst (pc := 10) (v := 1) hx hb dX12_off_10 (by decide) ?_
    refine call_si (pc := 11) (rest := []) [.int v2, .int 0, .int 1] X Y (c_X12_in v2 0 1) sw_X12_107 rfl ⟨rfl, rfl, Nat.le_of_ble_eq_true rfl, Nat.le_of_ble_eq_true rfl⟩ hl rfl (Nat.le_of_ble_eq_true rfl) dX12_off_11 (fun H locs Y => ?_)
    refine lv_if_eq (pc := 14) (tgt := 26) hx hb dX12_off_14 (by decide) (fun c_14 => ?_) (fun c_14 => ?_)
    · have h := itn (b2i_f c_14) h
      exact WB_X12_off_26  D X Y (lv_sub hl [] rfl) h
    · have h := itp (b2i_t c_14) h
      refine lv_iload_n (pc := 17) hx hb dX12_off_17 rfl (lv_at hl 3 rfl) ?_
      refine lv_iconst (pc := 18) (v := 0) hx hb dX12_off_18 (by decide) ?_
      refine lv_iconst (pc := 19) (v := 1) hx hb dX12_off_19 (by decide) ?_
      refine call_si (pc := 20) (rest := []) [.int v3, .int 0, .int 1] X Y (c_X12_in v3 0 1) sw_X12_107 rfl ⟨rfl, rfl, Nat.le_of_ble_eq_true rfl, Nat.le_of_ble_eq_true rfl⟩ hl rfl (Nat.le_of_ble_eq_true rfl) dX12_off_20 (fun H locs Y => ?_)
      refine lv_if_ne (pc := 23) (tgt := 32) hx hb dX12_off_23 (by decide) (fun c_23 => ?_) (fun c_23 => ?_)
      · have h := itp (b2i_t c_23) h
        refine lv_aload_n (pc := 32) hx hb dX12_off_32 rfl (lv_at hl 0 rfl) ?_
        refine gf_X12_38 (pc := 33) X Y dX12_off_33 ?_
        refine lv_iload_n (pc := 36) hx hb dX12_off_36 rfl (lv_at hl 1 rfl) ?_
        obtain ⟨g_37, h⟩ := gd_s h
        refine r_ialdm (pc := 37) X Y (cm_9 bd cI cZ) g_37 dX12_off_37 ?_
        obtain ⟨v4_38, ev4_38, h⟩ := lt_s_ h
        refine top_i ev4_38 ?_
        refine lv_istore (pc := 38) (lv' := [(4, .int v4_38), (0, .ref (bd 0)), (1, .int v1), (2, .int v2), (3, .int v3)]) hx hb dX12_off_38 hl (by decide) rfl (fun ls hl => ?_)
        refine lv_aload_n (pc := 40) hx hb dX12_off_40 rfl (lv_at hl 1 rfl) ?_
        refine lv_iload (pc := 41) hx hb dX12_off_41 (lv_at hl 0 rfl) ?_
        obtain ⟨r_43, e_43, h⟩ := bnd_s h
        refine call_vi (pc := 43) (rest := []) [.int v4_38] X Y (c_X12_rowsOf v4_38 e_43) sw_X12_186 (rv_X12 X Y) rfl ⟨rfl, rfl, Nat.le_of_ble_eq_true rfl, Nat.le_of_ble_eq_true rfl⟩ hl rfl (Nat.le_of_ble_eq_true rfl) dX12_off_43 (fun H locs Y => ?_)
        refine lv_istore (pc := 46) (lv' := [(5, .int r_43), (4, .int v4_38), (0, .ref (bd 0)), (1, .int v1), (2, .int v2), (3, .int v3)]) hx hb dX12_off_46 hl (by decide) rfl (fun ls hl => ?_)
        refine lv_iload (pc := 48) hx hb dX12_off_48 (lv_at hl 0 rfl) ?_
        refine lv_if_ne (pc := 50) (tgt := 59) hx hb dX12_off_50 (by decide) (fun c_50 => ?_) (fun c_50 => ?_)
        · have h := itn c_50 h
          refine lv_iload_n (pc := 59) hx hb dX12_off_59 rfl (lv_at hl 4 rfl) ?_
          refine lv_iconst (pc := 60) (v := 1) hx hb dX12_off_60 (by decide) ?_
          refine lv_icmp_ne (pc := 61) (tgt := 117) hx hb dX12_off_61 (by decide) (fun c_61 => ?_) (fun c_61 => ?_)
          · have h := itn c_61 h
            refine lv_iconst (pc := 117) (v := 0) hx hb dX12_off_117 (by decide) ?_
            refine lv_istore (pc := 118) (lv' := [(6, .int 0), (5, .int r_43), (4, .int v4_38), (0, .ref (bd 0)), (1, .int v1), (2, .int v2), (3, .int v3)]) hx hb dX12_off_118 hl (by decide) rfl (fun ls hl => ?_)
            refine lv_iconst (pc := 120) (v := 0) hx hb dX12_off_120 (by decide) ?_
            refine lv_istore (pc := 121) (lv' := [(7, .int 0), (6, .int 0), (5, .int r_43), (4, .int v4_38), (0, .ref (bd 0)), (1, .int v1), (2, .int v2), (3, .int v3)]) hx hb dX12_off_121 hl (by decide) rfl (fun ls hl => ?_)
            refine WL_X12_off_123 v1 v3 v4_38 r_43 D X (fun v6_171 H locs ls Y hl h => ?_) FU 0 0 H locs ls Y (lv_sub hl [4, 5, 7, 3, 2, 1, 0] rfl) h
            refine lv_iload (pc := 171) hx hb dX12_off_171 (lv_at hl 2 rfl) ?_
            refine lv_i2l (pc := 173) hx hb dX12_off_173 rfl ?_
            refine lv_ldc2 (pc := 174) (v := 10) hx hb X.2.2.2.1 (X.2.2.2.2.1 _ w_529ddb99f8) dX12_off_174 ?_
            refine lv_iload (pc := 177) hx hb dX12_off_177 (lv_at hl 1 rfl) ?_
            refine lv_i2l (pc := 179) hx hb dX12_off_179 rfl ?_
            refine lv_lmul (pc := 180) hx hb dX12_off_180 ?_
            refine lv_iload_n (pc := 181) hx hb dX12_off_181 rfl (lv_at hl 0 rfl) ?_
            obtain ⟨r_182, e_182, h⟩ := bnd_s h
            refine call_sl (pc := 182) (rest := []) [.long (v6_171.toInt64), .long (10 * (r_43.toInt64)), .int v3] X Y (c_X12_lowest (v6_171.toInt64) (10 * (r_43.toInt64)) v3 e_182) sw_X12_168 rfl ⟨rfl, rfl, Nat.le_of_ble_eq_true rfl, Nat.le_of_ble_eq_true rfl⟩ hl rfl (Nat.le_of_ble_eq_true rfl) dX12_off_182 (fun H locs Y => ?_)
            have hr9 := ret_p h
            exact fin_l (pc := 185) X rfl Y hr9 rfl rfl dX12_off_185
          · have h := itp c_61 h
            refine lv_aload_n (pc := 64) hx hb dX12_off_64 rfl (lv_at hl 2 rfl) ?_
            refine lv_iload (pc := 65) hx hb dX12_off_65 (lv_at hl 1 rfl) ?_
            obtain ⟨r_67, e_67, h⟩ := bnd_s h
            refine call_vi (pc := 67) (rest := []) [.int v4_38] X Y (c_X12_bestNow v4_38 e_67) sw_X12_192 (rv_X12 X Y) rfl ⟨rfl, rfl, Nat.le_of_ble_eq_true rfl, Nat.le_of_ble_eq_true rfl⟩ hl rfl (Nat.le_of_ble_eq_true rfl) dX12_off_67 (fun H locs Y => ?_)
            refine lv_istore (pc := 70) (lv' := [(6, .int r_67), (5, .int r_43), (4, .int v4_38), (0, .ref (bd 0)), (1, .int v1), (2, .int v2), (3, .int v3)]) hx hb dX12_off_70 hl (by decide) rfl (fun ls hl => ?_)
            refine lv_aload_n (pc := 72) hx hb dX12_off_72 rfl (lv_at hl 3 rfl) ?_
            refine lv_iload_n (pc := 73) hx hb dX12_off_73 rfl (lv_at hl 4 rfl) ?_
            obtain ⟨r_74, e_74, h⟩ := bnd_s h
            refine call_vi (pc := 74) (rest := []) [.int v1] X Y (c_X12_hisNow v1 e_74) sw_X12_201 (rv_X12 X Y) rfl ⟨rfl, rfl, Nat.le_of_ble_eq_true rfl, Nat.le_of_ble_eq_true rfl⟩ hl rfl (Nat.le_of_ble_eq_true rfl) dX12_off_74 (fun H locs Y => ?_)
            refine lv_istore (pc := 77) (lv' := [(7, .int r_74), (6, .int r_67), (5, .int r_43), (4, .int v4_38), (0, .ref (bd 0)), (1, .int v1), (2, .int v2), (3, .int v3)]) hx hb dX12_off_77 hl (by decide) rfl (fun ls hl => ?_)
            refine lv_bipush (pc := 79) (v := 10) hx hb dX12_off_79 (by decide) ?_
            refine lv_iload (pc := 81) hx hb dX12_off_81 (lv_at hl 1 rfl) ?_
            refine lv_isub (pc := 83) hx hb dX12_off_83 ?_
            refine lv_aload_n (pc := 84) hx hb dX12_off_84 rfl (lv_at hl 4 rfl) ?_
            refine lv_iload (pc := 85) hx hb dX12_off_85 (lv_at hl 3 rfl) ?_
            refine lv_iload (pc := 87) hx hb dX12_off_87 (lv_at hl 1 rfl) ?_
            obtain ⟨r_89, e_89, h⟩ := bnd_s h
            refine call_vi (pc := 89) (rest := [.int (10 - r_67)]) [.int v4_38, .int r_67] X Y (c_X12_yesesOf v4_38 r_67 e_89) sw_X12_189 (rv_X12 X Y) rfl ⟨rfl, rfl, Nat.le_of_ble_eq_true rfl, Nat.le_of_ble_eq_true rfl⟩ hl rfl (Nat.le_of_ble_eq_true rfl) dX12_off_89 (fun H locs Y => ?_)
            refine lv_imul (pc := 92) hx hb dX12_off_92 ?_
            refine lv_bipush (pc := 93) (v := 10) hx hb dX12_off_93 (by decide) ?_
            refine lv_iload (pc := 95) hx hb dX12_off_95 (lv_at hl 0 rfl) ?_
            refine lv_isub (pc := 97) hx hb dX12_off_97 ?_
            refine lv_aload_n (pc := 98) hx hb dX12_off_98 rfl (lv_at hl 4 rfl) ?_
            refine lv_iload (pc := 99) hx hb dX12_off_99 (lv_at hl 3 rfl) ?_
            refine lv_iload (pc := 101) hx hb dX12_off_101 (lv_at hl 0 rfl) ?_
            obtain ⟨r_103, e_103, h⟩ := bnd_s h
            refine call_vi (pc := 103) (rest := [.int (10 - r_74), .int ((10 - r_67) * r_89)]) [.int v4_38, .int r_74] X Y (c_X12_yesesOf v4_38 r_74 e_103) sw_X12_189 (rv_X12 X Y) rfl ⟨rfl, rfl, Nat.le_of_ble_eq_true rfl, Nat.le_of_ble_eq_true rfl⟩ hl rfl (Nat.le_of_ble_eq_true rfl) dX12_off_103 (fun H locs Y => ?_)
            refine lv_imul (pc := 106) hx hb dX12_off_106 ?_
            refine lv_isub (pc := 107) hx hb dX12_off_107 ?_
            refine lv_i2l (pc := 108) hx hb dX12_off_108 rfl ?_
            refine lv_iload (pc := 109) hx hb dX12_off_109 (lv_at hl 2 rfl) ?_
            refine lv_i2l (pc := 111) hx hb dX12_off_111 rfl ?_
            refine lv_iload_n (pc := 112) hx hb dX12_off_112 rfl (lv_at hl 7 rfl) ?_
            obtain ⟨r_113, e_113, h⟩ := bnd_s h
            refine call_sl (pc := 113) (rest := []) [.long ((((10 - r_67) * r_89) - ((10 - r_74) * r_103)).toInt64), .long (r_43.toInt64), .int v3] X Y (c_X12_lowest ((((10 - r_67) * r_89) - ((10 - r_74) * r_103)).toInt64) (r_43.toInt64) v3 e_113) sw_X12_168 rfl ⟨rfl, rfl, Nat.le_of_ble_eq_true rfl, Nat.le_of_ble_eq_true rfl⟩ hl rfl (Nat.le_of_ble_eq_true rfl) dX12_off_113 (fun H locs Y => ?_)
            have hr9 := ret_p h
            exact fin_l (pc := 116) X rfl Y hr9 rfl rfl dX12_off_116
        · have h := itp c_50 h
          refine lv_bipush (pc := 53) (v := (-3)) hx hb dX12_off_53 (by decide) ?_
          refine call_sl (pc := 55) (rest := []) [.int (-3)] X Y (c_X12_no (-3)) sw_X12_161 rfl ⟨rfl, rfl, Nat.le_of_ble_eq_true rfl, Nat.le_of_ble_eq_true rfl⟩ hl rfl (Nat.le_of_ble_eq_true rfl) dX12_off_55 (fun H locs Y => ?_)
          have hr9 := ret_p h
          exact fin_l (pc := 58) X rfl Y hr9 rfl rfl dX12_off_58
      · have h := itn (b2i_f c_23) h
        exact WB_X12_off_26  D X Y (lv_sub hl [] rfl) h
abbrev rm_X12_type : Room := { frames := 1, cells := 0, slots := 0, locals := 22 }
set_option maxHeartbeats 4000000 in
set_option maxRecDepth 100000 in
theorem c_X12_type {r9 : Int32} {D9 : Mem} (v1 : Int32) (h : f_X12_type v1 D = some (r9, D9)) : Ct l dC dI ad bd cI cZ yX12_type cX12_type 2 (some .int) rm_X12_type [.ref (bd 0), .int v1] C D (some (.int r9)) C D9 := by
  unfold f_X12_type at h
  refine Ct.intro (own := RX12) (by decide) rfl (Nat.le_of_ble_eq_true rfl) ?_
  intro p e s m args below meth c H locs ls X Y hl
  have hx := X.1
  have hb := X.2.1
  have hl : lv_has ls 2 [(0, .ref (bd 0)), (1, .int v1)] := hl
  refine lv_iload_n (pc := 0) hx hb dX12_type_0 rfl (lv_at hl 1 rfl) ?_
  refine lv_iconst (pc := 1) (v := 0) hx hb dX12_type_1 (by decide) ?_
  refine lv_sipush (pc := 2) (v := 255) hx hb dX12_type_2 (by decide) ?_
  refine call_si (pc := 5) (rest := []) [.int v1, .int 0, .int 255] X Y (c_X12_in v1 0 255) sw_X12_107 rfl ⟨rfl, rfl, Nat.le_of_ble_eq_true rfl, Nat.le_of_ble_eq_true rfl⟩ hl rfl (Nat.le_of_ble_eq_true rfl) dX12_type_5 (fun H locs Y => ?_)
  refine lv_if_ne (pc := 8) (tgt := 14) hx hb dX12_type_8 (by decide) (fun c_8 => ?_) (fun c_8 => ?_)
  · have h := itp (b2i_t c_8) h
    refine lv_aload_n (pc := 14) hx hb dX12_type_14 rfl (lv_at hl 0 rfl) ?_
    refine gf_X12_209 (pc := 15) X Y dX12_type_15 ?_
    refine lv_bipush (pc := 18) (v := 60) hx hb dX12_type_18 (by decide) ?_
    refine lv_icmp_ne (pc := 20) (tgt := 26) hx hb dX12_type_20 (by decide) (fun c_20 => ?_) (fun c_20 => ?_)
    · have h := itn c_20 h
      refine lv_aload_n (pc := 26) hx hb dX12_type_26 rfl (lv_at hl 0 rfl) ?_
      refine gf_X12_44 (pc := 27) X Y dX12_type_27 ?_
      refine lv_aload_n (pc := 30) hx hb dX12_type_30 rfl (lv_at hl 0 rfl) ?_
      refine gf_X12_209 (pc := 31) X Y dX12_type_31 ?_
      refine lv_iload_n (pc := 34) hx hb dX12_type_34 rfl (lv_at hl 1 rfl) ?_
      obtain ⟨g_35, h⟩ := gd_s h
      obtain ⟨D_35, hD_35, h⟩ := sto_s h
      refine r_iastm (pc := 35) X Y (cm_11 bd cI cZ) g_35 hD_35 dX12_type_35 (fun H locs Y => ?_)
      refine lv_aload_n (pc := 36) hx hb dX12_type_36 rfl (lv_at hl 0 rfl) ?_
      refine lv_dup (pc := 37) hx hb dX12_type_37 rfl ?_
      refine gf_X12_209 (pc := 38) X Y dX12_type_38 ?_
      refine lv_iconst (pc := 41) (v := 1) hx hb dX12_type_41 (by decide) ?_
      refine lv_iadd (pc := 42) hx hb dX12_type_42 ?_
      obtain ⟨D_43, hD_43, h⟩ := sto_s h
      refine pf_X12_209 (pc := 43) X Y hD_43 dX12_type_43 (fun H locs Y => ?_)
      refine lv_aload_n (pc := 46) hx hb dX12_type_46 rfl (lv_at hl 0 rfl) ?_
      refine gf_X12_209 (pc := 47) X Y dX12_type_47 ?_
      obtain ⟨hr9, hm9⟩ := ret_e h
      exact fin_i (pc := 50) X rfl Y hr9 rfl hm9 dX12_type_50
    · have h := itp c_20 h
      refine lv_bipush (pc := 23) (v := (-4)) hx hb dX12_type_23 (by decide) ?_
      obtain ⟨hr9, hm9⟩ := ret_e h
      exact fin_i (pc := 25) X rfl Y hr9 rfl hm9 dX12_type_25
  · have h := itn (b2i_f c_8) h
    refine lv_bipush (pc := 11) (v := (-2)) hx hb dX12_type_11 (by decide) ?_
    obtain ⟨hr9, hm9⟩ := ret_e h
    exact fin_i (pc := 13) X rfl Y hr9 rfl hm9 dX12_type_13
abbrev rm_X12_wipe : Room := { frames := 0, cells := 0, slots := 0, locals := 0 }
set_option maxHeartbeats 4000000 in
set_option maxRecDepth 100000 in
theorem c_X12_wipe {r9 : Int32} {D9 : Mem} (h : f_X12_wipe D = some (r9, D9)) : Ct l dC dI ad bd cI cZ yX12_wipe cX12_wipe 2 (some .int) rm_X12_wipe [.ref (bd 0)] C D (some (.int r9)) C D9 := by
  unfold f_X12_wipe at h
  refine Ct.intro (own := RX12) (by decide) rfl (Nat.le_of_ble_eq_true rfl) ?_
  intro p e s m args below meth c H locs ls X Y hl
  have hx := X.1
  have hb := X.2.1
  have hl : lv_has ls 2 [(0, .ref (bd 0))] := hl
  refine lv_aload_n (pc := 0) hx hb dX12_wipe_0 rfl (lv_at hl 0 rfl) ?_
  refine gf_X12_209 (pc := 1) X Y dX12_wipe_1 ?_
  obtain ⟨v1_4, ev1_4, h⟩ := lt_s_ h
  refine top_i ev1_4 ?_
  refine lv_istore_n (pc := 4) (lv' := [(1, .int v1_4), (0, .ref (bd 0))]) hx hb dX12_wipe_4 rfl hl (by decide) rfl (fun ls hl => ?_)
  refine lv_aload_n (pc := 5) hx hb dX12_wipe_5 rfl (lv_at hl 1 rfl) ?_
  refine lv_iconst (pc := 6) (v := 0) hx hb dX12_wipe_6 (by decide) ?_
  obtain ⟨D_7, hD_7, h⟩ := sto_s h
  refine pf_X12_209 (pc := 7) X Y hD_7 dX12_wipe_7 (fun H locs Y => ?_)
  refine lv_iload_n (pc := 10) hx hb dX12_wipe_10 rfl (lv_at hl 0 rfl) ?_
  obtain ⟨hr9, hm9⟩ := ret_e h
  exact fin_i (pc := 11) X rfl Y hr9 rfl hm9 dX12_wipe_11
end walk
