section walk
variable {p : Program} {l : Launch} {e : Env} {R : Room} {s : State} {m : MethodId} {args : Array Value} {below : List Frame} {meth : Method} {c : Code} {H : Heap} {locs : List Loc} {Q : State → Prop} {cc : ByteArray} {own : String} {nL : Nat} {ret : Option FieldType} {dC : Nat → ClassId} {dI : Nat → Nat → Nat} {ad bd : Nat → Nat} {cI cZ : ClassId} {C D C' D' : Mem} {pc : Nat} {ls : Array Slot} {rest : List Value}
abbrev rm_X11_firstGreatest : Room := { frames := 0, cells := 0, slots := 0, locals := 0 }
set_option maxHeartbeats 4000000 in
set_option maxRecDepth 100000 in
theorem WB_X11_firstGreatest_21 {r9 : Int32} {k : Nat} {n : Nat} (hA : isA ad cI k n) (v1 : Int32) (v2 : Int32) (C : Mem) (X : Cx p s m args meth c cX11_firstGreatest RX11 3 (some .int) dC dI ad bd cI cZ) {kb : Int32 → Int32 → Option Int32} (hkb : ∀ (v1' : Int32) (v2' : Int32) (H : Heap) (locs : List Loc) (ls : Array Slot), Ys s dC dI ad bd cI cZ C D H locs → lv_has ls 3 [(0, .ref (ad k)), (1, .int v1'), (2, .int v2')] → kb v1' v2' = some r9 → W p l e rm_X11_firstGreatest s m args below meth c H locs 0 0 (MQ below (QC (some (.int r9)) dC dI ad bd cI cZ C D) args s 0 0 (AD ad bd)) (F0 m 4 ls [])) {H : Heap} {locs : List Loc} {ls : Array Slot} (Y : Ys s dC dI ad bd cI cZ C D H locs) (hl : lv_has ls 3 [(0, .ref (ad k)), (1, .int v1), (2, .int v2)]) (h : B_X11_firstGreatest_21 v1 v2 kb = some r9) : W p l e rm_X11_firstGreatest s m args below meth c H locs 0 0 (MQ below (QC (some (.int r9)) dC dI ad bd cI cZ C D) args s 0 0 (AD ad bd)) (F0 m 21 ls []) := by
  have hx := X.1
  have hb := X.2.1
  unfold B_X11_firstGreatest_21 at h
  obtain ⟨v2_21, ev2_21, h⟩ := lt_s_ h
  refine lv_iinc (pc := 21) (v := v2_21) (lv' := [(2, .int v2_21), (0, .ref (ad k)), (1, .int v1)]) hx hb dX11_firstGreatest_21 hl (k := 2) rfl (by rw [ev2_21]; rfl) (by decide) rfl (fun ls hl => ?_)
  refine lv_goto (pc := 24) (tgt := 4) hx hb dX11_firstGreatest_24 (by decide) ?_
  exact hkb v1 v2_21 H locs ls Y (lv_sub hl [1, 2, 0] rfl) h
set_option maxHeartbeats 4000000 in
set_option maxRecDepth 100000 in
theorem WL_X11_firstGreatest_4 {r9 : Int32} {k : Nat} {n : Nat} (hA : isA ad cI k n) (C : Mem) (X : Cx p s m args meth c cX11_firstGreatest RX11 3 (some .int) dC dI ad bd cI cZ) {kx : Int32 → Option Int32} (hkx : ∀ (v1' : Int32) (H : Heap) (locs : List Loc) (ls : Array Slot), Ys s dC dI ad bd cI cZ C D H locs → lv_has ls 3 [(1, .int v1')] → kx v1' = some r9 → W p l e rm_X11_firstGreatest s m args below meth c H locs 0 0 (MQ below (QC (some (.int r9)) dC dI ad bd cI cZ C D) args s 0 0 (AD ad bd)) (F0 m 27 ls [])) : ∀ (n_ : Nat) (v1 : Int32) (v2 : Int32) (H : Heap) (locs : List Loc) (ls : Array Slot), Ys s dC dI ad bd cI cZ C D H locs → lv_has ls 3 [(0, .ref (ad k)), (1, .int v1), (2, .int v2)] → L_X11_firstGreatest_4 k n C kx n_ v1 v2 = some r9 → W p l e rm_X11_firstGreatest s m args below meth c H locs 0 0 (MQ below (QC (some (.int r9)) dC dI ad bd cI cZ C D) args s 0 0 (AD ad bd)) (F0 m 4 ls []) := by
  have hx := X.1
  have hb := X.2.1
  intro n_
  induction n_ with
  | zero =>
    intro v1 v2 H locs ls Y hl h
    cases h
  | succ n_ ih =>
    intro v1 v2 H locs ls Y hl h
    unfold L_X11_firstGreatest_4 at h
    refine lv_iload_n (pc := 4) hx hb dX11_firstGreatest_4 rfl (lv_at hl 2 rfl) ?_
    refine lv_aload_n (pc := 5) hx hb dX11_firstGreatest_5 rfl (lv_at hl 0 rfl) ?_
    refine r_alenc (pc := 6) X Y hA dX11_firstGreatest_6 ?_
    refine lv_icmp_ge (pc := 7) (tgt := 27) hx hb dX11_firstGreatest_7 (by decide) (fun c_7 => ?_) (fun c_7 => ?_)
    · have h := itp c_7 h
      exact hkx v1 H locs ls Y (lv_sub hl [1] rfl) h
    · have h := itn c_7 h
      refine lv_aload_n (pc := 10) hx hb dX11_firstGreatest_10 rfl (lv_at hl 0 rfl) ?_
      refine lv_iload_n (pc := 11) hx hb dX11_firstGreatest_11 rfl (lv_at hl 2 rfl) ?_
      obtain ⟨g_12, h⟩ := gd_s h
      refine r_ialdc (pc := 12) X Y hA g_12 dX11_firstGreatest_12 ?_
      refine lv_aload_n (pc := 13) hx hb dX11_firstGreatest_13 rfl (lv_at hl 0 rfl) ?_
      refine lv_iload_n (pc := 14) hx hb dX11_firstGreatest_14 rfl (lv_at hl 1 rfl) ?_
      obtain ⟨g_15, h⟩ := gd_s h
      refine r_ialdc (pc := 15) X Y hA g_15 dX11_firstGreatest_15 ?_
      refine lv_icmp_le (pc := 16) (tgt := 21) hx hb dX11_firstGreatest_16 (by decide) (fun c_16 => ?_) (fun c_16 => ?_)
      · have h := itp c_16 h
        exact WB_X11_firstGreatest_21 hA v1 v2 C X (kb := (L_X11_firstGreatest_4 k n C kx n_)) ih Y (lv_sub hl [0, 1, 2] rfl) h
      · have h := itn c_16 h
        refine lv_iload_n (pc := 19) hx hb dX11_firstGreatest_19 rfl (lv_at hl 2 rfl) ?_
        refine lv_istore_n (pc := 20) (lv' := [(1, .int v2), (0, .ref (ad k)), (2, .int v2)]) hx hb dX11_firstGreatest_20 rfl hl (by decide) rfl (fun ls hl => ?_)
        exact WB_X11_firstGreatest_21 hA v2 v2 C X (kb := (L_X11_firstGreatest_4 k n C kx n_)) ih Y (lv_sub hl [1, 0, 2] rfl) h
set_option maxHeartbeats 4000000 in
set_option maxRecDepth 100000 in
theorem c_X11_firstGreatest {r9 : Int32} (k : Nat) (n : Nat) (hA : isA ad cI k n) (h : f_X11_firstGreatest k n C = some r9) : Ct l dC dI ad bd cI cZ yX11_firstGreatest cX11_firstGreatest 3 (some .int) rm_X11_firstGreatest [.ref (ad k)] C D (some (.int r9)) C D := by
  unfold f_X11_firstGreatest at h
  refine Ct.intro (own := RX11) (by decide) rfl (Nat.le_of_ble_eq_true rfl) ?_
  intro p e s m args below meth c H locs ls X Y hl
  have hx := X.1
  have hb := X.2.1
  have hl : lv_has ls 3 [(0, .ref (ad k))] := hl
  refine lv_iconst (pc := 0) (v := 0) hx hb dX11_firstGreatest_0 (by decide) ?_
  refine lv_istore_n (pc := 1) (lv' := [(1, .int 0), (0, .ref (ad k))]) hx hb dX11_firstGreatest_1 rfl hl (by decide) rfl (fun ls hl => ?_)
  refine lv_iconst (pc := 2) (v := 1) hx hb dX11_firstGreatest_2 (by decide) ?_
  refine lv_istore_n (pc := 3) (lv' := [(2, .int 1), (1, .int 0), (0, .ref (ad k))]) hx hb dX11_firstGreatest_3 rfl hl (by decide) rfl (fun ls hl => ?_)
  refine WL_X11_firstGreatest_4 hA C X (fun v1_27 H locs ls Y hl h => ?_) FU 0 1 H locs ls Y (lv_sub hl [2, 1, 0] rfl) h
  refine lv_iload_n (pc := 27) hx hb dX11_firstGreatest_27 rfl (lv_at hl 0 rfl) ?_
  have hr9 := ret_p h
  exact fin_i (pc := 28) X rfl Y hr9 rfl rfl dX11_firstGreatest_28
abbrev rm_J7_fill_53178 : Room := { frames := 0, cells := 0, slots := 0, locals := 0 }
set_option maxHeartbeats 4000000 in
set_option maxRecDepth 100000 in
theorem WL_J7_fill_53178_5 {C9 : Mem} {k : Nat} {n : Nat} (hA : isA ad cI k n) (v1 : Int32) (v3 : Int32) (X : Cx p s m args meth c cJ7_fill_53178 RJ7 4 (none) dC dI ad bd cI cZ) {kx : Mem → Option Mem} (hkx : ∀ (C' : Mem) (H : Heap) (locs : List Loc) (ls : Array Slot), Ys s dC dI ad bd cI cZ C' D H locs → lv_has ls 4 [] → kx C' = some C9 → W p l e rm_J7_fill_53178 s m args below meth c H locs 0 0 (MQ below (QC (none) dC dI ad bd cI cZ C9 D) args s 0 0 (AD ad bd)) (F0 m 20 ls [])) : ∀ (n_ : Nat) (v2 : Int32) (C : Mem) (H : Heap) (locs : List Loc) (ls : Array Slot), Ys s dC dI ad bd cI cZ C D H locs → lv_has ls 4 [(0, .ref (ad k)), (1, .int v1), (2, .int v2), (3, .int v3)] → L_J7_fill_53178_5 k n v1 v3 kx n_ v2 C = some C9 → W p l e rm_J7_fill_53178 s m args below meth c H locs 0 0 (MQ below (QC (none) dC dI ad bd cI cZ C9 D) args s 0 0 (AD ad bd)) (F0 m 5 ls []) := by
  have hx := X.1
  have hb := X.2.1
  intro n_
  induction n_ with
  | zero =>
    intro v2 C H locs ls Y hl h
    cases h
  | succ n_ ih =>
    intro v2 C H locs ls Y hl h
    unfold L_J7_fill_53178_5 at h
    refine lv_iload_n (pc := 5) hx hb dJ7_fill_53178_5 rfl (lv_at hl 2 rfl) ?_
    refine lv_iload_n (pc := 6) hx hb dJ7_fill_53178_6 rfl (lv_at hl 3 rfl) ?_
    refine lv_icmp_ge (pc := 7) (tgt := 20) hx hb dJ7_fill_53178_7 (by decide) (fun c_7 => ?_) (fun c_7 => ?_)
    · have h := itp c_7 h
      exact hkx C H locs ls Y (lv_sub hl [] rfl) h
    · have h := itn c_7 h
      refine lv_aload_n (pc := 10) hx hb dJ7_fill_53178_10 rfl (lv_at hl 0 rfl) ?_
      refine lv_iload_n (pc := 11) hx hb dJ7_fill_53178_11 rfl (lv_at hl 2 rfl) ?_
      refine lv_iload_n (pc := 12) hx hb dJ7_fill_53178_12 rfl (lv_at hl 1 rfl) ?_
      obtain ⟨g_13, h⟩ := gd_s h
      obtain ⟨C_13, hC_13, h⟩ := sto_s h
      refine r_iastc (pc := 13) X Y hA g_13 hC_13 dJ7_fill_53178_13 (fun H locs Y => ?_)
      obtain ⟨v2_14, ev2_14, h⟩ := lt_s_ h
      refine lv_iinc (pc := 14) (v := v2_14) (lv' := [(2, .int v2_14), (0, .ref (ad k)), (1, .int v1), (3, .int v3)]) hx hb dJ7_fill_53178_14 hl (k := 2) rfl (by rw [ev2_14]; rfl) (by decide) rfl (fun ls hl => ?_)
      refine lv_goto (pc := 17) (tgt := 5) hx hb dJ7_fill_53178_17 (by decide) ?_
      exact ih v2_14 C_13 H locs ls Y (lv_sub hl [1, 2, 0, 3] rfl) h
set_option maxHeartbeats 4000000 in
set_option maxRecDepth 100000 in
theorem c_J7_fill_53178 {C9 : Mem} (k : Nat) (n : Nat) (v1 : Int32) (hA : isA ad cI k n) (h : f_J7_fill_53178 k n v1 C = some C9) : Ct l dC dI ad bd cI cZ yJ7_fill_53178 cJ7_fill_53178 4 (none) rm_J7_fill_53178 [.ref (ad k), .int v1] C D (none) C9 D := by
  unfold f_J7_fill_53178 at h
  refine Ct.intro (own := RJ7) (by decide) rfl (Nat.le_of_ble_eq_true rfl) ?_
  intro p e s m args below meth c H locs ls X Y hl
  have hx := X.1
  have hb := X.2.1
  have hl : lv_has ls 4 [(0, .ref (ad k)), (1, .int v1)] := hl
  refine lv_iconst (pc := 0) (v := 0) hx hb dJ7_fill_53178_0 (by decide) ?_
  refine lv_istore_n (pc := 1) (lv' := [(2, .int 0), (0, .ref (ad k)), (1, .int v1)]) hx hb dJ7_fill_53178_1 rfl hl (by decide) rfl (fun ls hl => ?_)
  refine lv_aload_n (pc := 2) hx hb dJ7_fill_53178_2 rfl (lv_at hl 1 rfl) ?_
  refine r_alenc (pc := 3) X Y hA dJ7_fill_53178_3 ?_
  obtain ⟨v3_4, ev3_4, h⟩ := lt_s_ h
  refine top_i ev3_4 ?_
  refine lv_istore_n (pc := 4) (lv' := [(3, .int v3_4), (2, .int 0), (0, .ref (ad k)), (1, .int v1)]) hx hb dJ7_fill_53178_4 rfl hl (by decide) rfl (fun ls hl => ?_)
  refine WL_J7_fill_53178_5 hA v1 v3_4 X (fun C_20 H locs ls Y hl h => ?_) FU 0 C H locs ls Y (lv_sub hl [2, 3, 1, 0] rfl) h
  have hm9 := ret_v h
  exact fin_v (pc := 20) X rfl Y hm9 rfl dJ7_fill_53178_20
abbrev rm_X11_millionths : Room := { frames := 0, cells := 0, slots := 0, locals := 0 }
set_option maxHeartbeats 4000000 in
set_option maxRecDepth 100000 in
theorem c_X11_millionths {r9 : Int32} (v0 : Int32) (v1 : Int32) (h : f_X11_millionths v0 v1 = some r9) : Ct l dC dI ad bd cI cZ yX11_millionths cX11_millionths 2 (some .int) rm_X11_millionths [.int v0, .int v1] C D (some (.int r9)) C D := by
  unfold f_X11_millionths at h
  refine Ct.intro (own := RX11) (by decide) rfl (Nat.le_of_ble_eq_true rfl) ?_
  intro p e s m args below meth c H locs ls X Y hl
  have hx := X.1
  have hb := X.2.1
  have hl : lv_has ls 2 [(0, .int v0), (1, .int v1)] := hl
  refine lv_iload_n (pc := 0) hx hb dX11_millionths_0 rfl (lv_at hl 1 rfl) ?_
  refine lv_if_ne (pc := 1) (tgt := 6) hx hb dX11_millionths_1 (by decide) (fun c_1 => ?_) (fun c_1 => ?_)
  · have h := itn c_1 h
    refine lv_ldc2 (pc := 6) (v := 1000000) hx hb X.2.2.2.1 (X.2.2.2.2.1 _ w_25641bc881) dX11_millionths_6 ?_
    refine lv_iload_n (pc := 9) hx hb dX11_millionths_9 rfl (lv_at hl 0 rfl) ?_
    refine lv_i2l (pc := 10) hx hb dX11_millionths_10 rfl ?_
    refine lv_lmul (pc := 11) hx hb dX11_millionths_11 ?_
    refine lv_iload_n (pc := 12) hx hb dX11_millionths_12 rfl (lv_at hl 1 rfl) ?_
    refine lv_i2l (pc := 13) hx hb dX11_millionths_13 rfl ?_
    obtain ⟨g_14, h⟩ := gd_s h
    refine lv_ldiv (pc := 14) hx hb dX11_millionths_14 (of_decide_eq_true g_14) ?_
    refine lv_l2i (pc := 15) hx hb dX11_millionths_15 rfl ?_
    have hr9 := ret_p h
    exact fin_i (pc := 16) X rfl Y hr9 rfl rfl dX11_millionths_16
  · have h := itp c_1 h
    refine lv_iconst (pc := 4) (v := 0) hx hb dX11_millionths_4 (by decide) ?_
    have hr9 := ret_p h
    exact fin_i (pc := 5) X rfl Y hr9 rfl rfl dX11_millionths_5
abbrev rm_J6_compare_7cf53 : Room := { frames := 0, cells := 0, slots := 0, locals := 0 }
set_option maxHeartbeats 4000000 in
set_option maxRecDepth 100000 in
theorem c_J6_compare_7cf53 (v0 : Int32) (v1 : Int32) : Ct l dC dI ad bd cI cZ yJ6_compare_7cf53 cJ6_compare_7cf53 2 (some .int) rm_J6_compare_7cf53 [.int v0, .int v1] C D (some (.int (f_J6_compare_7cf53 v0 v1))) C D := by
  obtain ⟨r9, h⟩ : ∃ r9, f_J6_compare_7cf53 v0 v1 = r9 := ⟨_, rfl⟩
  rw [h]
  unfold f_J6_compare_7cf53 at h
  refine Ct.intro (own := RJ6) (by decide) rfl (Nat.le_of_ble_eq_true rfl) ?_
  intro p e s m args below meth c H locs ls X Y hl
  have hx := X.1
  have hb := X.2.1
  have hl : lv_has ls 2 [(0, .int v0), (1, .int v1)] := hl
  refine lv_iload_n (pc := 0) hx hb dJ6_compare_7cf53_0 rfl (lv_at hl 0 rfl) ?_
  refine lv_iload_n (pc := 1) hx hb dJ6_compare_7cf53_1 rfl (lv_at hl 1 rfl) ?_
  refine lv_icmp_ge (pc := 2) (tgt := 9) hx hb dJ6_compare_7cf53_2 (by decide) (fun c_2 => ?_) (fun c_2 => ?_)
  · have h := itp c_2 h
    refine lv_iload_n (pc := 9) hx hb dJ6_compare_7cf53_9 rfl (lv_at hl 0 rfl) ?_
    refine lv_iload_n (pc := 10) hx hb dJ6_compare_7cf53_10 rfl (lv_at hl 1 rfl) ?_
    refine lv_icmp_ne (pc := 11) (tgt := 18) hx hb dJ6_compare_7cf53_11 (by decide) (fun c_11 => ?_) (fun c_11 => ?_)
    · have h := itn c_11 h
      refine lv_iconst (pc := 18) (v := 1) hx hb dJ6_compare_7cf53_18 (by decide) ?_
      have hr9 := h
      exact fin_i (pc := 19) X rfl Y hr9 rfl rfl dJ6_compare_7cf53_19
    · have h := itp c_11 h
      refine lv_iconst (pc := 14) (v := 0) hx hb dJ6_compare_7cf53_14 (by decide) ?_
      refine lv_goto (pc := 15) (tgt := 19) hx hb dJ6_compare_7cf53_15 (by decide) ?_
      have hr9 := h
      exact fin_i (pc := 19) X rfl Y hr9 rfl rfl dJ6_compare_7cf53_19
  · have h := itn c_2 h
    refine lv_iconst (pc := 5) (v := (-1)) hx hb dJ6_compare_7cf53_5 (by decide) ?_
    refine lv_goto (pc := 6) (tgt := 19) hx hb dJ6_compare_7cf53_6 (by decide) ?_
    have hr9 := h
    exact fin_i (pc := 19) X rfl Y hr9 rfl rfl dJ6_compare_7cf53_19
abbrev rm_X11_isWithin : Room := { frames := 0, cells := 0, slots := 0, locals := 0 }
set_option maxHeartbeats 4000000 in
set_option maxRecDepth 100000 in
theorem c_X11_isWithin (v0 : Int32) (v1 : Int32) : Ct l dC dI ad bd cI cZ yX11_isWithin cX11_isWithin 2 (some .boolean) rm_X11_isWithin [.int v0, .int v1] C D (some (.int (b2i (f_X11_isWithin v0 v1)))) C D := by
  obtain ⟨r9, h⟩ : ∃ r9, f_X11_isWithin v0 v1 = r9 := ⟨_, rfl⟩
  rw [h]
  unfold f_X11_isWithin at h
  refine Ct.intro (own := RX11) (by decide) rfl (Nat.le_of_ble_eq_true rfl) ?_
  intro p e s m args below meth c H locs ls X Y hl
  have hx := X.1
  have hb := X.2.1
  have hl : lv_has ls 2 [(0, .int v0), (1, .int v1)] := hl
  refine lv_iload_n (pc := 0) hx hb dX11_isWithin_0 rfl (lv_at hl 0 rfl) ?_
  refine lv_if_lt (pc := 1) (tgt := 13) hx hb dX11_isWithin_1 (by decide) (fun c_1 => ?_) (fun c_1 => ?_)
  · have h := itp c_1 h
    refine lv_iconst (pc := 13) (v := 0) hx hb dX11_isWithin_13 (by decide) ?_
    have hr9 := h
    exact fin_z (b := false) (pc := 14) X rfl Y rfl hr9 rfl rfl dX11_isWithin_14
  · have h := itn c_1 h
    refine lv_iload_n (pc := 4) hx hb dX11_isWithin_4 rfl (lv_at hl 0 rfl) ?_
    refine lv_iload_n (pc := 5) hx hb dX11_isWithin_5 rfl (lv_at hl 1 rfl) ?_
    refine lv_icmp_gt (pc := 6) (tgt := 13) hx hb dX11_isWithin_6 (by decide) (fun c_6 => ?_) (fun c_6 => ?_)
    · have h := itp c_6 h
      refine lv_iconst (pc := 13) (v := 0) hx hb dX11_isWithin_13 (by decide) ?_
      have hr9 := h
      exact fin_z (b := false) (pc := 14) X rfl Y rfl hr9 rfl rfl dX11_isWithin_14
    · have h := itn c_6 h
      refine lv_iconst (pc := 9) (v := 1) hx hb dX11_isWithin_9 (by decide) ?_
      refine lv_goto (pc := 10) (tgt := 14) hx hb dX11_isWithin_10 (by decide) ?_
      have hr9 := h
      exact fin_z (b := true) (pc := 14) X rfl Y rfl hr9 rfl rfl dX11_isWithin_14
abbrev rm_X11_isTime : Room := { frames := 1, cells := 0, slots := 0, locals := 21 }
set_option maxHeartbeats 4000000 in
set_option maxRecDepth 100000 in
theorem c_X11_isTime (v0 : Int32) : Ct l dC dI ad bd cI cZ yX11_isTime cX11_isTime 1 (some .boolean) rm_X11_isTime [.int v0] C D (some (.int (b2i (f_X11_isTime v0)))) C D := by
  obtain ⟨r9, h⟩ : ∃ r9, f_X11_isTime v0 = r9 := ⟨_, rfl⟩
  rw [h]
  unfold f_X11_isTime at h
  refine Ct.intro (own := RX11) (by decide) rfl (Nat.le_of_ble_eq_true rfl) ?_
  intro p e s m args below meth c H locs ls X Y hl
  have hx := X.1
  have hb := X.2.1
  have hl : lv_has ls 1 [(0, .int v0)] := hl
  refine lv_iload_n (pc := 0) hx hb dX11_isTime_0 rfl (lv_at hl 0 rfl) ?_
  refine lv_sipush (pc := 1) (v := 999) hx hb dX11_isTime_1 (by decide) ?_
  refine call_si (pc := 4) (rest := []) [.int v0, .int 999] X Y (c_X11_isWithin v0 999) sw_X11_145 rfl ⟨rfl, rfl, Nat.le_of_ble_eq_true rfl, Nat.le_of_ble_eq_true rfl⟩ hl rfl (Nat.le_of_ble_eq_true rfl) dX11_isTime_4 (fun H locs Y => ?_)
  have hr9 := h
  exact fin_z (b := (f_X11_isWithin v0 999)) (pc := 7) X rfl Y rfl hr9 rfl rfl dX11_isTime_7
abbrev rm_J6_bitCount_0f7a4 : Room := { frames := 0, cells := 0, slots := 0, locals := 0 }
set_option maxHeartbeats 4000000 in
set_option maxRecDepth 100000 in
theorem c_J6_bitCount_0f7a4 (v0 : Int32) : Ct l dC dI ad bd cI cZ yJ6_bitCount_0f7a4 cJ6_bitCount_0f7a4 1 (some .int) rm_J6_bitCount_0f7a4 [.int v0] C D (some (.int (f_J6_bitCount_0f7a4 v0))) C D := by
  obtain ⟨r9, h⟩ : ∃ r9, f_J6_bitCount_0f7a4 v0 = r9 := ⟨_, rfl⟩
  rw [h]
  unfold f_J6_bitCount_0f7a4 at h
  refine Ct.intro (own := RJ6) (by decide) rfl (Nat.le_of_ble_eq_true rfl) ?_
  intro p e s m args below meth c H locs ls X Y hl
  have hx := X.1
  have hb := X.2.1
  have hl : lv_has ls 1 [(0, .int v0)] := hl
  refine lv_iload_n (pc := 0) hx hb dJ6_bitCount_0f7a4_0 rfl (lv_at hl 0 rfl) ?_
  refine lv_iload_n (pc := 1) hx hb dJ6_bitCount_0f7a4_1 rfl (lv_at hl 0 rfl) ?_
  refine lv_iconst (pc := 2) (v := 1) hx hb dJ6_bitCount_0f7a4_2 (by decide) ?_
  refine lv_iushr (pc := 3) hx hb dJ6_bitCount_0f7a4_3 rfl ?_
  refine lv_ldcw (pc := 4) (v := 1431655765) hx hb X.2.2.2.1 (X.2.2.2.2.1 _ w_a3bd7fb0c1) dJ6_bitCount_0f7a4_4 ?_
  refine lv_iand (pc := 7) hx hb dJ6_bitCount_0f7a4_7 ?_
  refine lv_isub (pc := 8) hx hb dJ6_bitCount_0f7a4_8 ?_
  obtain ⟨v0_9, ev0_9, h⟩ := lt_s_ h
  refine top_i ev0_9 ?_
  refine lv_istore_n (pc := 9) (lv' := [(0, .int v0_9)]) hx hb dJ6_bitCount_0f7a4_9 rfl hl (by decide) rfl (fun ls hl => ?_)
  refine lv_iload_n (pc := 10) hx hb dJ6_bitCount_0f7a4_10 rfl (lv_at hl 0 rfl) ?_
  refine lv_ldcw (pc := 11) (v := 858993459) hx hb X.2.2.2.1 (X.2.2.2.2.1 _ w_e23c11c15a) dJ6_bitCount_0f7a4_11 ?_
  refine lv_iand (pc := 14) hx hb dJ6_bitCount_0f7a4_14 ?_
  refine lv_iload_n (pc := 15) hx hb dJ6_bitCount_0f7a4_15 rfl (lv_at hl 0 rfl) ?_
  refine lv_iconst (pc := 16) (v := 2) hx hb dJ6_bitCount_0f7a4_16 (by decide) ?_
  refine lv_iushr (pc := 17) hx hb dJ6_bitCount_0f7a4_17 rfl ?_
  refine lv_ldcw (pc := 18) (v := 858993459) hx hb X.2.2.2.1 (X.2.2.2.2.1 _ w_e23c11c15a) dJ6_bitCount_0f7a4_18 ?_
  refine lv_iand (pc := 21) hx hb dJ6_bitCount_0f7a4_21 ?_
  refine lv_iadd (pc := 22) hx hb dJ6_bitCount_0f7a4_22 ?_
  obtain ⟨v0_23, ev0_23, h⟩ := lt_s_ h
  refine top_i ev0_23 ?_
  refine lv_istore_n (pc := 23) (lv' := [(0, .int v0_23)]) hx hb dJ6_bitCount_0f7a4_23 rfl hl (by decide) rfl (fun ls hl => ?_)
  refine lv_iload_n (pc := 24) hx hb dJ6_bitCount_0f7a4_24 rfl (lv_at hl 0 rfl) ?_
  refine lv_iload_n (pc := 25) hx hb dJ6_bitCount_0f7a4_25 rfl (lv_at hl 0 rfl) ?_
  refine lv_iconst (pc := 26) (v := 4) hx hb dJ6_bitCount_0f7a4_26 (by decide) ?_
  refine lv_iushr (pc := 27) hx hb dJ6_bitCount_0f7a4_27 rfl ?_
  refine lv_iadd (pc := 28) hx hb dJ6_bitCount_0f7a4_28 ?_
  refine lv_ldcw (pc := 29) (v := 252645135) hx hb X.2.2.2.1 (X.2.2.2.2.1 _ w_9fccaed3fe) dJ6_bitCount_0f7a4_29 ?_
  refine lv_iand (pc := 32) hx hb dJ6_bitCount_0f7a4_32 ?_
  obtain ⟨v0_33, ev0_33, h⟩ := lt_s_ h
  refine top_i ev0_33 ?_
  refine lv_istore_n (pc := 33) (lv' := [(0, .int v0_33)]) hx hb dJ6_bitCount_0f7a4_33 rfl hl (by decide) rfl (fun ls hl => ?_)
  refine lv_iload_n (pc := 34) hx hb dJ6_bitCount_0f7a4_34 rfl (lv_at hl 0 rfl) ?_
  refine lv_iload_n (pc := 35) hx hb dJ6_bitCount_0f7a4_35 rfl (lv_at hl 0 rfl) ?_
  refine lv_bipush (pc := 36) (v := 8) hx hb dJ6_bitCount_0f7a4_36 (by decide) ?_
  refine lv_iushr (pc := 38) hx hb dJ6_bitCount_0f7a4_38 rfl ?_
  refine lv_iadd (pc := 39) hx hb dJ6_bitCount_0f7a4_39 ?_
  obtain ⟨v0_40, ev0_40, h⟩ := lt_s_ h
  refine top_i ev0_40 ?_
  refine lv_istore_n (pc := 40) (lv' := [(0, .int v0_40)]) hx hb dJ6_bitCount_0f7a4_40 rfl hl (by decide) rfl (fun ls hl => ?_)
  refine lv_iload_n (pc := 41) hx hb dJ6_bitCount_0f7a4_41 rfl (lv_at hl 0 rfl) ?_
  refine lv_iload_n (pc := 42) hx hb dJ6_bitCount_0f7a4_42 rfl (lv_at hl 0 rfl) ?_
  refine lv_bipush (pc := 43) (v := 16) hx hb dJ6_bitCount_0f7a4_43 (by decide) ?_
  refine lv_iushr (pc := 45) hx hb dJ6_bitCount_0f7a4_45 rfl ?_
  refine lv_iadd (pc := 46) hx hb dJ6_bitCount_0f7a4_46 ?_
  obtain ⟨v0_47, ev0_47, h⟩ := lt_s_ h
  refine top_i ev0_47 ?_
  refine lv_istore_n (pc := 47) (lv' := [(0, .int v0_47)]) hx hb dJ6_bitCount_0f7a4_47 rfl hl (by decide) rfl (fun ls hl => ?_)
  refine lv_iload_n (pc := 48) hx hb dJ6_bitCount_0f7a4_48 rfl (lv_at hl 0 rfl) ?_
  refine lv_bipush (pc := 49) (v := 63) hx hb dJ6_bitCount_0f7a4_49 (by decide) ?_
  refine lv_iand (pc := 51) hx hb dJ6_bitCount_0f7a4_51 ?_
  have hr9 := h
  exact fin_i (pc := 52) X rfl Y hr9 rfl rfl dJ6_bitCount_0f7a4_52
abbrev rm_J7_rangeCheck_23922 : Room := { frames := 0, cells := 0, slots := 0, locals := 0 }
set_option maxHeartbeats 4000000 in
set_option maxRecDepth 100000 in
theorem c_J7_rangeCheck_23922 (v0 : Int32) (v1 : Int32) (v2 : Int32) (h : f_J7_rangeCheck_23922 v0 v1 v2 = some ()) : Ct l dC dI ad bd cI cZ yJ7_rangeCheck_23922 cJ7_rangeCheck_23922 3 (none) rm_J7_rangeCheck_23922 [.int v0, .int v1, .int v2] C D (none) C D := by
  unfold f_J7_rangeCheck_23922 at h
  refine Ct.intro (own := RJ7) (by decide) rfl (Nat.le_of_ble_eq_true rfl) ?_
  intro p e s m args below meth c H locs ls X Y hl
  have hx := X.1
  have hb := X.2.1
  have hl : lv_has ls 3 [(0, .int v0), (1, .int v1), (2, .int v2)] := hl
  refine lv_iload_n (pc := 0) hx hb dJ7_rangeCheck_23922_0 rfl (lv_at hl 1 rfl) ?_
  refine lv_iload_n (pc := 1) hx hb dJ7_rangeCheck_23922_1 rfl (lv_at hl 2 rfl) ?_
  refine lv_icmp_le (pc := 2) (tgt := 46) hx hb dJ7_rangeCheck_23922_2 (by decide) (fun c_2 => ?_) (fun c_2 => ?_)
  · have h := itp c_2 h
    refine lv_iload_n (pc := 46) hx hb dJ7_rangeCheck_23922_46 rfl (lv_at hl 1 rfl) ?_
    refine lv_if_ge (pc := 47) (tgt := 59) hx hb dJ7_rangeCheck_23922_47 (by decide) (fun c_47 => ?_) (fun c_47 => ?_)
    · have h := itp c_47 h
      refine lv_iload_n (pc := 59) hx hb dJ7_rangeCheck_23922_59 rfl (lv_at hl 2 rfl) ?_
      refine lv_iload_n (pc := 60) hx hb dJ7_rangeCheck_23922_60 rfl (lv_at hl 0 rfl) ?_
      refine lv_icmp_le (pc := 61) (tgt := 73) hx hb dJ7_rangeCheck_23922_61 (by decide) (fun c_61 => ?_) (fun c_61 => ?_)
      · have h := itp c_61 h
        exact fin_v (pc := 73) X rfl Y rfl rfl dJ7_rangeCheck_23922_73
      · have h := itn c_61 h
        cases h
    · have h := itn c_47 h
      cases h
  · have h := itn c_2 h
    cases h
abbrev rm_J7_fill_fda19 : Room := { frames := 1, cells := 0, slots := 0, locals := 22 }
set_option maxHeartbeats 4000000 in
set_option maxRecDepth 100000 in
theorem WL_J7_fill_fda19_10 {C9 : Mem} {k : Nat} {n : Nat} (hA : isA ad cI k n) (v2 : Int32) (v3 : Int32) (X : Cx p s m args meth c cJ7_fill_fda19 RJ7 5 (none) dC dI ad bd cI cZ) {kx : Mem → Option Mem} (hkx : ∀ (C' : Mem) (H : Heap) (locs : List Loc) (ls : Array Slot), Ys s dC dI ad bd cI cZ C' D H locs → lv_has ls 5 [] → kx C' = some C9 → W p l e rm_J7_fill_fda19 s m args below meth c H locs 0 0 (MQ below (QC (none) dC dI ad bd cI cZ C9 D) args s 0 0 (AD ad bd)) (F0 m 27 ls [])) : ∀ (n_ : Nat) (v4 : Int32) (C : Mem) (H : Heap) (locs : List Loc) (ls : Array Slot), Ys s dC dI ad bd cI cZ C D H locs → lv_has ls 5 [(0, .ref (ad k)), (2, .int v2), (3, .int v3), (4, .int v4)] → L_J7_fill_fda19_10 k n v2 v3 kx n_ v4 C = some C9 → W p l e rm_J7_fill_fda19 s m args below meth c H locs 0 0 (MQ below (QC (none) dC dI ad bd cI cZ C9 D) args s 0 0 (AD ad bd)) (F0 m 10 ls []) := by
  have hx := X.1
  have hb := X.2.1
  intro n_
  induction n_ with
  | zero =>
    intro v4 C H locs ls Y hl h
    cases h
  | succ n_ ih =>
    intro v4 C H locs ls Y hl h
    unfold L_J7_fill_fda19_10 at h
    refine lv_iload (pc := 10) hx hb dJ7_fill_fda19_10 (lv_at hl 3 rfl) ?_
    refine lv_iload_n (pc := 12) hx hb dJ7_fill_fda19_12 rfl (lv_at hl 1 rfl) ?_
    refine lv_icmp_ge (pc := 13) (tgt := 27) hx hb dJ7_fill_fda19_13 (by decide) (fun c_13 => ?_) (fun c_13 => ?_)
    · have h := itp c_13 h
      exact hkx C H locs ls Y (lv_sub hl [] rfl) h
    · have h := itn c_13 h
      refine lv_aload_n (pc := 16) hx hb dJ7_fill_fda19_16 rfl (lv_at hl 0 rfl) ?_
      refine lv_iload (pc := 17) hx hb dJ7_fill_fda19_17 (lv_at hl 3 rfl) ?_
      refine lv_iload_n (pc := 19) hx hb dJ7_fill_fda19_19 rfl (lv_at hl 2 rfl) ?_
      obtain ⟨g_20, h⟩ := gd_s h
      obtain ⟨C_20, hC_20, h⟩ := sto_s h
      refine r_iastc (pc := 20) X Y hA g_20 hC_20 dJ7_fill_fda19_20 (fun H locs Y => ?_)
      obtain ⟨v4_21, ev4_21, h⟩ := lt_s_ h
      refine lv_iinc (pc := 21) (v := v4_21) (lv' := [(4, .int v4_21), (0, .ref (ad k)), (2, .int v2), (3, .int v3)]) hx hb dJ7_fill_fda19_21 hl (k := 3) rfl (by rw [ev4_21]; rfl) (by decide) rfl (fun ls hl => ?_)
      refine lv_goto (pc := 24) (tgt := 10) hx hb dJ7_fill_fda19_24 (by decide) ?_
      exact ih v4_21 C_20 H locs ls Y (lv_sub hl [1, 2, 3, 0] rfl) h
set_option maxHeartbeats 4000000 in
set_option maxRecDepth 100000 in
theorem c_J7_fill_fda19 {C9 : Mem} (k : Nat) (n : Nat) (v1 : Int32) (v2 : Int32) (v3 : Int32) (hA : isA ad cI k n) (h : f_J7_fill_fda19 k n v1 v2 v3 C = some C9) : Ct l dC dI ad bd cI cZ yJ7_fill_fda19 cJ7_fill_fda19 5 (none) rm_J7_fill_fda19 [.ref (ad k), .int v1, .int v2, .int v3] C D (none) C9 D := by
  unfold f_J7_fill_fda19 at h
  refine Ct.intro (own := RJ7) (by decide) rfl (Nat.le_of_ble_eq_true rfl) ?_
  intro p e s m args below meth c H locs ls X Y hl
  have hx := X.1
  have hb := X.2.1
  have hl : lv_has ls 5 [(0, .ref (ad k)), (1, .int v1), (2, .int v2), (3, .int v3)] := hl
  refine lv_aload_n (pc := 0) hx hb dJ7_fill_fda19_0 rfl (lv_at hl 0 rfl) ?_
  refine r_alenc (pc := 1) X Y hA dJ7_fill_fda19_1 ?_
  refine lv_iload_n (pc := 2) hx hb dJ7_fill_fda19_2 rfl (lv_at hl 1 rfl) ?_
  refine lv_iload_n (pc := 3) hx hb dJ7_fill_fda19_3 rfl (lv_at hl 2 rfl) ?_
  obtain ⟨u_4, e_4, h⟩ := bnd_s h
  refine call_sv (pc := 4) (rest := []) [.int (nI n), .int v1, .int v2] X Y (c_J7_rangeCheck_23922 (nI n) v1 v2 e_4) sw_J7_13 rfl ⟨rfl, rfl, Nat.le_of_ble_eq_true rfl, Nat.le_of_ble_eq_true rfl⟩ hl rfl (Nat.le_of_ble_eq_true rfl) dJ7_fill_fda19_4 (fun H locs Y => ?_)
  refine lv_iload_n (pc := 7) hx hb dJ7_fill_fda19_7 rfl (lv_at hl 1 rfl) ?_
  refine lv_istore (pc := 8) (lv' := [(4, .int v1), (0, .ref (ad k)), (1, .int v1), (2, .int v2), (3, .int v3)]) hx hb dJ7_fill_fda19_8 hl (by decide) rfl (fun ls hl => ?_)
  refine WL_J7_fill_fda19_10 hA v2 v3 X (fun C_27 H locs ls Y hl h => ?_) FU v1 C H locs ls Y (lv_sub hl [1, 3, 4, 0] rfl) h
  have hm9 := ret_v h
  exact fin_v (pc := 27) X rfl Y hm9 rfl dJ7_fill_fda19_27
abbrev rm_X11_isPeople : Room := { frames := 1, cells := 0, slots := 0, locals := 21 }
set_option maxHeartbeats 4000000 in
set_option maxRecDepth 100000 in
theorem c_X11_isPeople (v0 : Int32) : Ct l dC dI ad bd cI cZ yX11_isPeople cX11_isPeople 1 (some .boolean) rm_X11_isPeople [.int v0] C D (some (.int (b2i (f_X11_isPeople v0)))) C D := by
  obtain ⟨r9, h⟩ : ∃ r9, f_X11_isPeople v0 = r9 := ⟨_, rfl⟩
  rw [h]
  unfold f_X11_isPeople at h
  refine Ct.intro (own := RX11) (by decide) rfl (Nat.le_of_ble_eq_true rfl) ?_
  intro p e s m args below meth c H locs ls X Y hl
  have hx := X.1
  have hb := X.2.1
  have hl : lv_has ls 1 [(0, .int v0)] := hl
  refine lv_iload_n (pc := 0) hx hb dX11_isPeople_0 rfl (lv_at hl 0 rfl) ?_
  refine lv_iconst (pc := 1) (v := 3) hx hb dX11_isPeople_1 (by decide) ?_
  refine call_si (pc := 2) (rest := []) [.int v0, .int 3] X Y (c_X11_isWithin v0 3) sw_X11_145 rfl ⟨rfl, rfl, Nat.le_of_ble_eq_true rfl, Nat.le_of_ble_eq_true rfl⟩ hl rfl (Nat.le_of_ble_eq_true rfl) dX11_isPeople_2 (fun H locs Y => ?_)
  have hr9 := h
  exact fin_z (b := (f_X11_isWithin v0 3)) (pc := 5) X rfl Y rfl hr9 rfl rfl dX11_isPeople_5
abbrev rm_X11_isKind : Room := { frames := 1, cells := 0, slots := 0, locals := 21 }
set_option maxHeartbeats 4000000 in
set_option maxRecDepth 100000 in
theorem c_X11_isKind (v0 : Int32) : Ct l dC dI ad bd cI cZ yX11_isKind cX11_isKind 1 (some .boolean) rm_X11_isKind [.int v0] C D (some (.int (b2i (f_X11_isKind v0)))) C D := by
  obtain ⟨r9, h⟩ : ∃ r9, f_X11_isKind v0 = r9 := ⟨_, rfl⟩
  rw [h]
  unfold f_X11_isKind at h
  refine Ct.intro (own := RX11) (by decide) rfl (Nat.le_of_ble_eq_true rfl) ?_
  intro p e s m args below meth c H locs ls X Y hl
  have hx := X.1
  have hb := X.2.1
  have hl : lv_has ls 1 [(0, .int v0)] := hl
  refine lv_iload_n (pc := 0) hx hb dX11_isKind_0 rfl (lv_at hl 0 rfl) ?_
  refine lv_iconst (pc := 1) (v := 3) hx hb dX11_isKind_1 (by decide) ?_
  refine call_si (pc := 2) (rest := []) [.int v0, .int 3] X Y (c_X11_isWithin v0 3) sw_X11_145 rfl ⟨rfl, rfl, Nat.le_of_ble_eq_true rfl, Nat.le_of_ble_eq_true rfl⟩ hl rfl (Nat.le_of_ble_eq_true rfl) dX11_isKind_2 (fun H locs Y => ?_)
  have hr9 := h
  exact fin_z (b := (f_X11_isWithin v0 3)) (pc := 5) X rfl Y rfl hr9 rfl rfl dX11_isKind_5
abbrev rm_X11_isOffer : Room := { frames := 1, cells := 0, slots := 0, locals := 21 }
set_option maxHeartbeats 4000000 in
set_option maxRecDepth 100000 in
theorem c_X11_isOffer (v0 : Int32) : Ct l dC dI ad bd cI cZ yX11_isOffer cX11_isOffer 1 (some .boolean) rm_X11_isOffer [.int v0] C D (some (.int (b2i (f_X11_isOffer v0)))) C D := by
  obtain ⟨r9, h⟩ : ∃ r9, f_X11_isOffer v0 = r9 := ⟨_, rfl⟩
  rw [h]
  unfold f_X11_isOffer at h
  refine Ct.intro (own := RX11) (by decide) rfl (Nat.le_of_ble_eq_true rfl) ?_
  intro p e s m args below meth c H locs ls X Y hl
  have hx := X.1
  have hb := X.2.1
  have hl : lv_has ls 1 [(0, .int v0)] := hl
  refine lv_iload_n (pc := 0) hx hb dX11_isOffer_0 rfl (lv_at hl 0 rfl) ?_
  refine lv_bipush (pc := 1) (v := 10) hx hb dX11_isOffer_1 (by decide) ?_
  refine call_si (pc := 3) (rest := []) [.int v0, .int 10] X Y (c_X11_isWithin v0 10) sw_X11_145 rfl ⟨rfl, rfl, Nat.le_of_ble_eq_true rfl, Nat.le_of_ble_eq_true rfl⟩ hl rfl (Nat.le_of_ble_eq_true rfl) dX11_isOffer_3 (fun H locs Y => ?_)
  have hr9 := h
  exact fin_z (b := (f_X11_isWithin v0 10)) (pc := 6) X rfl Y rfl hr9 rfl rfl dX11_isOffer_6
abbrev rm_X11_isAnswer : Room := { frames := 1, cells := 0, slots := 0, locals := 21 }
set_option maxHeartbeats 4000000 in
set_option maxRecDepth 100000 in
theorem c_X11_isAnswer (v0 : Int32) : Ct l dC dI ad bd cI cZ yX11_isAnswer cX11_isAnswer 1 (some .boolean) rm_X11_isAnswer [.int v0] C D (some (.int (b2i (f_X11_isAnswer v0)))) C D := by
  obtain ⟨r9, h⟩ : ∃ r9, f_X11_isAnswer v0 = r9 := ⟨_, rfl⟩
  rw [h]
  unfold f_X11_isAnswer at h
  refine Ct.intro (own := RX11) (by decide) rfl (Nat.le_of_ble_eq_true rfl) ?_
  intro p e s m args below meth c H locs ls X Y hl
  have hx := X.1
  have hb := X.2.1
  have hl : lv_has ls 1 [(0, .int v0)] := hl
  refine lv_iload_n (pc := 0) hx hb dX11_isAnswer_0 rfl (lv_at hl 0 rfl) ?_
  refine lv_iconst (pc := 1) (v := 1) hx hb dX11_isAnswer_1 (by decide) ?_
  refine call_si (pc := 2) (rest := []) [.int v0, .int 1] X Y (c_X11_isWithin v0 1) sw_X11_145 rfl ⟨rfl, rfl, Nat.le_of_ble_eq_true rfl, Nat.le_of_ble_eq_true rfl⟩ hl rfl (Nat.le_of_ble_eq_true rfl) dX11_isAnswer_2 (fun H locs Y => ?_)
  have hr9 := h
  exact fin_z (b := (f_X11_isWithin v0 1)) (pc := 5) X rfl Y rfl hr9 rfl rfl dX11_isAnswer_5
abbrev rm_X11_isSheet : Room := { frames := 1, cells := 0, slots := 0, locals := 21 }
set_option maxHeartbeats 4000000 in
set_option maxRecDepth 100000 in
theorem c_X11_isSheet (v0 : Int32) : Ct l dC dI ad bd cI cZ yX11_isSheet cX11_isSheet 1 (some .boolean) rm_X11_isSheet [.int v0] C D (some (.int (b2i (f_X11_isSheet v0)))) C D := by
  obtain ⟨r9, h⟩ : ∃ r9, f_X11_isSheet v0 = r9 := ⟨_, rfl⟩
  rw [h]
  unfold f_X11_isSheet at h
  refine Ct.intro (own := RX11) (by decide) rfl (Nat.le_of_ble_eq_true rfl) ?_
  intro p e s m args below meth c H locs ls X Y hl
  have hx := X.1
  have hb := X.2.1
  have hl : lv_has ls 1 [(0, .int v0)] := hl
  refine lv_iload_n (pc := 0) hx hb dX11_isSheet_0 rfl (lv_at hl 0 rfl) ?_
  refine lv_iconst (pc := 1) (v := 3) hx hb dX11_isSheet_1 (by decide) ?_
  refine call_si (pc := 2) (rest := []) [.int v0, .int 3] X Y (c_X11_isWithin v0 3) sw_X11_145 rfl ⟨rfl, rfl, Nat.le_of_ble_eq_true rfl, Nat.le_of_ble_eq_true rfl⟩ hl rfl (Nat.le_of_ble_eq_true rfl) dX11_isSheet_2 (fun H locs Y => ?_)
  have hr9 := h
  exact fin_z (b := (f_X11_isWithin v0 3)) (pc := 5) X rfl Y rfl hr9 rfl rfl dX11_isSheet_5
abbrev rm_X11_isPeopleOrAll : Room := { frames := 2, cells := 0, slots := 0, locals := 41 }
set_option maxHeartbeats 4000000 in
set_option maxRecDepth 100000 in
theorem WB_X11_isPeopleOrAll_12 {r9 : Bool} (X : Cx p s m args meth c cX11_isPeopleOrAll RX11 1 (some .boolean) dC dI ad bd cI cZ) {H : Heap} {locs : List Loc} {ls : Array Slot} (Y : Ys s dC dI ad bd cI cZ C D H locs) (hl : lv_has ls 1 []) (h : B_X11_isPeopleOrAll_12 = r9) : W p l e rm_X11_isPeopleOrAll s m args below meth c H locs 0 0 (MQ below (QC (some (.int (b2i r9))) dC dI ad bd cI cZ C D) args s 0 0 (AD ad bd)) (F0 m 12 ls []) := by
  have hx := X.1
  have hb := X.2.1
  unfold B_X11_isPeopleOrAll_12 at h
  refine lv_iconst (pc := 12) (v := 1) hx hb dX11_isPeopleOrAll_12 (by decide) ?_
  refine lv_goto (pc := 13) (tgt := 17) hx hb dX11_isPeopleOrAll_13 (by decide) ?_
  have hr9 := h
  exact fin_z (b := true) (pc := 17) X rfl Y rfl hr9 rfl rfl dX11_isPeopleOrAll_17
set_option maxHeartbeats 4000000 in
set_option maxRecDepth 100000 in
theorem c_X11_isPeopleOrAll (v0 : Int32) : Ct l dC dI ad bd cI cZ yX11_isPeopleOrAll cX11_isPeopleOrAll 1 (some .boolean) rm_X11_isPeopleOrAll [.int v0] C D (some (.int (b2i (f_X11_isPeopleOrAll v0)))) C D := by
  obtain ⟨r9, h⟩ : ∃ r9, f_X11_isPeopleOrAll v0 = r9 := ⟨_, rfl⟩
  rw [h]
  unfold f_X11_isPeopleOrAll at h
  refine Ct.intro (own := RX11) (by decide) rfl (Nat.le_of_ble_eq_true rfl) ?_
  intro p e s m args below meth c H locs ls X Y hl
  have hx := X.1
  have hb := X.2.1
  have hl : lv_has ls 1 [(0, .int v0)] := hl
  refine lv_iload_n (pc := 0) hx hb dX11_isPeopleOrAll_0 rfl (lv_at hl 0 rfl) ?_
  refine lv_iconst (pc := 1) (v := (-1)) hx hb dX11_isPeopleOrAll_1 (by decide) ?_
  refine lv_icmp_eq (pc := 2) (tgt := 12) hx hb dX11_isPeopleOrAll_2 (by decide) (fun c_2 => ?_) (fun c_2 => ?_)
  · have h := itp c_2 h
    exact WB_X11_isPeopleOrAll_12  X Y (lv_sub hl [] rfl) h
  · have h := itn c_2 h
    refine lv_iload_n (pc := 5) hx hb dX11_isPeopleOrAll_5 rfl (lv_at hl 0 rfl) ?_
    refine call_si (pc := 6) (rest := []) [.int v0] X Y (c_X11_isPeople v0) sw_X11_89 rfl ⟨rfl, rfl, Nat.le_of_ble_eq_true rfl, Nat.le_of_ble_eq_true rfl⟩ hl rfl (Nat.le_of_ble_eq_true rfl) dX11_isPeopleOrAll_6 (fun H locs Y => ?_)
    refine lv_if_eq (pc := 9) (tgt := 16) hx hb dX11_isPeopleOrAll_9 (by decide) (fun c_9 => ?_) (fun c_9 => ?_)
    · have h := itn (b2i_f c_9) h
      refine lv_iconst (pc := 16) (v := 0) hx hb dX11_isPeopleOrAll_16 (by decide) ?_
      have hr9 := h
      exact fin_z (b := false) (pc := 17) X rfl Y rfl hr9 rfl rfl dX11_isPeopleOrAll_17
    · have h := itp (b2i_t c_9) h
      exact WB_X11_isPeopleOrAll_12  X Y (lv_sub hl [] rfl) h
abbrev rm_X11_isPart : Room := { frames := 1, cells := 0, slots := 0, locals := 21 }
set_option maxHeartbeats 4000000 in
set_option maxRecDepth 100000 in
theorem c_X11_isPart (v0 : Int32) : Ct l dC dI ad bd cI cZ yX11_isPart cX11_isPart 1 (some .boolean) rm_X11_isPart [.int v0] C D (some (.int (b2i (f_X11_isPart v0)))) C D := by
  obtain ⟨r9, h⟩ : ∃ r9, f_X11_isPart v0 = r9 := ⟨_, rfl⟩
  rw [h]
  unfold f_X11_isPart at h
  refine Ct.intro (own := RX11) (by decide) rfl (Nat.le_of_ble_eq_true rfl) ?_
  intro p e s m args below meth c H locs ls X Y hl
  have hx := X.1
  have hb := X.2.1
  have hl : lv_has ls 1 [(0, .int v0)] := hl
  refine lv_iload_n (pc := 0) hx hb dX11_isPart_0 rfl (lv_at hl 0 rfl) ?_
  refine lv_iconst (pc := 1) (v := 1) hx hb dX11_isPart_1 (by decide) ?_
  refine call_si (pc := 2) (rest := []) [.int v0, .int 1] X Y (c_X11_isWithin v0 1) sw_X11_145 rfl ⟨rfl, rfl, Nat.le_of_ble_eq_true rfl, Nat.le_of_ble_eq_true rfl⟩ hl rfl (Nat.le_of_ble_eq_true rfl) dX11_isPart_2 (fun H locs Y => ?_)
  have hr9 := h
  exact fin_z (b := (f_X11_isWithin v0 1)) (pc := 5) X rfl Y rfl hr9 rfl rfl dX11_isPart_5
abbrev rm_X11_asLong : Room := { frames := 0, cells := 0, slots := 0, locals := 0 }
set_option maxHeartbeats 4000000 in
set_option maxRecDepth 100000 in
theorem c_X11_asLong (v0 : Int32) : Ct l dC dI ad bd cI cZ yX11_asLong cX11_asLong 1 (some .long) rm_X11_asLong [.int v0] C D (some (.long (f_X11_asLong v0))) C D := by
  obtain ⟨r9, h⟩ : ∃ r9, f_X11_asLong v0 = r9 := ⟨_, rfl⟩
  rw [h]
  unfold f_X11_asLong at h
  refine Ct.intro (own := RX11) (by decide) rfl (Nat.le_of_ble_eq_true rfl) ?_
  intro p e s m args below meth c H locs ls X Y hl
  have hx := X.1
  have hb := X.2.1
  have hl : lv_has ls 1 [(0, .int v0)] := hl
  refine lv_ldc2 (pc := 0) (v := (-9223372036854775808)) hx hb X.2.2.2.1 (X.2.2.2.2.1 _ w_5b163727ef) dX11_asLong_0 ?_
  refine lv_iload_n (pc := 3) hx hb dX11_asLong_3 rfl (lv_at hl 0 rfl) ?_
  refine lv_i2l (pc := 4) hx hb dX11_asLong_4 rfl ?_
  refine lv_lsub (pc := 5) hx hb dX11_asLong_5 ?_
  have hr9 := h
  exact fin_l (pc := 6) X rfl Y hr9 rfl rfl dX11_asLong_6
abbrev rm_X11_greatestDivisor : Room := { frames := 0, cells := 0, slots := 0, locals := 0 }
set_option maxHeartbeats 4000000 in
set_option maxRecDepth 100000 in
theorem WL_X11_greatestDivisor_9 {r9 : Int64} (X : Cx p s m args meth c cX11_greatestDivisor RX11 11 (some .long) dC dI ad bd cI cZ) {kx : Int64 → Option Int64} (hkx : ∀ (v4' : Int64) (H : Heap) (locs : List Loc) (ls : Array Slot), Ys s dC dI ad bd cI cZ C D H locs → lv_has ls 11 [(4, .long v4')] → kx v4' = some r9 → W p l e rm_X11_greatestDivisor s m args below meth c H locs 0 0 (MQ below (QC (some (.long r9)) dC dI ad bd cI cZ C D) args s 0 0 (AD ad bd)) (F0 m 45 ls [])) : ∀ (n_ : Nat) (v4 : Int64) (v6 : Int64) (v8 : Int32) (H : Heap) (locs : List Loc) (ls : Array Slot), Ys s dC dI ad bd cI cZ C D H locs → lv_has ls 11 [(4, .long v4), (6, .long v6), (8, .int v8)] → L_X11_greatestDivisor_9 kx n_ v4 v6 v8 = some r9 → W p l e rm_X11_greatestDivisor s m args below meth c H locs 0 0 (MQ below (QC (some (.long r9)) dC dI ad bd cI cZ C D) args s 0 0 (AD ad bd)) (F0 m 9 ls []) := by
  have hx := X.1
  have hb := X.2.1
  intro n_
  induction n_ with
  | zero =>
    intro v4 v6 v8 H locs ls Y hl h
    cases h
  | succ n_ ih =>
    intro v4 v6 v8 H locs ls Y hl h
    unfold L_X11_greatestDivisor_9 at h
    refine lv_iload (pc := 9) hx hb dX11_greatestDivisor_9 (lv_at hl 2 rfl) ?_
    refine lv_sipush (pc := 11) (v := 200) hx hb dX11_greatestDivisor_11 (by decide) ?_
    refine lv_icmp_ge (pc := 14) (tgt := 45) hx hb dX11_greatestDivisor_14 (by decide) (fun c_14 => ?_) (fun c_14 => ?_)
    · have h := itp c_14 h
      exact hkx v4 H locs ls Y (lv_sub hl [0] rfl) h
    · have h := itn c_14 h
      refine lv_lload (pc := 17) hx hb dX11_greatestDivisor_17 (lv_at hl 1 rfl) ?_
      refine lv_lconst (pc := 19) (v := 0) hx hb dX11_greatestDivisor_19 (by decide) ?_
      refine W.lcmp (pc := 20) hx hb dX11_greatestDivisor_20 ?_
      refine lv_if_eq (pc := 21) (tgt := 45) hx hb dX11_greatestDivisor_21 (by decide) (fun c_21 => ?_) (fun c_21 => ?_)
      · have h := itp c_21 h
        exact hkx v4 H locs ls Y (lv_sub hl [0] rfl) h
      · have h := itn c_21 h
        refine lv_lload (pc := 24) hx hb dX11_greatestDivisor_24 (lv_at hl 0 rfl) ?_
        refine lv_lload (pc := 26) hx hb dX11_greatestDivisor_26 (lv_at hl 1 rfl) ?_
        obtain ⟨g_28, h⟩ := gd_s h
        refine lv_lrem (pc := 28) hx hb dX11_greatestDivisor_28 (of_decide_eq_true g_28) ?_
        obtain ⟨v9_29, ev9_29, h⟩ := lt_s_ h
        refine top_l ev9_29 ?_
        refine lv_lstore (pc := 29) (lv' := [(9, .long v9_29), (4, .long v4), (6, .long v6), (8, .int v8)]) hx hb dX11_greatestDivisor_29 hl (by decide) rfl (fun ls hl => ?_)
        refine lv_lload (pc := 31) hx hb dX11_greatestDivisor_31 (lv_at hl 2 rfl) ?_
        refine lv_lstore (pc := 33) (lv' := [(4, .long v6), (9, .long v9_29), (6, .long v6), (8, .int v8)]) hx hb dX11_greatestDivisor_33 hl (by decide) rfl (fun ls hl => ?_)
        refine lv_lload (pc := 35) hx hb dX11_greatestDivisor_35 (lv_at hl 1 rfl) ?_
        refine lv_lstore (pc := 37) (lv' := [(6, .long v9_29), (4, .long v6), (9, .long v9_29), (8, .int v8)]) hx hb dX11_greatestDivisor_37 hl (by decide) rfl (fun ls hl => ?_)
        obtain ⟨v8_39, ev8_39, h⟩ := lt_s_ h
        refine lv_iinc (pc := 39) (v := v8_39) (lv' := [(8, .int v8_39), (6, .long v9_29), (4, .long v6), (9, .long v9_29)]) hx hb dX11_greatestDivisor_39 hl (k := 3) rfl (by rw [ev8_39]; rfl) (by decide) rfl (fun ls hl => ?_)
        refine lv_goto (pc := 42) (tgt := 9) hx hb dX11_greatestDivisor_42 (by decide) ?_
        exact ih v6 v9_29 v8_39 H locs ls Y (lv_sub hl [2, 1, 0] rfl) h
set_option maxHeartbeats 4000000 in
set_option maxRecDepth 100000 in
theorem c_X11_greatestDivisor {r9 : Int64} (v0 : Int64) (v2 : Int64) (h : f_X11_greatestDivisor v0 v2 = some r9) : Ct l dC dI ad bd cI cZ yX11_greatestDivisor cX11_greatestDivisor 11 (some .long) rm_X11_greatestDivisor [.long v0, .long v2] C D (some (.long r9)) C D := by
  unfold f_X11_greatestDivisor at h
  refine Ct.intro (own := RX11) (by decide) rfl (Nat.le_of_ble_eq_true rfl) ?_
  intro p e s m args below meth c H locs ls X Y hl
  have hx := X.1
  have hb := X.2.1
  have hl : lv_has ls 11 [(0, .long v0), (2, .long v2)] := hl
  refine lv_lload_n (pc := 0) hx hb dX11_greatestDivisor_0 rfl (lv_at hl 0 rfl) ?_
  refine lv_lstore (pc := 1) (lv' := [(4, .long v0), (0, .long v0), (2, .long v2)]) hx hb dX11_greatestDivisor_1 hl (by decide) rfl (fun ls hl => ?_)
  refine lv_lload_n (pc := 3) hx hb dX11_greatestDivisor_3 rfl (lv_at hl 2 rfl) ?_
  refine lv_lstore (pc := 4) (lv' := [(6, .long v2), (4, .long v0), (0, .long v0), (2, .long v2)]) hx hb dX11_greatestDivisor_4 hl (by decide) rfl (fun ls hl => ?_)
  refine lv_iconst (pc := 6) (v := 0) hx hb dX11_greatestDivisor_6 (by decide) ?_
  refine lv_istore (pc := 7) (lv' := [(8, .int 0), (6, .long v2), (4, .long v0), (0, .long v0), (2, .long v2)]) hx hb dX11_greatestDivisor_7 hl (by decide) rfl (fun ls hl => ?_)
  refine WL_X11_greatestDivisor_9 X (fun v4_45 H locs ls Y hl h => ?_) FU v0 v2 0 H locs ls Y (lv_sub hl [2, 1, 0] rfl) h
  refine lv_lload (pc := 45) hx hb dX11_greatestDivisor_45 (lv_at hl 0 rfl) ?_
  have hr9 := ret_p h
  exact fin_l (pc := 47) X rfl Y hr9 rfl rfl dX11_greatestDivisor_47
abbrev rm_X11_fraction : Room := { frames := 1, cells := 0, slots := 0, locals := 30 }
set_option maxHeartbeats 4000000 in
set_option maxRecDepth 100000 in
theorem c_X11_fraction {r9 : Int64} (v0 : Int64) (v2 : Int64) (v4 : Int32) (h : f_X11_fraction v0 v2 v4 = some r9) : Ct l dC dI ad bd cI cZ yX11_fraction cX11_fraction 7 (some .long) rm_X11_fraction [.long v0, .long v2, .int v4] C D (some (.long r9)) C D := by
  unfold f_X11_fraction at h
  refine Ct.intro (own := RX11) (by decide) rfl (Nat.le_of_ble_eq_true rfl) ?_
  intro p e s m args below meth c H locs ls X Y hl
  have hx := X.1
  have hb := X.2.1
  have hl : lv_has ls 7 [(0, .long v0), (2, .long v2), (4, .int v4)] := hl
  refine lv_lload_n (pc := 0) hx hb dX11_fraction_0 rfl (lv_at hl 0 rfl) ?_
  refine r_mabsl (pc := 1) X w_X11_438 hl (Nat.le_of_ble_eq_true rfl) (Nat.le_of_ble_eq_true rfl) dX11_fraction_1 ?_
  refine lv_lload_n (pc := 4) hx hb dX11_fraction_4 rfl (lv_at hl 1 rfl) ?_
  obtain ⟨r_5, e_5, h⟩ := bnd_s h
  refine call_sl (pc := 5) (rest := []) [.long (jabsl v0), .long v2] X Y (c_X11_greatestDivisor (jabsl v0) v2 e_5) sw_X11_440 rfl ⟨rfl, rfl, Nat.le_of_ble_eq_true rfl, Nat.le_of_ble_eq_true rfl⟩ hl rfl (Nat.le_of_ble_eq_true rfl) dX11_fraction_5 (fun H locs Y => ?_)
  refine lv_lstore (pc := 8) (lv' := [(5, .long r_5), (0, .long v0), (2, .long v2), (4, .int v4)]) hx hb dX11_fraction_8 hl (by decide) rfl (fun ls hl => ?_)
  refine lv_lload (pc := 10) hx hb dX11_fraction_10 (lv_at hl 0 rfl) ?_
  refine lv_lconst (pc := 12) (v := 0) hx hb dX11_fraction_12 (by decide) ?_
  refine W.lcmp (pc := 13) hx hb dX11_fraction_13 ?_
  refine lv_if_ne (pc := 14) (tgt := 19) hx hb dX11_fraction_14 (by decide) (fun c_14 => ?_) (fun c_14 => ?_)
  · have h := itn c_14 h
    refine lv_iload (pc := 19) hx hb dX11_fraction_19 (lv_at hl 3 rfl) ?_
    refine lv_if_ne (pc := 21) (tgt := 28) hx hb dX11_fraction_21 (by decide) (fun c_21 => ?_) (fun c_21 => ?_)
    · have h := itn c_21 h
      refine lv_lload_n (pc := 28) hx hb dX11_fraction_28 rfl (lv_at hl 2 rfl) ?_
      refine lv_lload (pc := 29) hx hb dX11_fraction_29 (lv_at hl 0 rfl) ?_
      obtain ⟨g_31, h⟩ := gd_s h
      refine lv_ldiv (pc := 31) hx hb dX11_fraction_31 (of_decide_eq_true g_31) ?_
      have hr9 := ret_p h
      exact fin_l (pc := 32) X rfl Y hr9 rfl rfl dX11_fraction_32
    · have h := itp c_21 h
      refine lv_lload_n (pc := 24) hx hb dX11_fraction_24 rfl (lv_at hl 1 rfl) ?_
      refine lv_goto (pc := 25) (tgt := 29) hx hb dX11_fraction_25 (by decide) ?_
      refine lv_lload (pc := 29) hx hb dX11_fraction_29 (lv_at hl 0 rfl) ?_
      obtain ⟨g_31, h⟩ := gd_s h
      refine lv_ldiv (pc := 31) hx hb dX11_fraction_31 (of_decide_eq_true g_31) ?_
      have hr9 := ret_p h
      exact fin_l (pc := 32) X rfl Y hr9 rfl rfl dX11_fraction_32
  · have h := itp c_14 h
    refine lv_lconst (pc := 17) (v := 0) hx hb dX11_fraction_17 (by decide) ?_
    have hr9 := ret_p h
    exact fin_l (pc := 18) X rfl Y hr9 rfl rfl dX11_fraction_18
abbrev rm_X11_lessKind : Room := { frames := 0, cells := 0, slots := 0, locals := 0 }
set_option maxHeartbeats 4000000 in
set_option maxRecDepth 100000 in
theorem c_X11_lessKind (v0 : Int32) : Ct l dC dI ad bd cI cZ yX11_lessKind cX11_lessKind 1 (some .int) rm_X11_lessKind [.int v0] C D (some (.int (f_X11_lessKind v0))) C D := by
  obtain ⟨r9, h⟩ : ∃ r9, f_X11_lessKind v0 = r9 := ⟨_, rfl⟩
  rw [h]
  unfold f_X11_lessKind at h
  refine Ct.intro (own := RX11) (by decide) rfl (Nat.le_of_ble_eq_true rfl) ?_
  intro p e s m args below meth c H locs ls X Y hl
  have hx := X.1
  have hb := X.2.1
  have hl : lv_has ls 1 [(0, .int v0)] := hl
  refine lv_iload_n (pc := 0) hx hb dX11_lessKind_0 rfl (lv_at hl 0 rfl) ?_
  refine lv_if_ne (pc := 1) (tgt := 6) hx hb dX11_lessKind_1 (by decide) (fun c_1 => ?_) (fun c_1 => ?_)
  · have h := itn c_1 h
    refine lv_iload_n (pc := 6) hx hb dX11_lessKind_6 rfl (lv_at hl 0 rfl) ?_
    refine lv_iconst (pc := 7) (v := 1) hx hb dX11_lessKind_7 (by decide) ?_
    refine lv_icmp_ne (pc := 8) (tgt := 15) hx hb dX11_lessKind_8 (by decide) (fun c_8 => ?_) (fun c_8 => ?_)
    · have h := itn c_8 h
      refine lv_iconst (pc := 15) (v := 2) hx hb dX11_lessKind_15 (by decide) ?_
      have hr9 := h
      exact fin_i (pc := 16) X rfl Y hr9 rfl rfl dX11_lessKind_16
    · have h := itp c_8 h
      refine lv_iconst (pc := 11) (v := 0) hx hb dX11_lessKind_11 (by decide) ?_
      refine lv_goto (pc := 12) (tgt := 16) hx hb dX11_lessKind_12 (by decide) ?_
      have hr9 := h
      exact fin_i (pc := 16) X rfl Y hr9 rfl rfl dX11_lessKind_16
  · have h := itp c_1 h
    refine lv_iconst (pc := 4) (v := 1) hx hb dX11_lessKind_4 (by decide) ?_
    have hr9 := h
    exact fin_i (pc := 5) X rfl Y hr9 rfl rfl dX11_lessKind_5
abbrev rm_X11_isForm : Room := { frames := 1, cells := 0, slots := 0, locals := 21 }
set_option maxHeartbeats 4000000 in
set_option maxRecDepth 100000 in
theorem c_X11_isForm (v0 : Int32) : Ct l dC dI ad bd cI cZ yX11_isForm cX11_isForm 1 (some .boolean) rm_X11_isForm [.int v0] C D (some (.int (b2i (f_X11_isForm v0)))) C D := by
  obtain ⟨r9, h⟩ : ∃ r9, f_X11_isForm v0 = r9 := ⟨_, rfl⟩
  rw [h]
  unfold f_X11_isForm at h
  refine Ct.intro (own := RX11) (by decide) rfl (Nat.le_of_ble_eq_true rfl) ?_
  intro p e s m args below meth c H locs ls X Y hl
  have hx := X.1
  have hb := X.2.1
  have hl : lv_has ls 1 [(0, .int v0)] := hl
  refine lv_iload_n (pc := 0) hx hb dX11_isForm_0 rfl (lv_at hl 0 rfl) ?_
  refine lv_iconst (pc := 1) (v := 2) hx hb dX11_isForm_1 (by decide) ?_
  refine call_si (pc := 2) (rest := []) [.int v0, .int 2] X Y (c_X11_isWithin v0 2) sw_X11_145 rfl ⟨rfl, rfl, Nat.le_of_ble_eq_true rfl, Nat.le_of_ble_eq_true rfl⟩ hl rfl (Nat.le_of_ble_eq_true rfl) dX11_isForm_2 (fun H locs Y => ?_)
  have hr9 := h
  exact fin_z (b := (f_X11_isWithin v0 2)) (pc := 5) X rfl Y rfl hr9 rfl rfl dX11_isForm_5
abbrev rm_X11_mix : Room := { frames := 0, cells := 0, slots := 0, locals := 0 }
set_option maxHeartbeats 4000000 in
set_option maxRecDepth 100000 in
theorem c_X11_mix (v0 : Int64) (v2 : Int64) : Ct l dC dI ad bd cI cZ yX11_mix cX11_mix 4 (some .long) rm_X11_mix [.long v0, .long v2] C D (some (.long (f_X11_mix v0 v2))) C D := by
  obtain ⟨r9, h⟩ : ∃ r9, f_X11_mix v0 v2 = r9 := ⟨_, rfl⟩
  rw [h]
  unfold f_X11_mix at h
  refine Ct.intro (own := RX11) (by decide) rfl (Nat.le_of_ble_eq_true rfl) ?_
  intro p e s m args below meth c H locs ls X Y hl
  have hx := X.1
  have hb := X.2.1
  have hl : lv_has ls 4 [(0, .long v0), (2, .long v2)] := hl
  refine lv_ldc2 (pc := 0) (v := 31) hx hb X.2.2.2.1 (X.2.2.2.2.1 _ w_07dce71199) dX11_mix_0 ?_
  refine lv_lload_n (pc := 3) hx hb dX11_mix_3 rfl (lv_at hl 0 rfl) ?_
  refine lv_lmul (pc := 4) hx hb dX11_mix_4 ?_
  refine lv_lload_n (pc := 5) hx hb dX11_mix_5 rfl (lv_at hl 1 rfl) ?_
  refine lv_ladd (pc := 6) hx hb dX11_mix_6 ?_
  have hr9 := h
  exact fin_l (pc := 7) X rfl Y hr9 rfl rfl dX11_mix_7
end walk
