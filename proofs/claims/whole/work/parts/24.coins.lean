section walk
variable {p : Program} {l : Launch} {e : Env} {R : Room} {s : State} {m : MethodId} {args : Array Value} {below : List Frame} {meth : Method} {c : Code} {H : Heap} {locs : List Loc} {Q : State → Prop} {cc : ByteArray} {own : String} {nL : Nat} {ret : Option FieldType} {dC : Nat → ClassId} {dI : Nat → Nat → Nat} {ad bd : Nat → Nat} {cI cZ : ClassId} {C D C' D' : Mem} {pc : Nat} {ls : Array Slot} {rest : List Value}
abbrev rm_X11_pair : Room := { frames := 3, cells := 0, slots := 0, locals := 62 }
set_option maxHeartbeats 4000000 in
set_option maxRecDepth 100000 in
theorem WB_X11_pair_42 {r9 : Int32} {C9 : Mem} (v1 : Int32) (v2 : Int32) (v3 : Int32) (v4 : Int32) (v5 : Int32) (C : Mem) (X : Cx p s m args meth c cX11_pair RX11 6 (some .int) dC dI ad bd cI cZ) {H : Heap} {locs : List Loc} {ls : Array Slot} (Y : Ys s dC dI ad bd cI cZ C D H locs) (hl : lv_has ls 6 [(0, .ref (ad 0)), (1, .int v1), (2, .int v2), (3, .int v3), (4, .int v4), (5, .int v5)]) (h : B_X11_pair_42 v1 v2 v3 v4 v5 C = some (r9, C9)) : W p l e rm_X11_pair s m args below meth c H locs 0 0 (MQ below (QC (some (.int r9)) dC dI ad bd cI cZ C9 D) args s 0 0 (AD ad bd)) (F0 m 42 ls []) := by
  have hx := X.1
  have hb := X.2.1
  unfold B_X11_pair_42 at h
  refine lv_aload_n (pc := 42) hx hb dX11_pair_42 rfl (lv_at hl 0 rfl) ?_
  refine gf_X11_12 (pc := 43) X Y dX11_pair_43 ?_
  refine lv_iload (pc := 46) hx hb dX11_pair_46 (lv_at hl 5 rfl) ?_
  refine call_vNi (pc := 48) (rest := []) [.int v5] X Y (c_X4_mayBeTold v5) sw_X11_102 (rv_X4 X Y) rfl ⟨rfl, rfl, Nat.le_of_ble_eq_true rfl, Nat.le_of_ble_eq_true rfl⟩ hl rfl (Nat.le_of_ble_eq_true rfl) dX11_pair_48 (fun H locs Y => ?_)
  refine lv_if_ne (pc := 51) (tgt := 57) hx hb dX11_pair_51 (by decide) (fun c_51 => ?_) (fun c_51 => ?_)
  · have h := itp (b2i_t c_51) h
    refine lv_aload_n (pc := 57) hx hb dX11_pair_57 rfl (lv_at hl 0 rfl) ?_
    refine gf_X11_12 (pc := 58) X Y dX11_pair_58 ?_
    refine lv_iload_n (pc := 61) hx hb dX11_pair_61 rfl (lv_at hl 1 rfl) ?_
    refine lv_iload_n (pc := 62) hx hb dX11_pair_62 rfl (lv_at hl 2 rfl) ?_
    refine lv_iload_n (pc := 63) hx hb dX11_pair_63 rfl (lv_at hl 3 rfl) ?_
    refine lv_iload (pc := 64) hx hb dX11_pair_64 (lv_at hl 4 rfl) ?_
    refine lv_iload (pc := 66) hx hb dX11_pair_66 (lv_at hl 5 rfl) ?_
    obtain ⟨r_68, C_68, e_68, h⟩ := bnd2_s h
    refine call_vNi (pc := 68) (rest := []) [.int v1, .int v2, .int v3, .int v4, .int v5] X Y (c_X4_add v1 v2 v3 v4 v5 e_68) sw_X11_105 (rv_X4 X Y) rfl ⟨rfl, rfl, Nat.le_of_ble_eq_true rfl, Nat.le_of_ble_eq_true rfl⟩ hl rfl (Nat.le_of_ble_eq_true rfl) dX11_pair_68 (fun H locs Y => ?_)
    obtain ⟨hr9, hm9⟩ := ret_e h
    exact fin_i (pc := 71) X rfl Y hr9 hm9 rfl dX11_pair_71
  · have h := itn (b2i_f c_51) h
    refine lv_bipush (pc := 54) (v := (-2)) hx hb dX11_pair_54 (by decide) ?_
    obtain ⟨hr9, hm9⟩ := ret_e h
    exact fin_i (pc := 56) X rfl Y hr9 hm9 rfl dX11_pair_56
set_option maxHeartbeats 4000000 in
set_option maxRecDepth 100000 in
theorem c_X11_pair {r9 : Int32} {C9 : Mem} (v1 : Int32) (v2 : Int32) (v3 : Int32) (v4 : Int32) (v5 : Int32) (h : f_X11_pair v1 v2 v3 v4 v5 C = some (r9, C9)) : Ct l dC dI ad bd cI cZ yX11_pair cX11_pair 6 (some .int) rm_X11_pair [.ref (ad 0), .int v1, .int v2, .int v3, .int v4, .int v5] C D (some (.int r9)) C9 D := by
  unfold f_X11_pair at h
  refine Ct.intro (own := RX11) (by decide) rfl (Nat.le_of_ble_eq_true rfl) ?_
  intro p e s m args below meth c H locs ls X Y hl
  have hx := X.1
  have hb := X.2.1
  have hl : lv_has ls 6 [(0, .ref (ad 0)), (1, .int v1), (2, .int v2), (3, .int v3), (4, .int v4), (5, .int v5)] := hl
  refine lv_iload_n (pc := 0) hx hb dX11_pair_0 rfl (lv_at hl 1 rfl) ?_
  refine call_si (pc := 1) (rest := []) [.int v1] X Y (c_X11_isPeople v1) sw_X11_89 rfl ⟨rfl, rfl, Nat.le_of_ble_eq_true rfl, Nat.le_of_ble_eq_true rfl⟩ hl rfl (Nat.le_of_ble_eq_true rfl) dX11_pair_1 (fun H locs Y => ?_)
  refine lv_if_eq (pc := 4) (tgt := 29) hx hb dX11_pair_4 (by decide) (fun c_4 => ?_) (fun c_4 => ?_)
  · have h := itn (b2i_f c_4) h
    refine lv_bipush (pc := 29) (v := (-2)) hx hb dX11_pair_29 (by decide) ?_
    obtain ⟨hr9, hm9⟩ := ret_e h
    exact fin_i (pc := 31) X rfl Y hr9 hm9 rfl dX11_pair_31
  · have h := itp (b2i_t c_4) h
    refine lv_iload_n (pc := 7) hx hb dX11_pair_7 rfl (lv_at hl 2 rfl) ?_
    refine call_si (pc := 8) (rest := []) [.int v2] X Y (c_X11_isKind v2) sw_X11_93 rfl ⟨rfl, rfl, Nat.le_of_ble_eq_true rfl, Nat.le_of_ble_eq_true rfl⟩ hl rfl (Nat.le_of_ble_eq_true rfl) dX11_pair_8 (fun H locs Y => ?_)
    refine lv_if_eq (pc := 11) (tgt := 29) hx hb dX11_pair_11 (by decide) (fun c_11 => ?_) (fun c_11 => ?_)
    · have h := itn (b2i_f c_11) h
      refine lv_bipush (pc := 29) (v := (-2)) hx hb dX11_pair_29 (by decide) ?_
      obtain ⟨hr9, hm9⟩ := ret_e h
      exact fin_i (pc := 31) X rfl Y hr9 hm9 rfl dX11_pair_31
    · have h := itp (b2i_t c_11) h
      refine lv_iload_n (pc := 14) hx hb dX11_pair_14 rfl (lv_at hl 3 rfl) ?_
      refine call_si (pc := 15) (rest := []) [.int v3] X Y (c_X11_isOffer v3) sw_X11_96 rfl ⟨rfl, rfl, Nat.le_of_ble_eq_true rfl, Nat.le_of_ble_eq_true rfl⟩ hl rfl (Nat.le_of_ble_eq_true rfl) dX11_pair_15 (fun H locs Y => ?_)
      refine lv_if_eq (pc := 18) (tgt := 29) hx hb dX11_pair_18 (by decide) (fun c_18 => ?_) (fun c_18 => ?_)
      · have h := itn (b2i_f c_18) h
        refine lv_bipush (pc := 29) (v := (-2)) hx hb dX11_pair_29 (by decide) ?_
        obtain ⟨hr9, hm9⟩ := ret_e h
        exact fin_i (pc := 31) X rfl Y hr9 hm9 rfl dX11_pair_31
      · have h := itp (b2i_t c_18) h
        refine lv_iload (pc := 21) hx hb dX11_pair_21 (lv_at hl 4 rfl) ?_
        refine call_si (pc := 23) (rest := []) [.int v4] X Y (c_X11_isAnswer v4) sw_X11_99 rfl ⟨rfl, rfl, Nat.le_of_ble_eq_true rfl, Nat.le_of_ble_eq_true rfl⟩ hl rfl (Nat.le_of_ble_eq_true rfl) dX11_pair_23 (fun H locs Y => ?_)
        refine lv_if_ne (pc := 26) (tgt := 32) hx hb dX11_pair_26 (by decide) (fun c_26 => ?_) (fun c_26 => ?_)
        · have h := itp (b2i_t c_26) h
          refine lv_iload_n (pc := 32) hx hb dX11_pair_32 rfl (lv_at hl 2 rfl) ?_
          refine lv_iconst (pc := 33) (v := 1) hx hb dX11_pair_33 (by decide) ?_
          refine lv_icmp_ne (pc := 34) (tgt := 42) hx hb dX11_pair_34 (by decide) (fun c_34 => ?_) (fun c_34 => ?_)
          · have h := itn c_34 h
            exact WB_X11_pair_42 v1 v2 v3 v4 v5 C X Y (lv_sub hl [0, 1, 2, 3, 4, 5] rfl) h
          · have h := itp c_34 h
            refine lv_iload (pc := 37) hx hb dX11_pair_37 (lv_at hl 4 rfl) ?_
            refine lv_if_eq (pc := 39) (tgt := 54) hx hb dX11_pair_39 (by decide) (fun c_39 => ?_) (fun c_39 => ?_)
            · have h := itp c_39 h
              refine lv_bipush (pc := 54) (v := (-2)) hx hb dX11_pair_54 (by decide) ?_
              obtain ⟨hr9, hm9⟩ := ret_e h
              exact fin_i (pc := 56) X rfl Y hr9 hm9 rfl dX11_pair_56
            · have h := itn c_39 h
              exact WB_X11_pair_42 v1 v2 v3 v4 v5 C X Y (lv_sub hl [0, 1, 2, 3, 4, 5] rfl) h
        · have h := itn (b2i_f c_26) h
          refine lv_bipush (pc := 29) (v := (-2)) hx hb dX11_pair_29 (by decide) ?_
          obtain ⟨hr9, hm9⟩ := ret_e h
          exact fin_i (pc := 31) X rfl Y hr9 hm9 rfl dX11_pair_31
abbrev rm_X11_read : Room := { frames := 4, cells := 0, slots := 0, locals := 87 }
set_option maxHeartbeats 4000000 in
set_option maxRecDepth 100000 in
theorem WL_X11_read_71 {r9 : Int32} {C9 : Mem} (v1 : Int32) (v2 : Int32) (v3 : Int32) (v4 : Int32) (v5 : Int32) (X : Cx p s m args meth c cX11_read RX11 7 (some .int) dC dI ad bd cI cZ) {kx : Mem → Option (Int32 × Mem)} (hkx : ∀ (C' : Mem) (H : Heap) (locs : List Loc) (ls : Array Slot), Ys s dC dI ad bd cI cZ C' D H locs → lv_has ls 7 [(5, .int v5)] → kx C' = some (r9, C9) → W p l e rm_X11_read s m args below meth c H locs 0 0 (MQ below (QC (some (.int r9)) dC dI ad bd cI cZ C9 D) args s 0 0 (AD ad bd)) (F0 m 124 ls [])) : ∀ (n_ : Nat) (v6 : Int32) (C : Mem) (H : Heap) (locs : List Loc) (ls : Array Slot), Ys s dC dI ad bd cI cZ C D H locs → lv_has ls 7 [(0, .ref (ad 0)), (1, .int v1), (2, .int v2), (3, .int v3), (4, .int v4), (5, .int v5), (6, .int v6)] → L_X11_read_71 v1 v2 v3 v4 v5 kx n_ v6 C = some (r9, C9) → W p l e rm_X11_read s m args below meth c H locs 0 0 (MQ below (QC (some (.int r9)) dC dI ad bd cI cZ C9 D) args s 0 0 (AD ad bd)) (F0 m 71 ls []) := by
  have hx := X.1
  have hb := X.2.1
  intro n_
  induction n_ with
  | zero =>
    intro v6 C H locs ls Y hl h
    cases h
  | succ n_ ih =>
    intro v6 C H locs ls Y hl h
    unfold L_X11_read_71 at h
    refine lv_iload (pc := 71) hx hb dX11_read_71 (lv_at hl 6 rfl) ?_
    refine lv_iload (pc := 73) hx hb dX11_read_73 (lv_at hl 5 rfl) ?_
    refine lv_icmp_ge (pc := 75) (tgt := 124) hx hb dX11_read_75 (by decide) (fun c_75 => ?_) (fun c_75 => ?_)
    · have h := itp c_75 h
      exact hkx C H locs ls Y (lv_sub hl [5] rfl) h
    · have h := itn c_75 h
      refine lv_aload_n (pc := 78) hx hb dX11_read_78 rfl (lv_at hl 0 rfl) ?_
      refine lv_iload_n (pc := 79) hx hb dX11_read_79 rfl (lv_at hl 2 rfl) ?_
      refine lv_iload_n (pc := 80) hx hb dX11_read_80 rfl (lv_at hl 3 rfl) ?_
      refine lv_aload_n (pc := 81) hx hb dX11_read_81 rfl (lv_at hl 0 rfl) ?_
      refine gf_X11_85 (pc := 82) X Y dX11_read_82 ?_
      refine lv_iload_n (pc := 85) hx hb dX11_read_85 rfl (lv_at hl 1 rfl) ?_
      refine lv_iconst (pc := 86) (v := 2) hx hb dX11_read_86 (by decide) ?_
      refine lv_iload (pc := 87) hx hb dX11_read_87 (lv_at hl 6 rfl) ?_
      refine lv_imul (pc := 89) hx hb dX11_read_89 ?_
      obtain ⟨r_90, e_90, h⟩ := bnd_s h
      refine call_vNi (pc := 90) (rest := [.int v3, .int v2, .ref (ad 0)]) [.int v1, .int (2 * v6)] X Y (c_X7_item v1 (2 * v6) e_90) sw_X11_122 (rv_X7 X Y) rfl ⟨rfl, rfl, Nat.le_of_ble_eq_true rfl, Nat.le_of_ble_eq_true rfl⟩ hl rfl (Nat.le_of_ble_eq_true rfl) dX11_read_90 (fun H locs Y => ?_)
      refine lv_aload_n (pc := 93) hx hb dX11_read_93 rfl (lv_at hl 0 rfl) ?_
      refine gf_X11_85 (pc := 94) X Y dX11_read_94 ?_
      refine lv_iload_n (pc := 97) hx hb dX11_read_97 rfl (lv_at hl 1 rfl) ?_
      refine lv_iconst (pc := 98) (v := 2) hx hb dX11_read_98 (by decide) ?_
      refine lv_iload (pc := 99) hx hb dX11_read_99 (lv_at hl 6 rfl) ?_
      refine lv_imul (pc := 101) hx hb dX11_read_101 ?_
      refine lv_iconst (pc := 102) (v := 1) hx hb dX11_read_102 (by decide) ?_
      refine lv_iadd (pc := 103) hx hb dX11_read_103 ?_
      obtain ⟨r_104, e_104, h⟩ := bnd_s h
      refine call_vNi (pc := 104) (rest := [.int r_90, .int v3, .int v2, .ref (ad 0)]) [.int v1, .int ((2 * v6) + 1)] X Y (c_X7_item v1 ((2 * v6) + 1) e_104) sw_X11_122 (rv_X7 X Y) rfl ⟨rfl, rfl, Nat.le_of_ble_eq_true rfl, Nat.le_of_ble_eq_true rfl⟩ hl rfl (Nat.le_of_ble_eq_true rfl) dX11_read_104 (fun H locs Y => ?_)
      refine lv_iload (pc := 107) hx hb dX11_read_107 (lv_at hl 4 rfl) ?_
      obtain ⟨r_109, C_109, e_109, h⟩ := bnd2_s h
      refine call_vi (pc := 109) (rest := []) [.int v2, .int v3, .int r_90, .int r_104, .int v4] X Y (c_X11_pair v2 v3 r_90 r_104 v4 e_109) sw_X11_126 (rv_X11 X Y) rfl ⟨rfl, rfl, Nat.le_of_ble_eq_true rfl, Nat.le_of_ble_eq_true rfl⟩ hl rfl (Nat.le_of_ble_eq_true rfl) dX11_read_109 (fun H locs Y => ?_)
      refine lv_if_ge (pc := 112) (tgt := 118) hx hb dX11_read_112 (by decide) (fun c_112 => ?_) (fun c_112 => ?_)
      · have h := itp c_112 h
        obtain ⟨v6_118, ev6_118, h⟩ := lt_s_ h
        refine lv_iinc (pc := 118) (v := v6_118) (lv' := [(6, .int v6_118), (0, .ref (ad 0)), (1, .int v1), (2, .int v2), (3, .int v3), (4, .int v4), (5, .int v5)]) hx hb dX11_read_118 hl (k := 6) rfl (by rw [ev6_118]; rfl) (by decide) rfl (fun ls hl => ?_)
        refine lv_goto (pc := 121) (tgt := 71) hx hb dX11_read_121 (by decide) ?_
        exact ih v6_118 C_109 H locs ls Y (lv_sub hl [1, 2, 3, 4, 5, 6, 0] rfl) h
      · have h := itn c_112 h
        refine lv_iload (pc := 115) hx hb dX11_read_115 (lv_at hl 6 rfl) ?_
        obtain ⟨hr9, hm9⟩ := ret_e h
        exact fin_i (pc := 117) X rfl Y hr9 hm9 rfl dX11_read_117
set_option maxHeartbeats 4000000 in
set_option maxRecDepth 100000 in
theorem c_X11_read {r9 : Int32} {C9 : Mem} (v1 : Int32) (v2 : Int32) (v3 : Int32) (v4 : Int32) (h : f_X11_read v1 v2 v3 v4 C = some (r9, C9)) : Ct l dC dI ad bd cI cZ yX11_read cX11_read 7 (some .int) rm_X11_read [.ref (ad 0), .int v1, .int v2, .int v3, .int v4] C D (some (.int r9)) C9 D := by
  unfold f_X11_read at h
  refine Ct.intro (own := RX11) (by decide) rfl (Nat.le_of_ble_eq_true rfl) ?_
  intro p e s m args below meth c H locs ls X Y hl
  have hx := X.1
  have hb := X.2.1
  have hl : lv_has ls 7 [(0, .ref (ad 0)), (1, .int v1), (2, .int v2), (3, .int v3), (4, .int v4)] := hl
  refine lv_iload_n (pc := 0) hx hb dX11_read_0 rfl (lv_at hl 1 rfl) ?_
  refine call_si (pc := 1) (rest := []) [.int v1] X Y (c_X11_isSheet v1) sw_X11_109 rfl ⟨rfl, rfl, Nat.le_of_ble_eq_true rfl, Nat.le_of_ble_eq_true rfl⟩ hl rfl (Nat.le_of_ble_eq_true rfl) dX11_read_1 (fun H locs Y => ?_)
  refine lv_if_eq (pc := 4) (tgt := 33) hx hb dX11_read_4 (by decide) (fun c_4 => ?_) (fun c_4 => ?_)
  · have h := itn (b2i_f c_4) h
    refine lv_bipush (pc := 33) (v := (-2)) hx hb dX11_read_33 (by decide) ?_
    obtain ⟨hr9, hm9⟩ := ret_e h
    exact fin_i (pc := 35) X rfl Y hr9 hm9 rfl dX11_read_35
  · have h := itp (b2i_t c_4) h
    refine lv_iload_n (pc := 7) hx hb dX11_read_7 rfl (lv_at hl 2 rfl) ?_
    refine call_si (pc := 8) (rest := []) [.int v2] X Y (c_X11_isPeople v2) sw_X11_89 rfl ⟨rfl, rfl, Nat.le_of_ble_eq_true rfl, Nat.le_of_ble_eq_true rfl⟩ hl rfl (Nat.le_of_ble_eq_true rfl) dX11_read_8 (fun H locs Y => ?_)
    refine lv_if_eq (pc := 11) (tgt := 33) hx hb dX11_read_11 (by decide) (fun c_11 => ?_) (fun c_11 => ?_)
    · have h := itn (b2i_f c_11) h
      refine lv_bipush (pc := 33) (v := (-2)) hx hb dX11_read_33 (by decide) ?_
      obtain ⟨hr9, hm9⟩ := ret_e h
      exact fin_i (pc := 35) X rfl Y hr9 hm9 rfl dX11_read_35
    · have h := itp (b2i_t c_11) h
      refine lv_iload_n (pc := 14) hx hb dX11_read_14 rfl (lv_at hl 3 rfl) ?_
      refine call_si (pc := 15) (rest := []) [.int v3] X Y (c_X11_isKind v3) sw_X11_93 rfl ⟨rfl, rfl, Nat.le_of_ble_eq_true rfl, Nat.le_of_ble_eq_true rfl⟩ hl rfl (Nat.le_of_ble_eq_true rfl) dX11_read_15 (fun H locs Y => ?_)
      refine lv_if_eq (pc := 18) (tgt := 33) hx hb dX11_read_18 (by decide) (fun c_18 => ?_) (fun c_18 => ?_)
      · have h := itn (b2i_f c_18) h
        refine lv_bipush (pc := 33) (v := (-2)) hx hb dX11_read_33 (by decide) ?_
        obtain ⟨hr9, hm9⟩ := ret_e h
        exact fin_i (pc := 35) X rfl Y hr9 hm9 rfl dX11_read_35
      · have h := itp (b2i_t c_18) h
        refine lv_aload_n (pc := 21) hx hb dX11_read_21 rfl (lv_at hl 0 rfl) ?_
        refine gf_X11_12 (pc := 22) X Y dX11_read_22 ?_
        refine lv_iload (pc := 25) hx hb dX11_read_25 (lv_at hl 4 rfl) ?_
        refine call_vNi (pc := 27) (rest := []) [.int v4] X Y (c_X4_mayBeTold v4) sw_X11_102 (rv_X4 X Y) rfl ⟨rfl, rfl, Nat.le_of_ble_eq_true rfl, Nat.le_of_ble_eq_true rfl⟩ hl rfl (Nat.le_of_ble_eq_true rfl) dX11_read_27 (fun H locs Y => ?_)
        refine lv_if_ne (pc := 30) (tgt := 36) hx hb dX11_read_30 (by decide) (fun c_30 => ?_) (fun c_30 => ?_)
        · have h := itp (b2i_t c_30) h
          refine lv_aload_n (pc := 36) hx hb dX11_read_36 rfl (lv_at hl 0 rfl) ?_
          refine gf_X11_85 (pc := 37) X Y dX11_read_37 ?_
          refine lv_iload_n (pc := 40) hx hb dX11_read_40 rfl (lv_at hl 1 rfl) ?_
          obtain ⟨r_41, e_41, h⟩ := bnd_s h
          refine call_vNi (pc := 41) (rest := []) [.int v1] X Y (c_X7_isLost v1 e_41) sw_X11_112 (rv_X7 X Y) rfl ⟨rfl, rfl, Nat.le_of_ble_eq_true rfl, Nat.le_of_ble_eq_true rfl⟩ hl rfl (Nat.le_of_ble_eq_true rfl) dX11_read_41 (fun H locs Y => ?_)
          refine lv_if_eq (pc := 44) (tgt := 56) hx hb dX11_read_44 (by decide) (fun c_44 => ?_) (fun c_44 => ?_)
          · have h := itn (b2i_f c_44) h
            refine lv_aload_n (pc := 56) hx hb dX11_read_56 rfl (lv_at hl 0 rfl) ?_
            refine gf_X11_85 (pc := 57) X Y dX11_read_57 ?_
            refine lv_iload_n (pc := 60) hx hb dX11_read_60 rfl (lv_at hl 1 rfl) ?_
            obtain ⟨r_61, e_61, h⟩ := bnd_s h
            refine call_vNi (pc := 61) (rest := []) [.int v1] X Y (c_X7_sizeOf v1 e_61) sw_X11_119 (rv_X7 X Y) rfl ⟨rfl, rfl, Nat.le_of_ble_eq_true rfl, Nat.le_of_ble_eq_true rfl⟩ hl rfl (Nat.le_of_ble_eq_true rfl) dX11_read_61 (fun H locs Y => ?_)
            refine lv_iconst (pc := 64) (v := 2) hx hb dX11_read_64 (by decide) ?_
            refine lv_idiv (pc := 65) hx hb dX11_read_65 (by decide) ?_
            obtain ⟨v5_66, ev5_66, h⟩ := lt_s_ h
            refine top_i ev5_66 ?_
            refine lv_istore (pc := 66) (lv' := [(5, .int v5_66), (0, .ref (ad 0)), (1, .int v1), (2, .int v2), (3, .int v3), (4, .int v4)]) hx hb dX11_read_66 hl (by decide) rfl (fun ls hl => ?_)
            refine lv_iconst (pc := 68) (v := 0) hx hb dX11_read_68 (by decide) ?_
            refine lv_istore (pc := 69) (lv' := [(6, .int 0), (5, .int v5_66), (0, .ref (ad 0)), (1, .int v1), (2, .int v2), (3, .int v3), (4, .int v4)]) hx hb dX11_read_69 hl (by decide) rfl (fun ls hl => ?_)
            refine WL_X11_read_71 v1 v2 v3 v4 v5_66 X (fun C_124 H locs ls Y hl h => ?_) FU 0 C H locs ls Y (lv_sub hl [2, 3, 4, 5, 6, 1, 0] rfl) h
            refine lv_iload (pc := 124) hx hb dX11_read_124 (lv_at hl 0 rfl) ?_
            obtain ⟨hr9, hm9⟩ := ret_e h
            exact fin_i (pc := 126) X rfl Y hr9 hm9 rfl dX11_read_126
          · have h := itp (b2i_t c_44) h
            refine lv_aload_n (pc := 47) hx hb dX11_read_47 rfl (lv_at hl 0 rfl) ?_
            refine gf_X11_85 (pc := 48) X Y dX11_read_48 ?_
            refine lv_iconst (pc := 51) (v := 1) hx hb dX11_read_51 (by decide) ?_
            obtain ⟨r_52, C_52, e_52, h⟩ := bnd2_s h
            refine call_vNi (pc := 52) (rest := []) [.int 1] X Y (c_X7_found 1 e_52) sw_X11_115 (rv_X7 X Y) rfl ⟨rfl, rfl, Nat.le_of_ble_eq_true rfl, Nat.le_of_ble_eq_true rfl⟩ hl rfl (Nat.le_of_ble_eq_true rfl) dX11_read_52 (fun H locs Y => ?_)
            obtain ⟨hr9, hm9⟩ := ret_e h
            exact fin_i (pc := 55) X rfl Y hr9 hm9 rfl dX11_read_55
        · have h := itn (b2i_f c_30) h
          refine lv_bipush (pc := 33) (v := (-2)) hx hb dX11_read_33 (by decide) ?_
          obtain ⟨hr9, hm9⟩ := ret_e h
          exact fin_i (pc := 35) X rfl Y hr9 hm9 rfl dX11_read_35
abbrev rm_X11_takeBack : Room := { frames := 3, cells := 0, slots := 0, locals := 62 }
set_option maxHeartbeats 4000000 in
set_option maxRecDepth 100000 in
theorem c_X11_takeBack {r9 : Int32} {C9 : Mem} (v1 : Int32) (v2 : Int32) (h : f_X11_takeBack v1 v2 C = some (r9, C9)) : Ct l dC dI ad bd cI cZ yX11_takeBack cX11_takeBack 3 (some .int) rm_X11_takeBack [.ref (ad 0), .int v1, .int v2] C D (some (.int r9)) C9 D := by
  unfold f_X11_takeBack at h
  refine Ct.intro (own := RX11) (by decide) rfl (Nat.le_of_ble_eq_true rfl) ?_
  intro p e s m args below meth c H locs ls X Y hl
  have hx := X.1
  have hb := X.2.1
  have hl : lv_has ls 3 [(0, .ref (ad 0)), (1, .int v1), (2, .int v2)] := hl
  refine lv_aload_n (pc := 0) hx hb dX11_takeBack_0 rfl (lv_at hl 0 rfl) ?_
  refine gf_X11_12 (pc := 1) X Y dX11_takeBack_1 ?_
  refine lv_iload_n (pc := 4) hx hb dX11_takeBack_4 rfl (lv_at hl 1 rfl) ?_
  refine call_vNi (pc := 5) (rest := []) [.int v1] X Y (c_X4_has v1) sw_X11_129 (rv_X4 X Y) rfl ⟨rfl, rfl, Nat.le_of_ble_eq_true rfl, Nat.le_of_ble_eq_true rfl⟩ hl rfl (Nat.le_of_ble_eq_true rfl) dX11_takeBack_5 (fun H locs Y => ?_)
  refine lv_if_eq (pc := 8) (tgt := 22) hx hb dX11_takeBack_8 (by decide) (fun c_8 => ?_) (fun c_8 => ?_)
  · have h := itn (b2i_f c_8) h
    refine lv_bipush (pc := 22) (v := (-2)) hx hb dX11_takeBack_22 (by decide) ?_
    obtain ⟨hr9, hm9⟩ := ret_e h
    exact fin_i (pc := 24) X rfl Y hr9 hm9 rfl dX11_takeBack_24
  · have h := itp (b2i_t c_8) h
    refine lv_aload_n (pc := 11) hx hb dX11_takeBack_11 rfl (lv_at hl 0 rfl) ?_
    refine gf_X11_12 (pc := 12) X Y dX11_takeBack_12 ?_
    refine lv_iload_n (pc := 15) hx hb dX11_takeBack_15 rfl (lv_at hl 2 rfl) ?_
    refine call_vNi (pc := 16) (rest := []) [.int v2] X Y (c_X4_mayBeTold v2) sw_X11_102 (rv_X4 X Y) rfl ⟨rfl, rfl, Nat.le_of_ble_eq_true rfl, Nat.le_of_ble_eq_true rfl⟩ hl rfl (Nat.le_of_ble_eq_true rfl) dX11_takeBack_16 (fun H locs Y => ?_)
    refine lv_if_ne (pc := 19) (tgt := 25) hx hb dX11_takeBack_19 (by decide) (fun c_19 => ?_) (fun c_19 => ?_)
    · have h := itp (b2i_t c_19) h
      refine lv_aload_n (pc := 25) hx hb dX11_takeBack_25 rfl (lv_at hl 0 rfl) ?_
      refine gf_X11_12 (pc := 26) X Y dX11_takeBack_26 ?_
      refine lv_iload_n (pc := 29) hx hb dX11_takeBack_29 rfl (lv_at hl 1 rfl) ?_
      refine lv_iload_n (pc := 30) hx hb dX11_takeBack_30 rfl (lv_at hl 2 rfl) ?_
      obtain ⟨r_31, C_31, e_31, h⟩ := bnd2_s h
      refine call_vNi (pc := 31) (rest := []) [.int v1, .int v2] X Y (c_X4_withdraw v1 v2 e_31) sw_X11_132 (rv_X4 X Y) rfl ⟨rfl, rfl, Nat.le_of_ble_eq_true rfl, Nat.le_of_ble_eq_true rfl⟩ hl rfl (Nat.le_of_ble_eq_true rfl) dX11_takeBack_31 (fun H locs Y => ?_)
      obtain ⟨hr9, hm9⟩ := ret_e h
      exact fin_i (pc := 34) X rfl Y hr9 hm9 rfl dX11_takeBack_34
    · have h := itn (b2i_f c_19) h
      refine lv_bipush (pc := 22) (v := (-2)) hx hb dX11_takeBack_22 (by decide) ?_
      obtain ⟨hr9, hm9⟩ := ret_e h
      exact fin_i (pc := 24) X rfl Y hr9 hm9 rfl dX11_takeBack_24
abbrev rm_X11_asOf : Room := { frames := 2, cells := 0, slots := 0, locals := 41 }
set_option maxHeartbeats 4000000 in
set_option maxRecDepth 100000 in
theorem c_X11_asOf {r9 : Int32} {C9 : Mem} (v1 : Int32) (h : f_X11_asOf v1 C = some (r9, C9)) : Ct l dC dI ad bd cI cZ yX11_asOf cX11_asOf 3 (some .int) rm_X11_asOf [.ref (ad 0), .int v1] C D (some (.int r9)) C9 D := by
  unfold f_X11_asOf at h
  refine Ct.intro (own := RX11) (by decide) rfl (Nat.le_of_ble_eq_true rfl) ?_
  intro p e s m args below meth c H locs ls X Y hl
  have hx := X.1
  have hb := X.2.1
  have hl : lv_has ls 3 [(0, .ref (ad 0)), (1, .int v1)] := hl
  refine lv_iload_n (pc := 0) hx hb dX11_asOf_0 rfl (lv_at hl 1 rfl) ?_
  refine call_si (pc := 1) (rest := []) [.int v1] X Y (c_X11_isTime v1) sw_X11_135 rfl ⟨rfl, rfl, Nat.le_of_ble_eq_true rfl, Nat.le_of_ble_eq_true rfl⟩ hl rfl (Nat.le_of_ble_eq_true rfl) dX11_asOf_1 (fun H locs Y => ?_)
  refine lv_if_ne (pc := 4) (tgt := 10) hx hb dX11_asOf_4 (by decide) (fun c_4 => ?_) (fun c_4 => ?_)
  · have h := itp (b2i_t c_4) h
    refine lv_aload_n (pc := 10) hx hb dX11_asOf_10 rfl (lv_at hl 0 rfl) ?_
    refine gf_X11_12 (pc := 11) X Y dX11_asOf_11 ?_
    refine gf_X11_138 (pc := 14) X Y dX11_asOf_14 ?_
    obtain ⟨v2_17, ev2_17, h⟩ := lt_s_ h
    refine top_i ev2_17 ?_
    refine lv_istore_n (pc := 17) (lv' := [(2, .int v2_17), (0, .ref (ad 0)), (1, .int v1)]) hx hb dX11_asOf_17 rfl hl (by decide) rfl (fun ls hl => ?_)
    refine lv_aload_n (pc := 18) hx hb dX11_asOf_18 rfl (lv_at hl 1 rfl) ?_
    refine gf_X11_12 (pc := 19) X Y dX11_asOf_19 ?_
    refine lv_iload_n (pc := 22) hx hb dX11_asOf_22 rfl (lv_at hl 2 rfl) ?_
    obtain ⟨C_23, hC_23, h⟩ := sto_s h
    refine pf_X11_138 (pc := 23) X Y hC_23 dX11_asOf_23 (fun H locs Y => ?_)
    refine lv_iload_n (pc := 26) hx hb dX11_asOf_26 rfl (lv_at hl 0 rfl) ?_
    obtain ⟨hr9, hm9⟩ := ret_e h
    exact fin_i (pc := 27) X rfl Y hr9 hm9 rfl dX11_asOf_27
  · have h := itn (b2i_f c_4) h
    refine lv_bipush (pc := 7) (v := (-2)) hx hb dX11_asOf_7 (by decide) ?_
    obtain ⟨hr9, hm9⟩ := ret_e h
    exact fin_i (pc := 9) X rfl Y hr9 hm9 rfl dX11_asOf_9
abbrev rm_X11_many : Room := { frames := 3, cells := 0, slots := 0, locals := 67 }
set_option maxHeartbeats 4000000 in
set_option maxRecDepth 100000 in
theorem c_X11_many {r9 : Int32} {C9 : Mem} (v1 : Int32) (v2 : Int32) (v3 : Int32) (h : f_X11_many v1 v2 v3 C = some (r9, C9)) : Ct l dC dI ad bd cI cZ yX11_many cX11_many 4 (some .int) rm_X11_many [.ref (ad 0), .int v1, .int v2, .int v3] C D (some (.int r9)) C9 D := by
  unfold f_X11_many at h
  refine Ct.intro (own := RX11) (by decide) rfl (Nat.le_of_ble_eq_true rfl) ?_
  intro p e s m args below meth c H locs ls X Y hl
  have hx := X.1
  have hb := X.2.1
  have hl : lv_has ls 4 [(0, .ref (ad 0)), (1, .int v1), (2, .int v2), (3, .int v3)] := hl
  refine lv_iload_n (pc := 0) hx hb dX11_many_0 rfl (lv_at hl 1 rfl) ?_
  refine call_si (pc := 1) (rest := []) [.int v1] X Y (c_X11_isPeopleOrAll v1) sw_X11_142 rfl ⟨rfl, rfl, Nat.le_of_ble_eq_true rfl, Nat.le_of_ble_eq_true rfl⟩ hl rfl (Nat.le_of_ble_eq_true rfl) dX11_many_1 (fun H locs Y => ?_)
  refine lv_if_eq (pc := 4) (tgt := 22) hx hb dX11_many_4 (by decide) (fun c_4 => ?_) (fun c_4 => ?_)
  · have h := itn (b2i_f c_4) h
    refine lv_bipush (pc := 22) (v := (-2)) hx hb dX11_many_22 (by decide) ?_
    obtain ⟨hr9, hm9⟩ := ret_e h
    exact fin_i (pc := 24) X rfl Y hr9 hm9 rfl dX11_many_24
  · have h := itp (b2i_t c_4) h
    refine lv_iload_n (pc := 7) hx hb dX11_many_7 rfl (lv_at hl 2 rfl) ?_
    refine call_si (pc := 8) (rest := []) [.int v2] X Y (c_X11_isKind v2) sw_X11_93 rfl ⟨rfl, rfl, Nat.le_of_ble_eq_true rfl, Nat.le_of_ble_eq_true rfl⟩ hl rfl (Nat.le_of_ble_eq_true rfl) dX11_many_8 (fun H locs Y => ?_)
    refine lv_if_eq (pc := 11) (tgt := 22) hx hb dX11_many_11 (by decide) (fun c_11 => ?_) (fun c_11 => ?_)
    · have h := itn (b2i_f c_11) h
      refine lv_bipush (pc := 22) (v := (-2)) hx hb dX11_many_22 (by decide) ?_
      obtain ⟨hr9, hm9⟩ := ret_e h
      exact fin_i (pc := 24) X rfl Y hr9 hm9 rfl dX11_many_24
    · have h := itp (b2i_t c_11) h
      refine lv_iload_n (pc := 14) hx hb dX11_many_14 rfl (lv_at hl 3 rfl) ?_
      refine lv_iconst (pc := 15) (v := 2) hx hb dX11_many_15 (by decide) ?_
      refine call_si (pc := 16) (rest := []) [.int v3, .int 2] X Y (c_X11_isWithin v3 2) sw_X11_145 rfl ⟨rfl, rfl, Nat.le_of_ble_eq_true rfl, Nat.le_of_ble_eq_true rfl⟩ hl rfl (Nat.le_of_ble_eq_true rfl) dX11_many_16 (fun H locs Y => ?_)
      refine lv_if_ne (pc := 19) (tgt := 25) hx hb dX11_many_19 (by decide) (fun c_19 => ?_) (fun c_19 => ?_)
      · have h := itp (b2i_t c_19) h
        refine lv_aload_n (pc := 25) hx hb dX11_many_25 rfl (lv_at hl 0 rfl) ?_
        refine gf_X11_12 (pc := 26) X Y dX11_many_26 ?_
        refine lv_iload_n (pc := 29) hx hb dX11_many_29 rfl (lv_at hl 1 rfl) ?_
        refine lv_iload_n (pc := 30) hx hb dX11_many_30 rfl (lv_at hl 2 rfl) ?_
        refine lv_aload_n (pc := 31) hx hb dX11_many_31 rfl (lv_at hl 0 rfl) ?_
        refine gf_X11_19 (pc := 32) X Y dX11_many_32 ?_
        obtain ⟨C_35, e_35, h⟩ := bnd_s h
        refine call_vNv (pc := 35) (rest := []) [.int v1, .int v2, .ref (ad 8)] X Y (c_X4_tally v1 v2 8 tl8 e_35) sw_X11_149 (rv_X4 X Y) rfl ⟨rfl, rfl, Nat.le_of_ble_eq_true rfl, Nat.le_of_ble_eq_true rfl⟩ hl rfl (Nat.le_of_ble_eq_true rfl) dX11_many_35 (fun H locs Y => ?_)
        refine lv_iload_n (pc := 38) hx hb dX11_many_38 rfl (lv_at hl 3 rfl) ?_
        refine lv_if_ne (pc := 39) (tgt := 50) hx hb dX11_many_39 (by decide) (fun c_39 => ?_) (fun c_39 => ?_)
        · have h := itn c_39 h
          refine lv_iload_n (pc := 50) hx hb dX11_many_50 rfl (lv_at hl 3 rfl) ?_
          refine lv_iconst (pc := 51) (v := 1) hx hb dX11_many_51 (by decide) ?_
          refine lv_icmp_ne (pc := 52) (tgt := 63) hx hb dX11_many_52 (by decide) (fun c_52 => ?_) (fun c_52 => ?_)
          · have h := itn c_52 h
            refine lv_aload_n (pc := 63) hx hb dX11_many_63 rfl (lv_at hl 0 rfl) ?_
            refine gf_X11_19 (pc := 64) X Y dX11_many_64 ?_
            refine gf_X11_153 (pc := 67) X Y tl8 dX11_many_67 ?_
            refine lv_if_ne (pc := 70) (tgt := 78) hx hb dX11_many_70 (by decide) (fun c_70 => ?_) (fun c_70 => ?_)
            · have h := itn c_70 h
              refine lv_aload_n (pc := 78) hx hb dX11_many_78 rfl (lv_at hl 0 rfl) ?_
              refine gf_X11_19 (pc := 79) X Y dX11_many_79 ?_
              obtain ⟨r_82, e_82, h⟩ := bnd_s h
              refine call_vNi (pc := 82) (rest := []) [] X Y (c_X9_middle 8 tl8 e_82) sw_X11_159 (rv_X9 X Y tl8) rfl ⟨rfl, rfl, Nat.le_of_ble_eq_true rfl, Nat.le_of_ble_eq_true rfl⟩ hl rfl (Nat.le_of_ble_eq_true rfl) dX11_many_82 (fun H locs Y => ?_)
              obtain ⟨hr9, hm9⟩ := ret_e h
              exact fin_i (pc := 85) X rfl Y hr9 hm9 rfl dX11_many_85
            · have h := itp c_70 h
              refine lv_bipush (pc := 73) (v := (-3)) hx hb dX11_many_73 (by decide) ?_
              refine lv_goto (pc := 75) (tgt := 85) hx hb dX11_many_75 (by decide) ?_
              obtain ⟨hr9, hm9⟩ := ret_e h
              exact fin_i (pc := 85) X rfl Y hr9 hm9 rfl dX11_many_85
          · have h := itp c_52 h
            refine lv_aload_n (pc := 55) hx hb dX11_many_55 rfl (lv_at hl 0 rfl) ?_
            refine gf_X11_19 (pc := 56) X Y dX11_many_56 ?_
            refine gf_X11_156 (pc := 59) X Y tl8 dX11_many_59 ?_
            obtain ⟨hr9, hm9⟩ := ret_e h
            exact fin_i (pc := 62) X rfl Y hr9 hm9 rfl dX11_many_62
        · have h := itp c_39 h
          refine lv_aload_n (pc := 42) hx hb dX11_many_42 rfl (lv_at hl 0 rfl) ?_
          refine gf_X11_19 (pc := 43) X Y dX11_many_43 ?_
          refine gf_X11_153 (pc := 46) X Y tl8 dX11_many_46 ?_
          obtain ⟨hr9, hm9⟩ := ret_e h
          exact fin_i (pc := 49) X rfl Y hr9 hm9 rfl dX11_many_49
      · have h := itn (b2i_f c_19) h
        refine lv_bipush (pc := 22) (v := (-2)) hx hb dX11_many_22 (by decide) ?_
        obtain ⟨hr9, hm9⟩ := ret_e h
        exact fin_i (pc := 24) X rfl Y hr9 hm9 rfl dX11_many_24
abbrev rm_X11_mean : Room := { frames := 3, cells := 0, slots := 0, locals := 67 }
set_option maxHeartbeats 4000000 in
set_option maxRecDepth 100000 in
theorem WB_X11_mean_21 {r9 : Int64} {C9 : Mem} (C : Mem) (X : Cx p s m args meth c cX11_mean RX11 4 (some .long) dC dI ad bd cI cZ) {H : Heap} {locs : List Loc} {ls : Array Slot} (Y : Ys s dC dI ad bd cI cZ C D H locs) (hl : lv_has ls 4 []) (h : B_X11_mean_21 C = some (r9, C9)) : W p l e rm_X11_mean s m args below meth c H locs 0 0 (MQ below (QC (some (.long r9)) dC dI ad bd cI cZ C9 D) args s 0 0 (AD ad bd)) (F0 m 21 ls []) := by
  have hx := X.1
  have hb := X.2.1
  unfold B_X11_mean_21 at h
  refine lv_bipush (pc := 21) (v := (-2)) hx hb dX11_mean_21 (by decide) ?_
  refine call_sl (pc := 23) (rest := []) [.int (-2)] X Y (c_X11_asLong (-2)) sw_X11_166 rfl ⟨rfl, rfl, Nat.le_of_ble_eq_true rfl, Nat.le_of_ble_eq_true rfl⟩ hl rfl (Nat.le_of_ble_eq_true rfl) dX11_mean_23 (fun H locs Y => ?_)
  obtain ⟨hr9, hm9⟩ := ret_e h
  exact fin_l (pc := 26) X rfl Y hr9 hm9 rfl dX11_mean_26
set_option maxHeartbeats 4000000 in
set_option maxRecDepth 100000 in
theorem c_X11_mean {r9 : Int64} {C9 : Mem} (v1 : Int32) (v2 : Int32) (v3 : Int32) (h : f_X11_mean v1 v2 v3 C = some (r9, C9)) : Ct l dC dI ad bd cI cZ yX11_mean cX11_mean 4 (some .long) rm_X11_mean [.ref (ad 0), .int v1, .int v2, .int v3] C D (some (.long r9)) C9 D := by
  unfold f_X11_mean at h
  refine Ct.intro (own := RX11) (by decide) rfl (Nat.le_of_ble_eq_true rfl) ?_
  intro p e s m args below meth c H locs ls X Y hl
  have hx := X.1
  have hb := X.2.1
  have hl : lv_has ls 4 [(0, .ref (ad 0)), (1, .int v1), (2, .int v2), (3, .int v3)] := hl
  refine lv_iload_n (pc := 0) hx hb dX11_mean_0 rfl (lv_at hl 1 rfl) ?_
  refine call_si (pc := 1) (rest := []) [.int v1] X Y (c_X11_isPeopleOrAll v1) sw_X11_142 rfl ⟨rfl, rfl, Nat.le_of_ble_eq_true rfl, Nat.le_of_ble_eq_true rfl⟩ hl rfl (Nat.le_of_ble_eq_true rfl) dX11_mean_1 (fun H locs Y => ?_)
  refine lv_if_eq (pc := 4) (tgt := 21) hx hb dX11_mean_4 (by decide) (fun c_4 => ?_) (fun c_4 => ?_)
  · have h := itn (b2i_f c_4) h
    exact WB_X11_mean_21  C X Y (lv_sub hl [] rfl) h
  · have h := itp (b2i_t c_4) h
    refine lv_iload_n (pc := 7) hx hb dX11_mean_7 rfl (lv_at hl 2 rfl) ?_
    refine call_si (pc := 8) (rest := []) [.int v2] X Y (c_X11_isKind v2) sw_X11_93 rfl ⟨rfl, rfl, Nat.le_of_ble_eq_true rfl, Nat.le_of_ble_eq_true rfl⟩ hl rfl (Nat.le_of_ble_eq_true rfl) dX11_mean_8 (fun H locs Y => ?_)
    refine lv_if_eq (pc := 11) (tgt := 21) hx hb dX11_mean_11 (by decide) (fun c_11 => ?_) (fun c_11 => ?_)
    · have h := itn (b2i_f c_11) h
      exact WB_X11_mean_21  C X Y (lv_sub hl [] rfl) h
    · have h := itp (b2i_t c_11) h
      refine lv_iload_n (pc := 14) hx hb dX11_mean_14 rfl (lv_at hl 3 rfl) ?_
      refine call_si (pc := 15) (rest := []) [.int v3] X Y (c_X11_isPart v3) sw_X11_163 rfl ⟨rfl, rfl, Nat.le_of_ble_eq_true rfl, Nat.le_of_ble_eq_true rfl⟩ hl rfl (Nat.le_of_ble_eq_true rfl) dX11_mean_15 (fun H locs Y => ?_)
      refine lv_if_ne (pc := 18) (tgt := 27) hx hb dX11_mean_18 (by decide) (fun c_18 => ?_) (fun c_18 => ?_)
      · have h := itp (b2i_t c_18) h
        refine lv_aload_n (pc := 27) hx hb dX11_mean_27 rfl (lv_at hl 0 rfl) ?_
        refine gf_X11_12 (pc := 28) X Y dX11_mean_28 ?_
        refine lv_iload_n (pc := 31) hx hb dX11_mean_31 rfl (lv_at hl 1 rfl) ?_
        refine lv_iload_n (pc := 32) hx hb dX11_mean_32 rfl (lv_at hl 2 rfl) ?_
        refine lv_aload_n (pc := 33) hx hb dX11_mean_33 rfl (lv_at hl 0 rfl) ?_
        refine gf_X11_19 (pc := 34) X Y dX11_mean_34 ?_
        obtain ⟨C_37, e_37, h⟩ := bnd_s h
        refine call_vNv (pc := 37) (rest := []) [.int v1, .int v2, .ref (ad 8)] X Y (c_X4_tally v1 v2 8 tl8 e_37) sw_X11_149 (rv_X4 X Y) rfl ⟨rfl, rfl, Nat.le_of_ble_eq_true rfl, Nat.le_of_ble_eq_true rfl⟩ hl rfl (Nat.le_of_ble_eq_true rfl) dX11_mean_37 (fun H locs Y => ?_)
        refine lv_aload_n (pc := 40) hx hb dX11_mean_40 rfl (lv_at hl 0 rfl) ?_
        refine gf_X11_19 (pc := 41) X Y dX11_mean_41 ?_
        refine gf_X11_153 (pc := 44) X Y tl8 dX11_mean_44 ?_
        refine lv_if_ne (pc := 47) (tgt := 56) hx hb dX11_mean_47 (by decide) (fun c_47 => ?_) (fun c_47 => ?_)
        · have h := itn c_47 h
          refine lv_aload_n (pc := 56) hx hb dX11_mean_56 rfl (lv_at hl 0 rfl) ?_
          refine gf_X11_19 (pc := 57) X Y dX11_mean_57 ?_
          refine gf_X11_170 (pc := 60) X Y tl8 dX11_mean_60 ?_
          refine lv_i2l (pc := 63) hx hb dX11_mean_63 rfl ?_
          refine lv_aload_n (pc := 64) hx hb dX11_mean_64 rfl (lv_at hl 0 rfl) ?_
          refine gf_X11_19 (pc := 65) X Y dX11_mean_65 ?_
          refine gf_X11_153 (pc := 68) X Y tl8 dX11_mean_68 ?_
          refine lv_i2l (pc := 71) hx hb dX11_mean_71 rfl ?_
          refine lv_iload_n (pc := 72) hx hb dX11_mean_72 rfl (lv_at hl 3 rfl) ?_
          obtain ⟨r_73, e_73, h⟩ := bnd_s h
          refine call_sl (pc := 73) (rest := []) [.long ((C_37 8 4).toInt64), .long ((C_37 8 2).toInt64), .int v3] X Y (c_X11_fraction ((C_37 8 4).toInt64) ((C_37 8 2).toInt64) v3 e_73) sw_X11_173 rfl ⟨rfl, rfl, Nat.le_of_ble_eq_true rfl, Nat.le_of_ble_eq_true rfl⟩ hl rfl (Nat.le_of_ble_eq_true rfl) dX11_mean_73 (fun H locs Y => ?_)
          obtain ⟨hr9, hm9⟩ := ret_e h
          exact fin_l (pc := 76) X rfl Y hr9 hm9 rfl dX11_mean_76
        · have h := itp c_47 h
          refine lv_bipush (pc := 50) (v := (-3)) hx hb dX11_mean_50 (by decide) ?_
          refine call_sl (pc := 52) (rest := []) [.int (-3)] X Y (c_X11_asLong (-3)) sw_X11_166 rfl ⟨rfl, rfl, Nat.le_of_ble_eq_true rfl, Nat.le_of_ble_eq_true rfl⟩ hl rfl (Nat.le_of_ble_eq_true rfl) dX11_mean_52 (fun H locs Y => ?_)
          obtain ⟨hr9, hm9⟩ := ret_e h
          exact fin_l (pc := 55) X rfl Y hr9 hm9 rfl dX11_mean_55
      · have h := itn (b2i_f c_18) h
        exact WB_X11_mean_21  C X Y (lv_sub hl [] rfl) h
abbrev rm_X11_refused : Room := { frames := 3, cells := 0, slots := 0, locals := 67 }
set_option maxHeartbeats 4000000 in
set_option maxRecDepth 100000 in
theorem WB_X11_refused_29 {r9 : Int64} {C9 : Mem} (C : Mem) (X : Cx p s m args meth c cX11_refused RX11 5 (some .long) dC dI ad bd cI cZ) {H : Heap} {locs : List Loc} {ls : Array Slot} (Y : Ys s dC dI ad bd cI cZ C D H locs) (hl : lv_has ls 5 []) (h : B_X11_refused_29 C = some (r9, C9)) : W p l e rm_X11_refused s m args below meth c H locs 0 0 (MQ below (QC (some (.long r9)) dC dI ad bd cI cZ C9 D) args s 0 0 (AD ad bd)) (F0 m 29 ls []) := by
  have hx := X.1
  have hb := X.2.1
  unfold B_X11_refused_29 at h
  refine lv_bipush (pc := 29) (v := (-2)) hx hb dX11_refused_29 (by decide) ?_
  refine call_sl (pc := 31) (rest := []) [.int (-2)] X Y (c_X11_asLong (-2)) sw_X11_166 rfl ⟨rfl, rfl, Nat.le_of_ble_eq_true rfl, Nat.le_of_ble_eq_true rfl⟩ hl rfl (Nat.le_of_ble_eq_true rfl) dX11_refused_31 (fun H locs Y => ?_)
  obtain ⟨hr9, hm9⟩ := ret_e h
  exact fin_l (pc := 34) X rfl Y hr9 hm9 rfl dX11_refused_34
set_option maxHeartbeats 4000000 in
set_option maxRecDepth 100000 in
theorem c_X11_refused {r9 : Int64} {C9 : Mem} (v1 : Int32) (v2 : Int32) (v3 : Int32) (v4 : Int32) (h : f_X11_refused v1 v2 v3 v4 C = some (r9, C9)) : Ct l dC dI ad bd cI cZ yX11_refused cX11_refused 5 (some .long) rm_X11_refused [.ref (ad 0), .int v1, .int v2, .int v3, .int v4] C D (some (.long r9)) C9 D := by
  unfold f_X11_refused at h
  refine Ct.intro (own := RX11) (by decide) rfl (Nat.le_of_ble_eq_true rfl) ?_
  intro p e s m args below meth c H locs ls X Y hl
  have hx := X.1
  have hb := X.2.1
  have hl : lv_has ls 5 [(0, .ref (ad 0)), (1, .int v1), (2, .int v2), (3, .int v3), (4, .int v4)] := hl
  refine lv_iload_n (pc := 0) hx hb dX11_refused_0 rfl (lv_at hl 1 rfl) ?_
  refine call_si (pc := 1) (rest := []) [.int v1] X Y (c_X11_isPeopleOrAll v1) sw_X11_142 rfl ⟨rfl, rfl, Nat.le_of_ble_eq_true rfl, Nat.le_of_ble_eq_true rfl⟩ hl rfl (Nat.le_of_ble_eq_true rfl) dX11_refused_1 (fun H locs Y => ?_)
  refine lv_if_eq (pc := 4) (tgt := 29) hx hb dX11_refused_4 (by decide) (fun c_4 => ?_) (fun c_4 => ?_)
  · have h := itn (b2i_f c_4) h
    exact WB_X11_refused_29  C X Y (lv_sub hl [] rfl) h
  · have h := itp (b2i_t c_4) h
    refine lv_iload_n (pc := 7) hx hb dX11_refused_7 rfl (lv_at hl 2 rfl) ?_
    refine call_si (pc := 8) (rest := []) [.int v2] X Y (c_X11_isKind v2) sw_X11_93 rfl ⟨rfl, rfl, Nat.le_of_ble_eq_true rfl, Nat.le_of_ble_eq_true rfl⟩ hl rfl (Nat.le_of_ble_eq_true rfl) dX11_refused_8 (fun H locs Y => ?_)
    refine lv_if_eq (pc := 11) (tgt := 29) hx hb dX11_refused_11 (by decide) (fun c_11 => ?_) (fun c_11 => ?_)
    · have h := itn (b2i_f c_11) h
      exact WB_X11_refused_29  C X Y (lv_sub hl [] rfl) h
    · have h := itp (b2i_t c_11) h
      refine lv_iload_n (pc := 14) hx hb dX11_refused_14 rfl (lv_at hl 3 rfl) ?_
      refine call_si (pc := 15) (rest := []) [.int v3] X Y (c_X11_isOffer v3) sw_X11_96 rfl ⟨rfl, rfl, Nat.le_of_ble_eq_true rfl, Nat.le_of_ble_eq_true rfl⟩ hl rfl (Nat.le_of_ble_eq_true rfl) dX11_refused_15 (fun H locs Y => ?_)
      refine lv_if_eq (pc := 18) (tgt := 29) hx hb dX11_refused_18 (by decide) (fun c_18 => ?_) (fun c_18 => ?_)
      · have h := itn (b2i_f c_18) h
        exact WB_X11_refused_29  C X Y (lv_sub hl [] rfl) h
      · have h := itp (b2i_t c_18) h
        refine lv_iload (pc := 21) hx hb dX11_refused_21 (lv_at hl 4 rfl) ?_
        refine call_si (pc := 23) (rest := []) [.int v4] X Y (c_X11_isPart v4) sw_X11_163 rfl ⟨rfl, rfl, Nat.le_of_ble_eq_true rfl, Nat.le_of_ble_eq_true rfl⟩ hl rfl (Nat.le_of_ble_eq_true rfl) dX11_refused_23 (fun H locs Y => ?_)
        refine lv_if_ne (pc := 26) (tgt := 35) hx hb dX11_refused_26 (by decide) (fun c_26 => ?_) (fun c_26 => ?_)
        · have h := itp (b2i_t c_26) h
          refine lv_aload_n (pc := 35) hx hb dX11_refused_35 rfl (lv_at hl 0 rfl) ?_
          refine gf_X11_12 (pc := 36) X Y dX11_refused_36 ?_
          refine lv_iload_n (pc := 39) hx hb dX11_refused_39 rfl (lv_at hl 1 rfl) ?_
          refine lv_iload_n (pc := 40) hx hb dX11_refused_40 rfl (lv_at hl 2 rfl) ?_
          refine lv_aload_n (pc := 41) hx hb dX11_refused_41 rfl (lv_at hl 0 rfl) ?_
          refine gf_X11_19 (pc := 42) X Y dX11_refused_42 ?_
          obtain ⟨C_45, e_45, h⟩ := bnd_s h
          refine call_vNv (pc := 45) (rest := []) [.int v1, .int v2, .ref (ad 8)] X Y (c_X4_tally v1 v2 8 tl8 e_45) sw_X11_149 (rv_X4 X Y) rfl ⟨rfl, rfl, Nat.le_of_ble_eq_true rfl, Nat.le_of_ble_eq_true rfl⟩ hl rfl (Nat.le_of_ble_eq_true rfl) dX11_refused_45 (fun H locs Y => ?_)
          refine lv_aload_n (pc := 48) hx hb dX11_refused_48 rfl (lv_at hl 0 rfl) ?_
          refine gf_X11_19 (pc := 49) X Y dX11_refused_49 ?_
          refine gf_X11_177 (pc := 52) X Y tl8 dX11_refused_52 ?_
          refine lv_iload_n (pc := 55) hx hb dX11_refused_55 rfl (lv_at hl 3 rfl) ?_
          obtain ⟨g_56, h⟩ := gd_s h
          refine r_ialdc (pc := 56) X Y (ca_9 ad cI) g_56 dX11_refused_56 ?_
          refine lv_if_ne (pc := 57) (tgt := 66) hx hb dX11_refused_57 (by decide) (fun c_57 => ?_) (fun c_57 => ?_)
          · have h := itn c_57 h
            refine lv_aload_n (pc := 66) hx hb dX11_refused_66 rfl (lv_at hl 0 rfl) ?_
            refine gf_X11_19 (pc := 67) X Y dX11_refused_67 ?_
            refine gf_X11_181 (pc := 70) X Y tl8 dX11_refused_70 ?_
            refine lv_iload_n (pc := 73) hx hb dX11_refused_73 rfl (lv_at hl 3 rfl) ?_
            obtain ⟨g_74, h⟩ := gd_s h
            refine r_ialdc (pc := 74) X Y (ca_10 ad cI) g_74 dX11_refused_74 ?_
            refine lv_i2l (pc := 75) hx hb dX11_refused_75 rfl ?_
            refine lv_aload_n (pc := 76) hx hb dX11_refused_76 rfl (lv_at hl 0 rfl) ?_
            refine gf_X11_19 (pc := 77) X Y dX11_refused_77 ?_
            refine gf_X11_177 (pc := 80) X Y tl8 dX11_refused_80 ?_
            refine lv_iload_n (pc := 83) hx hb dX11_refused_83 rfl (lv_at hl 3 rfl) ?_
            obtain ⟨g_84, h⟩ := gd_s h
            refine r_ialdc (pc := 84) X Y (ca_9 ad cI) g_84 dX11_refused_84 ?_
            refine lv_i2l (pc := 85) hx hb dX11_refused_85 rfl ?_
            refine lv_iload (pc := 86) hx hb dX11_refused_86 (lv_at hl 4 rfl) ?_
            obtain ⟨r_88, e_88, h⟩ := bnd_s h
            refine call_sl (pc := 88) (rest := []) [.long ((C_45 10 v3.toNatClampNeg).toInt64), .long ((C_45 9 v3.toNatClampNeg).toInt64), .int v4] X Y (c_X11_fraction ((C_45 10 v3.toNatClampNeg).toInt64) ((C_45 9 v3.toNatClampNeg).toInt64) v4 e_88) sw_X11_173 rfl ⟨rfl, rfl, Nat.le_of_ble_eq_true rfl, Nat.le_of_ble_eq_true rfl⟩ hl rfl (Nat.le_of_ble_eq_true rfl) dX11_refused_88 (fun H locs Y => ?_)
            obtain ⟨hr9, hm9⟩ := ret_e h
            exact fin_l (pc := 91) X rfl Y hr9 hm9 rfl dX11_refused_91
          · have h := itp c_57 h
            refine lv_bipush (pc := 60) (v := (-3)) hx hb dX11_refused_60 (by decide) ?_
            refine call_sl (pc := 62) (rest := []) [.int (-3)] X Y (c_X11_asLong (-3)) sw_X11_166 rfl ⟨rfl, rfl, Nat.le_of_ble_eq_true rfl, Nat.le_of_ble_eq_true rfl⟩ hl rfl (Nat.le_of_ble_eq_true rfl) dX11_refused_62 (fun H locs Y => ?_)
            obtain ⟨hr9, hm9⟩ := ret_e h
            exact fin_l (pc := 65) X rfl Y hr9 hm9 rfl dX11_refused_65
        · have h := itn (b2i_f c_26) h
          exact WB_X11_refused_29  C X Y (lv_sub hl [] rfl) h
abbrev rm_X11_moves : Room := { frames := 3, cells := 0, slots := 0, locals := 67 }
set_option maxHeartbeats 4000000 in
set_option maxRecDepth 100000 in
theorem WB_X11_moves_22 {r9 : Int64} {C9 : Mem} (C : Mem) (X : Cx p s m args meth c cX11_moves RX11 6 (some .long) dC dI ad bd cI cZ) {H : Heap} {locs : List Loc} {ls : Array Slot} (Y : Ys s dC dI ad bd cI cZ C D H locs) (hl : lv_has ls 6 []) (h : B_X11_moves_22 C = some (r9, C9)) : W p l e rm_X11_moves s m args below meth c H locs 0 0 (MQ below (QC (some (.long r9)) dC dI ad bd cI cZ C9 D) args s 0 0 (AD ad bd)) (F0 m 22 ls []) := by
  have hx := X.1
  have hb := X.2.1
  unfold B_X11_moves_22 at h
  refine lv_bipush (pc := 22) (v := (-2)) hx hb dX11_moves_22 (by decide) ?_
  refine call_sl (pc := 24) (rest := []) [.int (-2)] X Y (c_X11_asLong (-2)) sw_X11_166 rfl ⟨rfl, rfl, Nat.le_of_ble_eq_true rfl, Nat.le_of_ble_eq_true rfl⟩ hl rfl (Nat.le_of_ble_eq_true rfl) dX11_moves_24 (fun H locs Y => ?_)
  obtain ⟨hr9, hm9⟩ := ret_e h
  exact fin_l (pc := 27) X rfl Y hr9 hm9 rfl dX11_moves_27
set_option maxHeartbeats 4000000 in
set_option maxRecDepth 100000 in
theorem WB_X11_moves_86 {r9 : Int64} {C9 : Mem} (C : Mem) (X : Cx p s m args meth c cX11_moves RX11 6 (some .long) dC dI ad bd cI cZ) {H : Heap} {locs : List Loc} {ls : Array Slot} (Y : Ys s dC dI ad bd cI cZ C D H locs) (hl : lv_has ls 6 []) (h : B_X11_moves_86 C = some (r9, C9)) : W p l e rm_X11_moves s m args below meth c H locs 0 0 (MQ below (QC (some (.long r9)) dC dI ad bd cI cZ C9 D) args s 0 0 (AD ad bd)) (F0 m 86 ls []) := by
  have hx := X.1
  have hb := X.2.1
  unfold B_X11_moves_86 at h
  refine lv_bipush (pc := 86) (v := (-3)) hx hb dX11_moves_86 (by decide) ?_
  refine call_sl (pc := 88) (rest := []) [.int (-3)] X Y (c_X11_asLong (-3)) sw_X11_166 rfl ⟨rfl, rfl, Nat.le_of_ble_eq_true rfl, Nat.le_of_ble_eq_true rfl⟩ hl rfl (Nat.le_of_ble_eq_true rfl) dX11_moves_88 (fun H locs Y => ?_)
  obtain ⟨hr9, hm9⟩ := ret_e h
  exact fin_l (pc := 91) X rfl Y hr9 hm9 rfl dX11_moves_91
set_option maxHeartbeats 4000000 in
set_option maxRecDepth 100000 in
theorem WB_X11_moves_138 {r9 : Int64} {C9 : Mem} (x0 : Int32) (v3 : Int32) (v4 : Int32) (C : Mem) (X : Cx p s m args meth c cX11_moves RX11 6 (some .long) dC dI ad bd cI cZ) {H : Heap} {locs : List Loc} {ls : Array Slot} (Y : Ys s dC dI ad bd cI cZ C D H locs) (hl : lv_has ls 6 [(0, .ref (ad 0)), (3, .int v3), (4, .int v4)]) (h : B_X11_moves_138 x0 v3 v4 C = some (r9, C9)) : W p l e rm_X11_moves s m args below meth c H locs 0 0 (MQ below (QC (some (.long r9)) dC dI ad bd cI cZ C9 D) args s 0 0 (AD ad bd)) (F0 m 138 ls [.int x0]) := by
  have hx := X.1
  have hb := X.2.1
  unfold B_X11_moves_138 at h
  refine lv_istore (pc := 138) (lv' := [(5, .int x0), (0, .ref (ad 0)), (3, .int v3), (4, .int v4)]) hx hb dX11_moves_138 hl (by decide) rfl (fun ls hl => ?_)
  refine lv_iload (pc := 140) hx hb dX11_moves_140 (lv_at hl 3 rfl) ?_
  refine lv_aload_n (pc := 142) hx hb dX11_moves_142 rfl (lv_at hl 1 rfl) ?_
  refine gf_X11_23 (pc := 143) X Y dX11_moves_143 ?_
  refine gf_X11_153 (pc := 146) X Y tl11 dX11_moves_146 ?_
  refine lv_imul (pc := 149) hx hb dX11_moves_149 ?_
  refine lv_iload (pc := 150) hx hb dX11_moves_150 (lv_at hl 0 rfl) ?_
  refine lv_aload_n (pc := 152) hx hb dX11_moves_152 rfl (lv_at hl 1 rfl) ?_
  refine gf_X11_19 (pc := 153) X Y dX11_moves_153 ?_
  refine gf_X11_153 (pc := 156) X Y tl8 dX11_moves_156 ?_
  refine lv_imul (pc := 159) hx hb dX11_moves_159 ?_
  refine lv_isub (pc := 160) hx hb dX11_moves_160 ?_
  refine lv_i2l (pc := 161) hx hb dX11_moves_161 rfl ?_
  refine lv_aload_n (pc := 162) hx hb dX11_moves_162 rfl (lv_at hl 1 rfl) ?_
  refine gf_X11_19 (pc := 163) X Y dX11_moves_163 ?_
  refine gf_X11_153 (pc := 166) X Y tl8 dX11_moves_166 ?_
  refine lv_aload_n (pc := 169) hx hb dX11_moves_169 rfl (lv_at hl 1 rfl) ?_
  refine gf_X11_23 (pc := 170) X Y dX11_moves_170 ?_
  refine gf_X11_153 (pc := 173) X Y tl11 dX11_moves_173 ?_
  refine lv_imul (pc := 176) hx hb dX11_moves_176 ?_
  refine lv_i2l (pc := 177) hx hb dX11_moves_177 rfl ?_
  refine lv_iload_n (pc := 178) hx hb dX11_moves_178 rfl (lv_at hl 2 rfl) ?_
  obtain ⟨r_179, e_179, h⟩ := bnd_s h
  refine call_sl (pc := 179) (rest := []) [.long (((v4 * (C 11 2)) - (x0 * (C 8 2))).toInt64), .long (((C 8 2) * (C 11 2)).toInt64), .int v3] X Y (c_X11_fraction (((v4 * (C 11 2)) - (x0 * (C 8 2))).toInt64) (((C 8 2) * (C 11 2)).toInt64) v3 e_179) sw_X11_173 rfl ⟨rfl, rfl, Nat.le_of_ble_eq_true rfl, Nat.le_of_ble_eq_true rfl⟩ hl rfl (Nat.le_of_ble_eq_true rfl) dX11_moves_179 (fun H locs Y => ?_)
  obtain ⟨hr9, hm9⟩ := ret_e h
  exact fin_l (pc := 182) X rfl Y hr9 hm9 rfl dX11_moves_182
set_option maxHeartbeats 4000000 in
set_option maxRecDepth 100000 in
theorem WB_X11_moves_114 {r9 : Int64} {C9 : Mem} (x0 : Int32) (v2 : Int32) (v3 : Int32) (C : Mem) (X : Cx p s m args meth c cX11_moves RX11 6 (some .long) dC dI ad bd cI cZ) {H : Heap} {locs : List Loc} {ls : Array Slot} (Y : Ys s dC dI ad bd cI cZ C D H locs) (hl : lv_has ls 6 [(0, .ref (ad 0)), (2, .int v2), (3, .int v3)]) (h : B_X11_moves_114 x0 v2 v3 C = some (r9, C9)) : W p l e rm_X11_moves s m args below meth c H locs 0 0 (MQ below (QC (some (.long r9)) dC dI ad bd cI cZ C9 D) args s 0 0 (AD ad bd)) (F0 m 114 ls [.int x0]) := by
  have hx := X.1
  have hb := X.2.1
  unfold B_X11_moves_114 at h
  refine lv_istore (pc := 114) (lv' := [(4, .int x0), (0, .ref (ad 0)), (2, .int v2), (3, .int v3)]) hx hb dX11_moves_114 hl (by decide) rfl (fun ls hl => ?_)
  refine lv_iload_n (pc := 116) hx hb dX11_moves_116 rfl (lv_at hl 2 rfl) ?_
  refine lv_iconst (pc := 117) (v := 2) hx hb dX11_moves_117 (by decide) ?_
  refine lv_icmp_ne (pc := 118) (tgt := 131) hx hb dX11_moves_118 (by decide) (fun c_118 => ?_) (fun c_118 => ?_)
  · have h := itn c_118 h
    refine lv_aload_n (pc := 131) hx hb dX11_moves_131 rfl (lv_at hl 1 rfl) ?_
    refine gf_X11_23 (pc := 132) X Y dX11_moves_132 ?_
    refine gf_X11_170 (pc := 135) X Y tl11 dX11_moves_135 ?_
    exact WB_X11_moves_138 (C 11 4) v3 x0 C X Y (lv_sub hl [1, 3, 0] rfl) h
  · have h := itp c_118 h
    refine lv_aload_n (pc := 121) hx hb dX11_moves_121 rfl (lv_at hl 1 rfl) ?_
    refine gf_X11_23 (pc := 122) X Y dX11_moves_122 ?_
    refine gf_X11_156 (pc := 125) X Y tl11 dX11_moves_125 ?_
    refine lv_goto (pc := 128) (tgt := 138) hx hb dX11_moves_128 (by decide) ?_
    exact WB_X11_moves_138 (C 11 3) v3 x0 C X Y (lv_sub hl [1, 3, 0] rfl) h
set_option maxHeartbeats 4000000 in
set_option maxRecDepth 100000 in
theorem WB_X11_moves_43 {r9 : Int64} {C9 : Mem} (x1 : Int32) (x2 : Int32) (v1 : Int32) (v2 : Int32) (v3 : Int32) (C : Mem) (X : Cx p s m args meth c cX11_moves RX11 6 (some .long) dC dI ad bd cI cZ) {H : Heap} {locs : List Loc} {ls : Array Slot} (Y : Ys s dC dI ad bd cI cZ C D H locs) (hl : lv_has ls 6 [(0, .ref (ad 0)), (1, .int v1), (2, .int v2), (3, .int v3)]) (h : B_X11_moves_43 x1 x2 v1 v2 v3 C = some (r9, C9)) : W p l e rm_X11_moves s m args below meth c H locs 0 0 (MQ below (QC (some (.long r9)) dC dI ad bd cI cZ C9 D) args s 0 0 (AD ad bd)) (F0 m 43 ls [.int x2, .int x1, .ref (ad 1)]) := by
  have hx := X.1
  have hb := X.2.1
  unfold B_X11_moves_43 at h
  refine lv_aload_n (pc := 43) hx hb dX11_moves_43 rfl (lv_at hl 0 rfl) ?_
  refine gf_X11_19 (pc := 44) X Y dX11_moves_44 ?_
  obtain ⟨C_47, e_47, h⟩ := bnd_s h
  refine call_vNv (pc := 47) (rest := []) [.int x1, .int x2, .ref (ad 8)] X Y (c_X4_tally x1 x2 8 tl8 e_47) sw_X11_149 (rv_X4 X Y) rfl ⟨rfl, rfl, Nat.le_of_ble_eq_true rfl, Nat.le_of_ble_eq_true rfl⟩ hl rfl (Nat.le_of_ble_eq_true rfl) dX11_moves_47 (fun H locs Y => ?_)
  refine lv_aload_n (pc := 50) hx hb dX11_moves_50 rfl (lv_at hl 0 rfl) ?_
  refine gf_X11_12 (pc := 51) X Y dX11_moves_51 ?_
  refine lv_iload_n (pc := 54) hx hb dX11_moves_54 rfl (lv_at hl 1 rfl) ?_
  refine lv_iload_n (pc := 55) hx hb dX11_moves_55 rfl (lv_at hl 2 rfl) ?_
  refine call_si (pc := 56) (rest := [.int v1, .ref (ad 1)]) [.int v2] X Y (c_X11_lessKind v2) sw_X11_184 rfl ⟨rfl, rfl, Nat.le_of_ble_eq_true rfl, Nat.le_of_ble_eq_true rfl⟩ hl rfl (Nat.le_of_ble_eq_true rfl) dX11_moves_56 (fun H locs Y => ?_)
  refine lv_aload_n (pc := 59) hx hb dX11_moves_59 rfl (lv_at hl 0 rfl) ?_
  refine gf_X11_23 (pc := 60) X Y dX11_moves_60 ?_
  obtain ⟨C_63, e_63, h⟩ := bnd_s h
  refine call_vNv (pc := 63) (rest := []) [.int v1, .int (f_X11_lessKind v2), .ref (ad 11)] X Y (c_X4_tally v1 (f_X11_lessKind v2) 11 tl11 e_63) sw_X11_149 (rv_X4 X Y) rfl ⟨rfl, rfl, Nat.le_of_ble_eq_true rfl, Nat.le_of_ble_eq_true rfl⟩ hl rfl (Nat.le_of_ble_eq_true rfl) dX11_moves_63 (fun H locs Y => ?_)
  refine lv_aload_n (pc := 66) hx hb dX11_moves_66 rfl (lv_at hl 0 rfl) ?_
  refine gf_X11_19 (pc := 67) X Y dX11_moves_67 ?_
  refine gf_X11_153 (pc := 70) X Y tl8 dX11_moves_70 ?_
  refine lv_if_eq (pc := 73) (tgt := 86) hx hb dX11_moves_73 (by decide) (fun c_73 => ?_) (fun c_73 => ?_)
  · have h := itp c_73 h
    exact WB_X11_moves_86  C_63 X Y (lv_sub hl [] rfl) h
  · have h := itn c_73 h
    refine lv_aload_n (pc := 76) hx hb dX11_moves_76 rfl (lv_at hl 0 rfl) ?_
    refine gf_X11_23 (pc := 77) X Y dX11_moves_77 ?_
    refine gf_X11_153 (pc := 80) X Y tl11 dX11_moves_80 ?_
    refine lv_if_ne (pc := 83) (tgt := 92) hx hb dX11_moves_83 (by decide) (fun c_83 => ?_) (fun c_83 => ?_)
    · have h := itn c_83 h
      refine lv_iload_n (pc := 92) hx hb dX11_moves_92 rfl (lv_at hl 2 rfl) ?_
      refine lv_iconst (pc := 93) (v := 2) hx hb dX11_moves_93 (by decide) ?_
      refine lv_icmp_ne (pc := 94) (tgt := 107) hx hb dX11_moves_94 (by decide) (fun c_94 => ?_) (fun c_94 => ?_)
      · have h := itn c_94 h
        refine lv_aload_n (pc := 107) hx hb dX11_moves_107 rfl (lv_at hl 0 rfl) ?_
        refine gf_X11_19 (pc := 108) X Y dX11_moves_108 ?_
        refine gf_X11_170 (pc := 111) X Y tl8 dX11_moves_111 ?_
        exact WB_X11_moves_114 (C_63 8 4) v2 v3 C_63 X Y (lv_sub hl [0, 2, 3] rfl) h
      · have h := itp c_94 h
        refine lv_aload_n (pc := 97) hx hb dX11_moves_97 rfl (lv_at hl 0 rfl) ?_
        refine gf_X11_19 (pc := 98) X Y dX11_moves_98 ?_
        refine gf_X11_156 (pc := 101) X Y tl8 dX11_moves_101 ?_
        refine lv_goto (pc := 104) (tgt := 114) hx hb dX11_moves_104 (by decide) ?_
        exact WB_X11_moves_114 (C_63 8 3) v2 v3 C_63 X Y (lv_sub hl [0, 2, 3] rfl) h
    · have h := itp c_83 h
      exact WB_X11_moves_86  C_63 X Y (lv_sub hl [] rfl) h
set_option maxHeartbeats 4000000 in
set_option maxRecDepth 100000 in
theorem c_X11_moves {r9 : Int64} {C9 : Mem} (v1 : Int32) (v2 : Int32) (v3 : Int32) (h : f_X11_moves v1 v2 v3 C = some (r9, C9)) : Ct l dC dI ad bd cI cZ yX11_moves cX11_moves 6 (some .long) rm_X11_moves [.ref (ad 0), .int v1, .int v2, .int v3] C D (some (.long r9)) C9 D := by
  unfold f_X11_moves at h
  refine Ct.intro (own := RX11) (by decide) rfl (Nat.le_of_ble_eq_true rfl) ?_
  intro p e s m args below meth c H locs ls X Y hl
  have hx := X.1
  have hb := X.2.1
  have hl : lv_has ls 6 [(0, .ref (ad 0)), (1, .int v1), (2, .int v2), (3, .int v3)] := hl
  refine lv_iload_n (pc := 0) hx hb dX11_moves_0 rfl (lv_at hl 1 rfl) ?_
  refine call_si (pc := 1) (rest := []) [.int v1] X Y (c_X11_isPeopleOrAll v1) sw_X11_142 rfl ⟨rfl, rfl, Nat.le_of_ble_eq_true rfl, Nat.le_of_ble_eq_true rfl⟩ hl rfl (Nat.le_of_ble_eq_true rfl) dX11_moves_1 (fun H locs Y => ?_)
  refine lv_if_eq (pc := 4) (tgt := 22) hx hb dX11_moves_4 (by decide) (fun c_4 => ?_) (fun c_4 => ?_)
  · have h := itn (b2i_f c_4) h
    exact WB_X11_moves_22  C X Y (lv_sub hl [] rfl) h
  · have h := itp (b2i_t c_4) h
    refine lv_iload_n (pc := 7) hx hb dX11_moves_7 rfl (lv_at hl 2 rfl) ?_
    refine lv_iconst (pc := 8) (v := 2) hx hb dX11_moves_8 (by decide) ?_
    refine call_si (pc := 9) (rest := []) [.int v2, .int 2] X Y (c_X11_isWithin v2 2) sw_X11_145 rfl ⟨rfl, rfl, Nat.le_of_ble_eq_true rfl, Nat.le_of_ble_eq_true rfl⟩ hl rfl (Nat.le_of_ble_eq_true rfl) dX11_moves_9 (fun H locs Y => ?_)
    refine lv_if_eq (pc := 12) (tgt := 22) hx hb dX11_moves_12 (by decide) (fun c_12 => ?_) (fun c_12 => ?_)
    · have h := itn (b2i_f c_12) h
      exact WB_X11_moves_22  C X Y (lv_sub hl [] rfl) h
    · have h := itp (b2i_t c_12) h
      refine lv_iload_n (pc := 15) hx hb dX11_moves_15 rfl (lv_at hl 3 rfl) ?_
      refine call_si (pc := 16) (rest := []) [.int v3] X Y (c_X11_isPart v3) sw_X11_163 rfl ⟨rfl, rfl, Nat.le_of_ble_eq_true rfl, Nat.le_of_ble_eq_true rfl⟩ hl rfl (Nat.le_of_ble_eq_true rfl) dX11_moves_16 (fun H locs Y => ?_)
      refine lv_if_ne (pc := 19) (tgt := 28) hx hb dX11_moves_19 (by decide) (fun c_19 => ?_) (fun c_19 => ?_)
      · have h := itp (b2i_t c_19) h
        refine lv_aload_n (pc := 28) hx hb dX11_moves_28 rfl (lv_at hl 0 rfl) ?_
        refine gf_X11_12 (pc := 29) X Y dX11_moves_29 ?_
        refine lv_iload_n (pc := 32) hx hb dX11_moves_32 rfl (lv_at hl 1 rfl) ?_
        refine lv_iload_n (pc := 33) hx hb dX11_moves_33 rfl (lv_at hl 2 rfl) ?_
        refine lv_iconst (pc := 34) (v := 1) hx hb dX11_moves_34 (by decide) ?_
        refine lv_icmp_ne (pc := 35) (tgt := 42) hx hb dX11_moves_35 (by decide) (fun c_35 => ?_) (fun c_35 => ?_)
        · have h := itn c_35 h
          refine lv_iconst (pc := 42) (v := 0) hx hb dX11_moves_42 (by decide) ?_
          exact WB_X11_moves_43 v1 0 v1 v2 v3 C X Y (lv_sub hl [0, 1, 2, 3] rfl) h
        · have h := itp c_35 h
          refine lv_iconst (pc := 38) (v := 3) hx hb dX11_moves_38 (by decide) ?_
          refine lv_goto (pc := 39) (tgt := 43) hx hb dX11_moves_39 (by decide) ?_
          exact WB_X11_moves_43 v1 3 v1 v2 v3 C X Y (lv_sub hl [0, 1, 2, 3] rfl) h
      · have h := itn (b2i_f c_19) h
        exact WB_X11_moves_22  C X Y (lv_sub hl [] rfl) h
abbrev rm_X11_row : Room := { frames := 2, cells := 0, slots := 0, locals := 41 }
set_option maxHeartbeats 4000000 in
set_option maxRecDepth 100000 in
theorem c_X11_row {r9 : Int32} {C9 : Mem} (v1 : Int32) (v2 : Int32) (h : f_X11_row v1 v2 C = some (r9, C9)) : Ct l dC dI ad bd cI cZ yX11_row cX11_row 3 (some .int) rm_X11_row [.ref (ad 0), .int v1, .int v2] C D (some (.int r9)) C9 D := by
  unfold f_X11_row at h
  refine Ct.intro (own := RX11) (by decide) rfl (Nat.le_of_ble_eq_true rfl) ?_
  intro p e s m args below meth c H locs ls X Y hl
  have hx := X.1
  have hb := X.2.1
  have hl : lv_has ls 3 [(0, .ref (ad 0)), (1, .int v1), (2, .int v2)] := hl
  refine lv_iload_n (pc := 0) hx hb dX11_row_0 rfl (lv_at hl 1 rfl) ?_
  refine call_si (pc := 1) (rest := []) [.int v1] X Y (c_X11_isPeople v1) sw_X11_89 rfl ⟨rfl, rfl, Nat.le_of_ble_eq_true rfl, Nat.le_of_ble_eq_true rfl⟩ hl rfl (Nat.le_of_ble_eq_true rfl) dX11_row_1 (fun H locs Y => ?_)
  refine lv_if_eq (pc := 4) (tgt := 17) hx hb dX11_row_4 (by decide) (fun c_4 => ?_) (fun c_4 => ?_)
  · have h := itn (b2i_f c_4) h
    refine lv_bipush (pc := 17) (v := (-2)) hx hb dX11_row_17 (by decide) ?_
    obtain ⟨hr9, hm9⟩ := ret_e h
    exact fin_i (pc := 19) X rfl Y hr9 hm9 rfl dX11_row_19
  · have h := itp (b2i_t c_4) h
    refine lv_iload_n (pc := 7) hx hb dX11_row_7 rfl (lv_at hl 2 rfl) ?_
    refine lv_sipush (pc := 8) (v := 2047) hx hb dX11_row_8 (by decide) ?_
    refine call_si (pc := 11) (rest := []) [.int v2, .int 2047] X Y (c_X11_isWithin v2 2047) sw_X11_145 rfl ⟨rfl, rfl, Nat.le_of_ble_eq_true rfl, Nat.le_of_ble_eq_true rfl⟩ hl rfl (Nat.le_of_ble_eq_true rfl) dX11_row_11 (fun H locs Y => ?_)
    refine lv_if_ne (pc := 14) (tgt := 20) hx hb dX11_row_14 (by decide) (fun c_14 => ?_) (fun c_14 => ?_)
    · have h := itp (b2i_t c_14) h
      refine lv_aload_n (pc := 20) hx hb dX11_row_20 rfl (lv_at hl 0 rfl) ?_
      refine gf_X11_29 (pc := 21) X Y dX11_row_21 ?_
      refine lv_iload_n (pc := 24) hx hb dX11_row_24 rfl (lv_at hl 1 rfl) ?_
      refine lv_iload_n (pc := 25) hx hb dX11_row_25 rfl (lv_at hl 2 rfl) ?_
      obtain ⟨r_26, C_26, e_26, h⟩ := bnd2_s h
      refine call_vNi (pc := 26) (rest := []) [.int v1, .int v2] X Y (c_X6_add v1 v2 e_26) sw_X11_187 (rv_X6 X Y) rfl ⟨rfl, rfl, Nat.le_of_ble_eq_true rfl, Nat.le_of_ble_eq_true rfl⟩ hl rfl (Nat.le_of_ble_eq_true rfl) dX11_row_26 (fun H locs Y => ?_)
      obtain ⟨hr9, hm9⟩ := ret_e h
      exact fin_i (pc := 29) X rfl Y hr9 hm9 rfl dX11_row_29
    · have h := itn (b2i_f c_14) h
      refine lv_bipush (pc := 17) (v := (-2)) hx hb dX11_row_17 (by decide) ?_
      obtain ⟨hr9, hm9⟩ := ret_e h
      exact fin_i (pc := 19) X rfl Y hr9 hm9 rfl dX11_row_19
abbrev rm_X11_line : Room := { frames := 2, cells := 0, slots := 0, locals := 45 }
set_option maxHeartbeats 4000000 in
set_option maxRecDepth 100000 in
theorem c_X11_line {r9 : Int32} {C9 : Mem} (v1 : Int32) (v2 : Int32) (h : f_X11_line v1 v2 C = some (r9, C9)) : Ct l dC dI ad bd cI cZ yX11_line cX11_line 3 (some .int) rm_X11_line [.ref (ad 0), .int v1, .int v2] C D (some (.int r9)) C9 D := by
  unfold f_X11_line at h
  refine Ct.intro (own := RX11) (by decide) rfl (Nat.le_of_ble_eq_true rfl) ?_
  intro p e s m args below meth c H locs ls X Y hl
  have hx := X.1
  have hb := X.2.1
  have hl : lv_has ls 3 [(0, .ref (ad 0)), (1, .int v1), (2, .int v2)] := hl
  refine lv_aload_n (pc := 0) hx hb dX11_line_0 rfl (lv_at hl 0 rfl) ?_
  refine gf_X11_29 (pc := 1) X Y dX11_line_1 ?_
  refine lv_iload_n (pc := 4) hx hb dX11_line_4 rfl (lv_at hl 1 rfl) ?_
  refine call_vNi (pc := 5) (rest := []) [.int v1] X Y (c_X6_has v1) sw_X11_189 (rv_X6 X Y) rfl ⟨rfl, rfl, Nat.le_of_ble_eq_true rfl, Nat.le_of_ble_eq_true rfl⟩ hl rfl (Nat.le_of_ble_eq_true rfl) dX11_line_5 (fun H locs Y => ?_)
  refine lv_if_eq (pc := 8) (tgt := 19) hx hb dX11_line_8 (by decide) (fun c_8 => ?_) (fun c_8 => ?_)
  · have h := itn (b2i_f c_8) h
    refine lv_bipush (pc := 19) (v := (-2)) hx hb dX11_line_19 (by decide) ?_
    obtain ⟨hr9, hm9⟩ := ret_e h
    exact fin_i (pc := 21) X rfl Y hr9 hm9 rfl dX11_line_21
  · have h := itp (b2i_t c_8) h
    refine lv_iload_n (pc := 11) hx hb dX11_line_11 rfl (lv_at hl 2 rfl) ?_
    refine lv_iconst (pc := 12) (v := 2) hx hb dX11_line_12 (by decide) ?_
    refine call_si (pc := 13) (rest := []) [.int v2, .int 2] X Y (c_X11_isWithin v2 2) sw_X11_145 rfl ⟨rfl, rfl, Nat.le_of_ble_eq_true rfl, Nat.le_of_ble_eq_true rfl⟩ hl rfl (Nat.le_of_ble_eq_true rfl) dX11_line_13 (fun H locs Y => ?_)
    refine lv_if_ne (pc := 16) (tgt := 22) hx hb dX11_line_16 (by decide) (fun c_16 => ?_) (fun c_16 => ?_)
    · have h := itp (b2i_t c_16) h
      refine lv_aload_n (pc := 22) hx hb dX11_line_22 rfl (lv_at hl 0 rfl) ?_
      refine gf_X11_29 (pc := 23) X Y dX11_line_23 ?_
      refine lv_iload_n (pc := 26) hx hb dX11_line_26 rfl (lv_at hl 1 rfl) ?_
      obtain ⟨C_27, e_27, h⟩ := bnd_s h
      refine call_vNv (pc := 27) (rest := []) [.int v1] X Y (c_X6_mend v1 e_27) sw_X11_190 (rv_X6 X Y) rfl ⟨rfl, rfl, Nat.le_of_ble_eq_true rfl, Nat.le_of_ble_eq_true rfl⟩ hl rfl (Nat.le_of_ble_eq_true rfl) dX11_line_27 (fun H locs Y => ?_)
      refine lv_iload_n (pc := 30) hx hb dX11_line_30 rfl (lv_at hl 2 rfl) ?_
      refine lv_if_ne (pc := 31) (tgt := 42) hx hb dX11_line_31 (by decide) (fun c_31 => ?_) (fun c_31 => ?_)
      · have h := itn c_31 h
        refine lv_iload_n (pc := 42) hx hb dX11_line_42 rfl (lv_at hl 2 rfl) ?_
        refine lv_iconst (pc := 43) (v := 1) hx hb dX11_line_43 (by decide) ?_
        refine lv_icmp_ne (pc := 44) (tgt := 57) hx hb dX11_line_44 (by decide) (fun c_44 => ?_) (fun c_44 => ?_)
        · have h := itn c_44 h
          refine lv_aload_n (pc := 57) hx hb dX11_line_57 rfl (lv_at hl 0 rfl) ?_
          refine gf_X11_29 (pc := 58) X Y dX11_line_58 ?_
          refine gf_X11_200 (pc := 61) X Y dX11_line_61 ?_
          obtain ⟨hr9, hm9⟩ := ret_e h
          exact fin_i (pc := 64) X rfl Y hr9 hm9 rfl dX11_line_64
        · have h := itp c_44 h
          refine lv_aload_n (pc := 47) hx hb dX11_line_47 rfl (lv_at hl 0 rfl) ?_
          refine gf_X11_29 (pc := 48) X Y dX11_line_48 ?_
          refine gf_X11_197 (pc := 51) X Y dX11_line_51 ?_
          refine lv_goto (pc := 54) (tgt := 64) hx hb dX11_line_54 (by decide) ?_
          obtain ⟨hr9, hm9⟩ := ret_e h
          exact fin_i (pc := 64) X rfl Y hr9 hm9 rfl dX11_line_64
      · have h := itp c_31 h
        refine lv_aload_n (pc := 34) hx hb dX11_line_34 rfl (lv_at hl 0 rfl) ?_
        refine gf_X11_29 (pc := 35) X Y dX11_line_35 ?_
        refine gf_X11_194 (pc := 38) X Y dX11_line_38 ?_
        obtain ⟨hr9, hm9⟩ := ret_e h
        exact fin_i (pc := 41) X rfl Y hr9 hm9 rfl dX11_line_41
    · have h := itn (b2i_f c_16) h
      refine lv_bipush (pc := 19) (v := (-2)) hx hb dX11_line_19 (by decide) ?_
      obtain ⟨hr9, hm9⟩ := ret_e h
      exact fin_i (pc := 21) X rfl Y hr9 hm9 rfl dX11_line_21
abbrev rm_X11_taken : Room := { frames := 3, cells := 0, slots := 0, locals := 61 }
set_option maxHeartbeats 4000000 in
set_option maxRecDepth 100000 in
theorem WB_X11_taken_21 {r9 : Int64} (C : Mem) (X : Cx p s m args meth c cX11_taken RX11 5 (some .long) dC dI ad bd cI cZ) {H : Heap} {locs : List Loc} {ls : Array Slot} (Y : Ys s dC dI ad bd cI cZ C D H locs) (hl : lv_has ls 5 []) (h : B_X11_taken_21 = some r9) : W p l e rm_X11_taken s m args below meth c H locs 0 0 (MQ below (QC (some (.long r9)) dC dI ad bd cI cZ C D) args s 0 0 (AD ad bd)) (F0 m 21 ls []) := by
  have hx := X.1
  have hb := X.2.1
  unfold B_X11_taken_21 at h
  refine lv_bipush (pc := 21) (v := (-2)) hx hb dX11_taken_21 (by decide) ?_
  refine call_sl (pc := 23) (rest := []) [.int (-2)] X Y (c_X11_asLong (-2)) sw_X11_166 rfl ⟨rfl, rfl, Nat.le_of_ble_eq_true rfl, Nat.le_of_ble_eq_true rfl⟩ hl rfl (Nat.le_of_ble_eq_true rfl) dX11_taken_23 (fun H locs Y => ?_)
  have hr9 := ret_p h
  exact fin_l (pc := 26) X rfl Y hr9 rfl rfl dX11_taken_26
set_option maxHeartbeats 4000000 in
set_option maxRecDepth 100000 in
theorem c_X11_taken {r9 : Int64} (v1 : Int32) (v2 : Int32) (v3 : Int32) (h : f_X11_taken v1 v2 v3 C = some r9) : Ct l dC dI ad bd cI cZ yX11_taken cX11_taken 5 (some .long) rm_X11_taken [.ref (ad 0), .int v1, .int v2, .int v3] C D (some (.long r9)) C D := by
  unfold f_X11_taken at h
  refine Ct.intro (own := RX11) (by decide) rfl (Nat.le_of_ble_eq_true rfl) ?_
  intro p e s m args below meth c H locs ls X Y hl
  have hx := X.1
  have hb := X.2.1
  have hl : lv_has ls 5 [(0, .ref (ad 0)), (1, .int v1), (2, .int v2), (3, .int v3)] := hl
  refine lv_iload_n (pc := 0) hx hb dX11_taken_0 rfl (lv_at hl 1 rfl) ?_
  refine call_si (pc := 1) (rest := []) [.int v1] X Y (c_X11_isPeopleOrAll v1) sw_X11_142 rfl ⟨rfl, rfl, Nat.le_of_ble_eq_true rfl, Nat.le_of_ble_eq_true rfl⟩ hl rfl (Nat.le_of_ble_eq_true rfl) dX11_taken_1 (fun H locs Y => ?_)
  refine lv_if_eq (pc := 4) (tgt := 21) hx hb dX11_taken_4 (by decide) (fun c_4 => ?_) (fun c_4 => ?_)
  · have h := itn (b2i_f c_4) h
    exact WB_X11_taken_21  C X Y (lv_sub hl [] rfl) h
  · have h := itp (b2i_t c_4) h
    refine lv_iload_n (pc := 7) hx hb dX11_taken_7 rfl (lv_at hl 2 rfl) ?_
    refine call_si (pc := 8) (rest := []) [.int v2] X Y (c_X11_isOffer v2) sw_X11_96 rfl ⟨rfl, rfl, Nat.le_of_ble_eq_true rfl, Nat.le_of_ble_eq_true rfl⟩ hl rfl (Nat.le_of_ble_eq_true rfl) dX11_taken_8 (fun H locs Y => ?_)
    refine lv_if_eq (pc := 11) (tgt := 21) hx hb dX11_taken_11 (by decide) (fun c_11 => ?_) (fun c_11 => ?_)
    · have h := itn (b2i_f c_11) h
      exact WB_X11_taken_21  C X Y (lv_sub hl [] rfl) h
    · have h := itp (b2i_t c_11) h
      refine lv_iload_n (pc := 14) hx hb dX11_taken_14 rfl (lv_at hl 3 rfl) ?_
      refine call_si (pc := 15) (rest := []) [.int v3] X Y (c_X11_isPart v3) sw_X11_163 rfl ⟨rfl, rfl, Nat.le_of_ble_eq_true rfl, Nat.le_of_ble_eq_true rfl⟩ hl rfl (Nat.le_of_ble_eq_true rfl) dX11_taken_15 (fun H locs Y => ?_)
      refine lv_if_ne (pc := 18) (tgt := 27) hx hb dX11_taken_18 (by decide) (fun c_18 => ?_) (fun c_18 => ?_)
      · have h := itp (b2i_t c_18) h
        refine lv_aload_n (pc := 27) hx hb dX11_taken_27 rfl (lv_at hl 0 rfl) ?_
        refine gf_X11_29 (pc := 28) X Y dX11_taken_28 ?_
        refine lv_iload_n (pc := 31) hx hb dX11_taken_31 rfl (lv_at hl 1 rfl) ?_
        obtain ⟨r_32, e_32, h⟩ := bnd_s h
        refine call_vNi (pc := 32) (rest := []) [.int v1] X Y (c_X6_howMany v1 e_32) sw_X11_203 (rv_X6 X Y) rfl ⟨rfl, rfl, Nat.le_of_ble_eq_true rfl, Nat.le_of_ble_eq_true rfl⟩ hl rfl (Nat.le_of_ble_eq_true rfl) dX11_taken_32 (fun H locs Y => ?_)
        refine lv_istore (pc := 35) (lv' := [(4, .int r_32), (0, .ref (ad 0)), (1, .int v1), (2, .int v2), (3, .int v3)]) hx hb dX11_taken_35 hl (by decide) rfl (fun ls hl => ?_)
        refine lv_iload (pc := 37) hx hb dX11_taken_37 (lv_at hl 0 rfl) ?_
        refine lv_if_ne (pc := 39) (tgt := 48) hx hb dX11_taken_39 (by decide) (fun c_39 => ?_) (fun c_39 => ?_)
        · have h := itn c_39 h
          refine lv_aload_n (pc := 48) hx hb dX11_taken_48 rfl (lv_at hl 1 rfl) ?_
          refine gf_X11_29 (pc := 49) X Y dX11_taken_49 ?_
          refine lv_iload_n (pc := 52) hx hb dX11_taken_52 rfl (lv_at hl 2 rfl) ?_
          refine lv_iload_n (pc := 53) hx hb dX11_taken_53 rfl (lv_at hl 3 rfl) ?_
          obtain ⟨r_54, e_54, h⟩ := bnd_s h
          refine call_vNi (pc := 54) (rest := []) [.int v1, .int v2] X Y (c_X6_yeses v1 v2 e_54) sw_X11_206 (rv_X6 X Y) rfl ⟨rfl, rfl, Nat.le_of_ble_eq_true rfl, Nat.le_of_ble_eq_true rfl⟩ hl rfl (Nat.le_of_ble_eq_true rfl) dX11_taken_54 (fun H locs Y => ?_)
          refine lv_i2l (pc := 57) hx hb dX11_taken_57 rfl ?_
          refine lv_iload (pc := 58) hx hb dX11_taken_58 (lv_at hl 0 rfl) ?_
          refine lv_i2l (pc := 60) hx hb dX11_taken_60 rfl ?_
          refine lv_iload_n (pc := 61) hx hb dX11_taken_61 rfl (lv_at hl 4 rfl) ?_
          obtain ⟨r_62, e_62, h⟩ := bnd_s h
          refine call_sl (pc := 62) (rest := []) [.long (r_54.toInt64), .long (r_32.toInt64), .int v3] X Y (c_X11_fraction (r_54.toInt64) (r_32.toInt64) v3 e_62) sw_X11_173 rfl ⟨rfl, rfl, Nat.le_of_ble_eq_true rfl, Nat.le_of_ble_eq_true rfl⟩ hl rfl (Nat.le_of_ble_eq_true rfl) dX11_taken_62 (fun H locs Y => ?_)
          have hr9 := ret_p h
          exact fin_l (pc := 65) X rfl Y hr9 rfl rfl dX11_taken_65
        · have h := itp c_39 h
          refine lv_bipush (pc := 42) (v := (-3)) hx hb dX11_taken_42 (by decide) ?_
          refine call_sl (pc := 44) (rest := []) [.int (-3)] X Y (c_X11_asLong (-3)) sw_X11_166 rfl ⟨rfl, rfl, Nat.le_of_ble_eq_true rfl, Nat.le_of_ble_eq_true rfl⟩ hl rfl (Nat.le_of_ble_eq_true rfl) dX11_taken_44 (fun H locs Y => ?_)
          have hr9 := ret_p h
          exact fin_l (pc := 47) X rfl Y hr9 rfl rfl dX11_taken_47
      · have h := itn (b2i_f c_18) h
        exact WB_X11_taken_21  C X Y (lv_sub hl [] rfl) h
abbrev rm_X11_best : Room := { frames := 4, cells := 0, slots := 0, locals := 90 }
set_option maxHeartbeats 4000000 in
set_option maxRecDepth 100000 in
theorem c_X11_best {r9 : Int32} {C9 : Mem} (v1 : Int32) (h : f_X11_best v1 C = some (r9, C9)) : Ct l dC dI ad bd cI cZ yX11_best cX11_best 2 (some .int) rm_X11_best [.ref (ad 0), .int v1] C D (some (.int r9)) C9 D := by
  unfold f_X11_best at h
  refine Ct.intro (own := RX11) (by decide) rfl (Nat.le_of_ble_eq_true rfl) ?_
  intro p e s m args below meth c H locs ls X Y hl
  have hx := X.1
  have hb := X.2.1
  have hl : lv_has ls 2 [(0, .ref (ad 0)), (1, .int v1)] := hl
  refine lv_iload_n (pc := 0) hx hb dX11_best_0 rfl (lv_at hl 1 rfl) ?_
  refine call_si (pc := 1) (rest := []) [.int v1] X Y (c_X11_isPeopleOrAll v1) sw_X11_142 rfl ⟨rfl, rfl, Nat.le_of_ble_eq_true rfl, Nat.le_of_ble_eq_true rfl⟩ hl rfl (Nat.le_of_ble_eq_true rfl) dX11_best_1 (fun H locs Y => ?_)
  refine lv_if_ne (pc := 4) (tgt := 10) hx hb dX11_best_4 (by decide) (fun c_4 => ?_) (fun c_4 => ?_)
  · have h := itp (b2i_t c_4) h
    refine lv_aload_n (pc := 10) hx hb dX11_best_10 rfl (lv_at hl 0 rfl) ?_
    refine gf_X11_29 (pc := 11) X Y dX11_best_11 ?_
    refine lv_iload_n (pc := 14) hx hb dX11_best_14 rfl (lv_at hl 1 rfl) ?_
    obtain ⟨r_15, e_15, h⟩ := bnd_s h
    refine call_vNi (pc := 15) (rest := []) [.int v1] X Y (c_X6_howMany v1 e_15) sw_X11_203 (rv_X6 X Y) rfl ⟨rfl, rfl, Nat.le_of_ble_eq_true rfl, Nat.le_of_ble_eq_true rfl⟩ hl rfl (Nat.le_of_ble_eq_true rfl) dX11_best_15 (fun H locs Y => ?_)
    refine lv_if_ne (pc := 18) (tgt := 26) hx hb dX11_best_18 (by decide) (fun c_18 => ?_) (fun c_18 => ?_)
    · have h := itn c_18 h
      refine lv_aload_n (pc := 26) hx hb dX11_best_26 rfl (lv_at hl 0 rfl) ?_
      refine gf_X11_29 (pc := 27) X Y dX11_best_27 ?_
      refine lv_iload_n (pc := 30) hx hb dX11_best_30 rfl (lv_at hl 1 rfl) ?_
      obtain ⟨r_31, C_31, e_31, h⟩ := bnd2_s h
      refine call_vNi (pc := 31) (rest := []) [.int v1] X Y (c_X6_bestOffer v1 e_31) sw_X11_209 (rv_X6 X Y) rfl ⟨rfl, rfl, Nat.le_of_ble_eq_true rfl, Nat.le_of_ble_eq_true rfl⟩ hl rfl (Nat.le_of_ble_eq_true rfl) dX11_best_31 (fun H locs Y => ?_)
      obtain ⟨hr9, hm9⟩ := ret_e h
      exact fin_i (pc := 34) X rfl Y hr9 hm9 rfl dX11_best_34
    · have h := itp c_18 h
      refine lv_bipush (pc := 21) (v := (-3)) hx hb dX11_best_21 (by decide) ?_
      refine lv_goto (pc := 23) (tgt := 34) hx hb dX11_best_23 (by decide) ?_
      obtain ⟨hr9, hm9⟩ := ret_e h
      exact fin_i (pc := 34) X rfl Y hr9 hm9 rfl dX11_best_34
  · have h := itn (b2i_f c_4) h
    refine lv_bipush (pc := 7) (v := (-2)) hx hb dX11_best_7 (by decide) ?_
    obtain ⟨hr9, hm9⟩ := ret_e h
    exact fin_i (pc := 9) X rfl Y hr9 hm9 rfl dX11_best_9
abbrev rm_X11_belief : Room := { frames := 2, cells := 0, slots := 0, locals := 41 }
set_option maxHeartbeats 4000000 in
set_option maxRecDepth 100000 in
theorem c_X11_belief {r9 : Int32} {C9 : Mem} (v1 : Int32) (h : f_X11_belief v1 C = some (r9, C9)) : Ct l dC dI ad bd cI cZ yX11_belief cX11_belief 2 (some .int) rm_X11_belief [.ref (ad 0), .int v1] C D (some (.int r9)) C9 D := by
  unfold f_X11_belief at h
  refine Ct.intro (own := RX11) (by decide) rfl (Nat.le_of_ble_eq_true rfl) ?_
  intro p e s m args below meth c H locs ls X Y hl
  have hx := X.1
  have hb := X.2.1
  have hl : lv_has ls 2 [(0, .ref (ad 0)), (1, .int v1)] := hl
  refine lv_iload_n (pc := 0) hx hb dX11_belief_0 rfl (lv_at hl 1 rfl) ?_
  refine call_si (pc := 1) (rest := []) [.int v1] X Y (c_X11_isPeople v1) sw_X11_89 rfl ⟨rfl, rfl, Nat.le_of_ble_eq_true rfl, Nat.le_of_ble_eq_true rfl⟩ hl rfl (Nat.le_of_ble_eq_true rfl) dX11_belief_1 (fun H locs Y => ?_)
  refine lv_if_ne (pc := 4) (tgt := 10) hx hb dX11_belief_4 (by decide) (fun c_4 => ?_) (fun c_4 => ?_)
  · have h := itp (b2i_t c_4) h
    refine lv_aload_n (pc := 10) hx hb dX11_belief_10 rfl (lv_at hl 0 rfl) ?_
    refine gf_X11_36 (pc := 11) X Y dX11_belief_11 ?_
    refine lv_iload_n (pc := 14) hx hb dX11_belief_14 rfl (lv_at hl 1 rfl) ?_
    obtain ⟨r_15, C_15, e_15, h⟩ := bnd2_s h
    refine call_vNi (pc := 15) (rest := []) [.int v1] X Y (c_X0_add v1 e_15) sw_X11_212 (rv_X0 X Y) rfl ⟨rfl, rfl, Nat.le_of_ble_eq_true rfl, Nat.le_of_ble_eq_true rfl⟩ hl rfl (Nat.le_of_ble_eq_true rfl) dX11_belief_15 (fun H locs Y => ?_)
    obtain ⟨hr9, hm9⟩ := ret_e h
    exact fin_i (pc := 18) X rfl Y hr9 hm9 rfl dX11_belief_18
  · have h := itn (b2i_f c_4) h
    refine lv_bipush (pc := 7) (v := (-2)) hx hb dX11_belief_7 (by decide) ?_
    obtain ⟨hr9, hm9⟩ := ret_e h
    exact fin_i (pc := 9) X rfl Y hr9 hm9 rfl dX11_belief_9
abbrev rm_X11_believe : Room := { frames := 2, cells := 0, slots := 0, locals := 46 }
set_option maxHeartbeats 4000000 in
set_option maxRecDepth 100000 in
theorem c_X11_believe {r9 : Int32} {C9 : Mem} (v1 : Int32) (v2 : Int32) (v3 : Int32) (h : f_X11_believe v1 v2 v3 C = some (r9, C9)) : Ct l dC dI ad bd cI cZ yX11_believe cX11_believe 4 (some .int) rm_X11_believe [.ref (ad 0), .int v1, .int v2, .int v3] C D (some (.int r9)) C9 D := by
  unfold f_X11_believe at h
  refine Ct.intro (own := RX11) (by decide) rfl (Nat.le_of_ble_eq_true rfl) ?_
  intro p e s m args below meth c H locs ls X Y hl
  have hx := X.1
  have hb := X.2.1
  have hl : lv_has ls 4 [(0, .ref (ad 0)), (1, .int v1), (2, .int v2), (3, .int v3)] := hl
  refine lv_aload_n (pc := 0) hx hb dX11_believe_0 rfl (lv_at hl 0 rfl) ?_
  refine gf_X11_36 (pc := 1) X Y dX11_believe_1 ?_
  refine lv_iload_n (pc := 4) hx hb dX11_believe_4 rfl (lv_at hl 1 rfl) ?_
  refine call_vNi (pc := 5) (rest := []) [.int v1] X Y (c_X0_has v1) sw_X11_214 (rv_X0 X Y) rfl ⟨rfl, rfl, Nat.le_of_ble_eq_true rfl, Nat.le_of_ble_eq_true rfl⟩ hl rfl (Nat.le_of_ble_eq_true rfl) dX11_believe_5 (fun H locs Y => ?_)
  refine lv_if_eq (pc := 8) (tgt := 27) hx hb dX11_believe_8 (by decide) (fun c_8 => ?_) (fun c_8 => ?_)
  · have h := itn (b2i_f c_8) h
    refine lv_bipush (pc := 27) (v := (-2)) hx hb dX11_believe_27 (by decide) ?_
    obtain ⟨hr9, hm9⟩ := ret_e h
    exact fin_i (pc := 29) X rfl Y hr9 hm9 rfl dX11_believe_29
  · have h := itp (b2i_t c_8) h
    refine lv_iload_n (pc := 11) hx hb dX11_believe_11 rfl (lv_at hl 2 rfl) ?_
    refine call_si (pc := 12) (rest := []) [.int v2] X Y (c_X11_isOffer v2) sw_X11_96 rfl ⟨rfl, rfl, Nat.le_of_ble_eq_true rfl, Nat.le_of_ble_eq_true rfl⟩ hl rfl (Nat.le_of_ble_eq_true rfl) dX11_believe_12 (fun H locs Y => ?_)
    refine lv_if_eq (pc := 15) (tgt := 27) hx hb dX11_believe_15 (by decide) (fun c_15 => ?_) (fun c_15 => ?_)
    · have h := itn (b2i_f c_15) h
      refine lv_bipush (pc := 27) (v := (-2)) hx hb dX11_believe_27 (by decide) ?_
      obtain ⟨hr9, hm9⟩ := ret_e h
      exact fin_i (pc := 29) X rfl Y hr9 hm9 rfl dX11_believe_29
    · have h := itp (b2i_t c_15) h
      refine lv_iload_n (pc := 18) hx hb dX11_believe_18 rfl (lv_at hl 3 rfl) ?_
      refine lv_bipush (pc := 19) (v := 10) hx hb dX11_believe_19 (by decide) ?_
      refine call_si (pc := 21) (rest := []) [.int v3, .int 10] X Y (c_X11_isWithin v3 10) sw_X11_145 rfl ⟨rfl, rfl, Nat.le_of_ble_eq_true rfl, Nat.le_of_ble_eq_true rfl⟩ hl rfl (Nat.le_of_ble_eq_true rfl) dX11_believe_21 (fun H locs Y => ?_)
      refine lv_if_ne (pc := 24) (tgt := 30) hx hb dX11_believe_24 (by decide) (fun c_24 => ?_) (fun c_24 => ?_)
      · have h := itp (b2i_t c_24) h
        refine lv_aload_n (pc := 30) hx hb dX11_believe_30 rfl (lv_at hl 0 rfl) ?_
        refine gf_X11_36 (pc := 31) X Y dX11_believe_31 ?_
        refine lv_iload_n (pc := 34) hx hb dX11_believe_34 rfl (lv_at hl 1 rfl) ?_
        refine lv_iload_n (pc := 35) hx hb dX11_believe_35 rfl (lv_at hl 2 rfl) ?_
        refine lv_iload_n (pc := 36) hx hb dX11_believe_36 rfl (lv_at hl 3 rfl) ?_
        obtain ⟨r_37, C_37, e_37, h⟩ := bnd2_s h
        refine call_vNi (pc := 37) (rest := []) [.int v1, .int v2, .int v3] X Y (c_X0_change v1 v2 v3 e_37) sw_X11_215 (rv_X0 X Y) rfl ⟨rfl, rfl, Nat.le_of_ble_eq_true rfl, Nat.le_of_ble_eq_true rfl⟩ hl rfl (Nat.le_of_ble_eq_true rfl) dX11_believe_37 (fun H locs Y => ?_)
        obtain ⟨hr9, hm9⟩ := ret_e h
        exact fin_i (pc := 40) X rfl Y hr9 hm9 rfl dX11_believe_40
      · have h := itn (b2i_f c_24) h
        refine lv_bipush (pc := 27) (v := (-2)) hx hb dX11_believe_27 (by decide) ?_
        obtain ⟨hr9, hm9⟩ := ret_e h
        exact fin_i (pc := 29) X rfl Y hr9 hm9 rfl dX11_believe_29
abbrev rm_X11_hisBest : Room := { frames := 2, cells := 0, slots := 0, locals := 44 }
set_option maxHeartbeats 4000000 in
set_option maxRecDepth 100000 in
theorem c_X11_hisBest {r9 : Int32} {C9 : Mem} (v1 : Int32) (h : f_X11_hisBest v1 C = some (r9, C9)) : Ct l dC dI ad bd cI cZ yX11_hisBest cX11_hisBest 2 (some .int) rm_X11_hisBest [.ref (ad 0), .int v1] C D (some (.int r9)) C9 D := by
  unfold f_X11_hisBest at h
  refine Ct.intro (own := RX11) (by decide) rfl (Nat.le_of_ble_eq_true rfl) ?_
  intro p e s m args below meth c H locs ls X Y hl
  have hx := X.1
  have hb := X.2.1
  have hl : lv_has ls 2 [(0, .ref (ad 0)), (1, .int v1)] := hl
  refine lv_aload_n (pc := 0) hx hb dX11_hisBest_0 rfl (lv_at hl 0 rfl) ?_
  refine gf_X11_36 (pc := 1) X Y dX11_hisBest_1 ?_
  refine lv_iload_n (pc := 4) hx hb dX11_hisBest_4 rfl (lv_at hl 1 rfl) ?_
  refine call_vNi (pc := 5) (rest := []) [.int v1] X Y (c_X0_has v1) sw_X11_214 (rv_X0 X Y) rfl ⟨rfl, rfl, Nat.le_of_ble_eq_true rfl, Nat.le_of_ble_eq_true rfl⟩ hl rfl (Nat.le_of_ble_eq_true rfl) dX11_hisBest_5 (fun H locs Y => ?_)
  refine lv_if_ne (pc := 8) (tgt := 14) hx hb dX11_hisBest_8 (by decide) (fun c_8 => ?_) (fun c_8 => ?_)
  · have h := itp (b2i_t c_8) h
    refine lv_aload_n (pc := 14) hx hb dX11_hisBest_14 rfl (lv_at hl 0 rfl) ?_
    refine gf_X11_36 (pc := 15) X Y dX11_hisBest_15 ?_
    refine lv_iload_n (pc := 18) hx hb dX11_hisBest_18 rfl (lv_at hl 1 rfl) ?_
    obtain ⟨r_19, C_19, e_19, h⟩ := bnd2_s h
    refine call_vNi (pc := 19) (rest := []) [.int v1] X Y (c_X0_bestOffer v1 e_19) sw_X11_219 (rv_X0 X Y) rfl ⟨rfl, rfl, Nat.le_of_ble_eq_true rfl, Nat.le_of_ble_eq_true rfl⟩ hl rfl (Nat.le_of_ble_eq_true rfl) dX11_hisBest_19 (fun H locs Y => ?_)
    obtain ⟨hr9, hm9⟩ := ret_e h
    exact fin_i (pc := 22) X rfl Y hr9 hm9 rfl dX11_hisBest_22
  · have h := itn (b2i_f c_8) h
    refine lv_bipush (pc := 11) (v := (-2)) hx hb dX11_hisBest_11 (by decide) ?_
    obtain ⟨hr9, hm9⟩ := ret_e h
    exact fin_i (pc := 13) X rfl Y hr9 hm9 rfl dX11_hisBest_13
abbrev rm_X11_amountsOff : Room := { frames := 2, cells := 0, slots := 0, locals := 46 }
set_option maxHeartbeats 4000000 in
set_option maxRecDepth 100000 in
theorem WL_X11_amountsOff_6 {r9 : Int32} (v1 : Int32) (v2 : Int32) (v3 : Int32) (C : Mem) (X : Cx p s m args meth c cX11_amountsOff RX11 6 (some .int) dC dI ad bd cI cZ) {kx : Int32 → Option Int32} (hkx : ∀ (v4' : Int32) (H : Heap) (locs : List Loc) (ls : Array Slot), Ys s dC dI ad bd cI cZ C D H locs → lv_has ls 6 [(4, .int v4')] → kx v4' = some r9 → W p l e rm_X11_amountsOff s m args below meth c H locs 0 0 (MQ below (QC (some (.int r9)) dC dI ad bd cI cZ C D) args s 0 0 (AD ad bd)) (F0 m 53 ls [])) : ∀ (n_ : Nat) (v4 : Int32) (v5 : Int32) (H : Heap) (locs : List Loc) (ls : Array Slot), Ys s dC dI ad bd cI cZ C D H locs → lv_has ls 6 [(0, .ref (ad 0)), (1, .int v1), (2, .int v2), (3, .int v3), (4, .int v4), (5, .int v5)] → L_X11_amountsOff_6 v1 v2 v3 C kx n_ v4 v5 = some r9 → W p l e rm_X11_amountsOff s m args below meth c H locs 0 0 (MQ below (QC (some (.int r9)) dC dI ad bd cI cZ C D) args s 0 0 (AD ad bd)) (F0 m 6 ls []) := by
  have hx := X.1
  have hb := X.2.1
  intro n_
  induction n_ with
  | zero =>
    intro v4 v5 H locs ls Y hl h
    cases h
  | succ n_ ih =>
    intro v4 v5 H locs ls Y hl h
    unfold L_X11_amountsOff_6 at h
    refine lv_iload (pc := 6) hx hb dX11_amountsOff_6 (lv_at hl 5 rfl) ?_
    refine lv_bipush (pc := 8) (v := 11) hx hb dX11_amountsOff_8 (by decide) ?_
    refine lv_icmp_ge (pc := 10) (tgt := 53) hx hb dX11_amountsOff_10 (by decide) (fun c_10 => ?_) (fun c_10 => ?_)
    · have h := itp c_10 h
      exact hkx v4 H locs ls Y (lv_sub hl [4] rfl) h
    · have h := itn c_10 h
      refine lv_iload (pc := 13) hx hb dX11_amountsOff_13 (lv_at hl 4 rfl) ?_
      refine lv_aload_n (pc := 15) hx hb dX11_amountsOff_15 rfl (lv_at hl 0 rfl) ?_
      refine gf_X11_36 (pc := 16) X Y dX11_amountsOff_16 ?_
      refine lv_iload_n (pc := 19) hx hb dX11_amountsOff_19 rfl (lv_at hl 1 rfl) ?_
      refine lv_iload (pc := 20) hx hb dX11_amountsOff_20 (lv_at hl 5 rfl) ?_
      obtain ⟨r_22, e_22, h⟩ := bnd_s h
      refine call_vNi (pc := 22) (rest := [.int v4]) [.int v1, .int v5] X Y (c_X0_said v1 v5 e_22) sw_X11_229 (rv_X0 X Y) rfl ⟨rfl, rfl, Nat.le_of_ble_eq_true rfl, Nat.le_of_ble_eq_true rfl⟩ hl rfl (Nat.le_of_ble_eq_true rfl) dX11_amountsOff_22 (fun H locs Y => ?_)
      refine lv_iload_n (pc := 25) hx hb dX11_amountsOff_25 rfl (lv_at hl 3 rfl) ?_
      refine lv_imul (pc := 26) hx hb dX11_amountsOff_26 ?_
      refine lv_bipush (pc := 27) (v := 10) hx hb dX11_amountsOff_27 (by decide) ?_
      refine lv_aload_n (pc := 29) hx hb dX11_amountsOff_29 rfl (lv_at hl 0 rfl) ?_
      refine gf_X11_29 (pc := 30) X Y dX11_amountsOff_30 ?_
      refine lv_iload_n (pc := 33) hx hb dX11_amountsOff_33 rfl (lv_at hl 2 rfl) ?_
      refine lv_iload (pc := 34) hx hb dX11_amountsOff_34 (lv_at hl 5 rfl) ?_
      obtain ⟨r_36, e_36, h⟩ := bnd_s h
      refine call_vNi (pc := 36) (rest := [.int 10, .int (r_22 * v3), .int v4]) [.int v2, .int v5] X Y (c_X6_yeses v2 v5 e_36) sw_X11_206 (rv_X6 X Y) rfl ⟨rfl, rfl, Nat.le_of_ble_eq_true rfl, Nat.le_of_ble_eq_true rfl⟩ hl rfl (Nat.le_of_ble_eq_true rfl) dX11_amountsOff_36 (fun H locs Y => ?_)
      refine lv_imul (pc := 39) hx hb dX11_amountsOff_39 ?_
      refine lv_isub (pc := 40) hx hb dX11_amountsOff_40 ?_
      refine r_mabs (pc := 41) X w_X11_232 hl (Nat.le_of_ble_eq_true rfl) (Nat.le_of_ble_eq_true rfl) dX11_amountsOff_41 ?_
      refine lv_iadd (pc := 44) hx hb dX11_amountsOff_44 ?_
      obtain ⟨v4_45, ev4_45, h⟩ := lt_s_ h
      refine top_i ev4_45 ?_
      refine lv_istore (pc := 45) (lv' := [(4, .int v4_45), (0, .ref (ad 0)), (1, .int v1), (2, .int v2), (3, .int v3), (5, .int v5)]) hx hb dX11_amountsOff_45 hl (by decide) rfl (fun ls hl => ?_)
      obtain ⟨v5_47, ev5_47, h⟩ := lt_s_ h
      refine lv_iinc (pc := 47) (v := v5_47) (lv' := [(5, .int v5_47), (4, .int v4_45), (0, .ref (ad 0)), (1, .int v1), (2, .int v2), (3, .int v3)]) hx hb dX11_amountsOff_47 hl (k := 5) rfl (by rw [ev5_47]; rfl) (by decide) rfl (fun ls hl => ?_)
      refine lv_goto (pc := 50) (tgt := 6) hx hb dX11_amountsOff_50 (by decide) ?_
      exact ih v4_45 v5_47 H locs ls Y (lv_sub hl [2, 3, 4, 5, 1, 0] rfl) h
set_option maxHeartbeats 4000000 in
set_option maxRecDepth 100000 in
theorem c_X11_amountsOff {r9 : Int32} (v1 : Int32) (v2 : Int32) (v3 : Int32) (h : f_X11_amountsOff v1 v2 v3 C = some r9) : Ct l dC dI ad bd cI cZ yX11_amountsOff cX11_amountsOff 6 (some .int) rm_X11_amountsOff [.ref (ad 0), .int v1, .int v2, .int v3] C D (some (.int r9)) C D := by
  unfold f_X11_amountsOff at h
  refine Ct.intro (own := RX11) (by decide) rfl (Nat.le_of_ble_eq_true rfl) ?_
  intro p e s m args below meth c H locs ls X Y hl
  have hx := X.1
  have hb := X.2.1
  have hl : lv_has ls 6 [(0, .ref (ad 0)), (1, .int v1), (2, .int v2), (3, .int v3)] := hl
  refine lv_iconst (pc := 0) (v := 0) hx hb dX11_amountsOff_0 (by decide) ?_
  refine lv_istore (pc := 1) (lv' := [(4, .int 0), (0, .ref (ad 0)), (1, .int v1), (2, .int v2), (3, .int v3)]) hx hb dX11_amountsOff_1 hl (by decide) rfl (fun ls hl => ?_)
  refine lv_iconst (pc := 3) (v := 0) hx hb dX11_amountsOff_3 (by decide) ?_
  refine lv_istore (pc := 4) (lv' := [(5, .int 0), (4, .int 0), (0, .ref (ad 0)), (1, .int v1), (2, .int v2), (3, .int v3)]) hx hb dX11_amountsOff_4 hl (by decide) rfl (fun ls hl => ?_)
  refine WL_X11_amountsOff_6 v1 v2 v3 C X (fun v4_53 H locs ls Y hl h => ?_) FU 0 0 H locs ls Y (lv_sub hl [2, 3, 4, 5, 1, 0] rfl) h
  refine lv_iload (pc := 53) hx hb dX11_amountsOff_53 (lv_at hl 0 rfl) ?_
  have hr9 := ret_p h
  exact fin_i (pc := 55) X rfl Y hr9 rfl rfl dX11_amountsOff_55
abbrev rm_X11_off : Room := { frames := 4, cells := 0, slots := 0, locals := 90 }
set_option maxHeartbeats 4000000 in
set_option maxRecDepth 100000 in
theorem WB_X11_off_26 {r9 : Int64} {C9 : Mem} (C : Mem) (X : Cx p s m args meth c cX11_off RX11 7 (some .long) dC dI ad bd cI cZ) {H : Heap} {locs : List Loc} {ls : Array Slot} (Y : Ys s dC dI ad bd cI cZ C D H locs) (hl : lv_has ls 7 []) (h : B_X11_off_26 C = some (r9, C9)) : W p l e rm_X11_off s m args below meth c H locs 0 0 (MQ below (QC (some (.long r9)) dC dI ad bd cI cZ C9 D) args s 0 0 (AD ad bd)) (F0 m 26 ls []) := by
  have hx := X.1
  have hb := X.2.1
  unfold B_X11_off_26 at h
  refine lv_bipush (pc := 26) (v := (-2)) hx hb dX11_off_26 (by decide) ?_
  refine call_sl (pc := 28) (rest := []) [.int (-2)] X Y (c_X11_asLong (-2)) sw_X11_166 rfl ⟨rfl, rfl, Nat.le_of_ble_eq_true rfl, Nat.le_of_ble_eq_true rfl⟩ hl rfl (Nat.le_of_ble_eq_true rfl) dX11_off_28 (fun H locs Y => ?_)
  obtain ⟨hr9, hm9⟩ := ret_e h
  exact fin_l (pc := 31) X rfl Y hr9 hm9 rfl dX11_off_31
set_option maxHeartbeats 4000000 in
set_option maxRecDepth 100000 in
theorem c_X11_off {r9 : Int64} {C9 : Mem} (v1 : Int32) (v2 : Int32) (v3 : Int32) (h : f_X11_off v1 v2 v3 C = some (r9, C9)) : Ct l dC dI ad bd cI cZ yX11_off cX11_off 7 (some .long) rm_X11_off [.ref (ad 0), .int v1, .int v2, .int v3] C D (some (.long r9)) C9 D := by
  unfold f_X11_off at h
  refine Ct.intro (own := RX11) (by decide) rfl (Nat.le_of_ble_eq_true rfl) ?_
  intro p e s m args below meth c H locs ls X Y hl
  have hx := X.1
  have hb := X.2.1
  have hl : lv_has ls 7 [(0, .ref (ad 0)), (1, .int v1), (2, .int v2), (3, .int v3)] := hl
  refine lv_aload_n (pc := 0) hx hb dX11_off_0 rfl (lv_at hl 0 rfl) ?_
  refine gf_X11_36 (pc := 1) X Y dX11_off_1 ?_
  refine lv_iload_n (pc := 4) hx hb dX11_off_4 rfl (lv_at hl 1 rfl) ?_
  refine call_vNi (pc := 5) (rest := []) [.int v1] X Y (c_X0_has v1) sw_X11_214 (rv_X0 X Y) rfl ⟨rfl, rfl, Nat.le_of_ble_eq_true rfl, Nat.le_of_ble_eq_true rfl⟩ hl rfl (Nat.le_of_ble_eq_true rfl) dX11_off_5 (fun H locs Y => ?_)
  refine lv_if_eq (pc := 8) (tgt := 26) hx hb dX11_off_8 (by decide) (fun c_8 => ?_) (fun c_8 => ?_)
  · have h := itn (b2i_f c_8) h
    exact WB_X11_off_26  C X Y (lv_sub hl [] rfl) h
  · have h := itp (b2i_t c_8) h
    refine lv_iload_n (pc := 11) hx hb dX11_off_11 rfl (lv_at hl 2 rfl) ?_
    refine lv_iconst (pc := 12) (v := 1) hx hb dX11_off_12 (by decide) ?_
    refine call_si (pc := 13) (rest := []) [.int v2, .int 1] X Y (c_X11_isWithin v2 1) sw_X11_145 rfl ⟨rfl, rfl, Nat.le_of_ble_eq_true rfl, Nat.le_of_ble_eq_true rfl⟩ hl rfl (Nat.le_of_ble_eq_true rfl) dX11_off_13 (fun H locs Y => ?_)
    refine lv_if_eq (pc := 16) (tgt := 26) hx hb dX11_off_16 (by decide) (fun c_16 => ?_) (fun c_16 => ?_)
    · have h := itn (b2i_f c_16) h
      exact WB_X11_off_26  C X Y (lv_sub hl [] rfl) h
    · have h := itp (b2i_t c_16) h
      refine lv_iload_n (pc := 19) hx hb dX11_off_19 rfl (lv_at hl 3 rfl) ?_
      refine call_si (pc := 20) (rest := []) [.int v3] X Y (c_X11_isPart v3) sw_X11_163 rfl ⟨rfl, rfl, Nat.le_of_ble_eq_true rfl, Nat.le_of_ble_eq_true rfl⟩ hl rfl (Nat.le_of_ble_eq_true rfl) dX11_off_20 (fun H locs Y => ?_)
      refine lv_if_ne (pc := 23) (tgt := 32) hx hb dX11_off_23 (by decide) (fun c_23 => ?_) (fun c_23 => ?_)
      · have h := itp (b2i_t c_23) h
        refine lv_aload_n (pc := 32) hx hb dX11_off_32 rfl (lv_at hl 0 rfl) ?_
        refine gf_X11_36 (pc := 33) X Y dX11_off_33 ?_
        refine gf_X11_220 (pc := 36) X Y dX11_off_36 ?_
        refine lv_iload_n (pc := 39) hx hb dX11_off_39 rfl (lv_at hl 1 rfl) ?_
        obtain ⟨g_40, h⟩ := gd_s h
        refine r_ialdc (pc := 40) X Y (ca_19 ad cI) g_40 dX11_off_40 ?_
        obtain ⟨v4_41, ev4_41, h⟩ := lt_s_ h
        refine top_i ev4_41 ?_
        refine lv_istore (pc := 41) (lv' := [(4, .int v4_41), (0, .ref (ad 0)), (1, .int v1), (2, .int v2), (3, .int v3)]) hx hb dX11_off_41 hl (by decide) rfl (fun ls hl => ?_)
        refine lv_aload_n (pc := 43) hx hb dX11_off_43 rfl (lv_at hl 1 rfl) ?_
        refine gf_X11_29 (pc := 44) X Y dX11_off_44 ?_
        refine lv_iload (pc := 47) hx hb dX11_off_47 (lv_at hl 0 rfl) ?_
        obtain ⟨r_49, e_49, h⟩ := bnd_s h
        refine call_vNi (pc := 49) (rest := []) [.int v4_41] X Y (c_X6_howMany v4_41 e_49) sw_X11_203 (rv_X6 X Y) rfl ⟨rfl, rfl, Nat.le_of_ble_eq_true rfl, Nat.le_of_ble_eq_true rfl⟩ hl rfl (Nat.le_of_ble_eq_true rfl) dX11_off_49 (fun H locs Y => ?_)
        refine lv_istore (pc := 52) (lv' := [(5, .int r_49), (4, .int v4_41), (0, .ref (ad 0)), (1, .int v1), (2, .int v2), (3, .int v3)]) hx hb dX11_off_52 hl (by decide) rfl (fun ls hl => ?_)
        refine lv_iload (pc := 54) hx hb dX11_off_54 (lv_at hl 0 rfl) ?_
        refine lv_if_ne (pc := 56) (tgt := 65) hx hb dX11_off_56 (by decide) (fun c_56 => ?_) (fun c_56 => ?_)
        · have h := itn c_56 h
          refine lv_iload_n (pc := 65) hx hb dX11_off_65 rfl (lv_at hl 4 rfl) ?_
          refine lv_if_ne (pc := 66) (tgt := 90) hx hb dX11_off_66 (by decide) (fun c_66 => ?_) (fun c_66 => ?_)
          · have h := itn c_66 h
            refine lv_aload_n (pc := 90) hx hb dX11_off_90 rfl (lv_at hl 2 rfl) ?_
            refine gf_X11_29 (pc := 91) X Y dX11_off_91 ?_
            refine lv_iload (pc := 94) hx hb dX11_off_94 (lv_at hl 1 rfl) ?_
            refine lv_aload_n (pc := 96) hx hb dX11_off_96 rfl (lv_at hl 2 rfl) ?_
            refine gf_X11_29 (pc := 97) X Y dX11_off_97 ?_
            refine lv_iload (pc := 100) hx hb dX11_off_100 (lv_at hl 1 rfl) ?_
            obtain ⟨r_102, C_102, e_102, h⟩ := bnd2_s h
            refine call_vNi (pc := 102) (rest := [.int v4_41, .ref (ad 14)]) [.int v4_41] X Y (c_X6_bestOffer v4_41 e_102) sw_X11_209 (rv_X6 X Y) rfl ⟨rfl, rfl, Nat.le_of_ble_eq_true rfl, Nat.le_of_ble_eq_true rfl⟩ hl rfl (Nat.le_of_ble_eq_true rfl) dX11_off_102 (fun H locs Y => ?_)
            obtain ⟨r_105, e_105, h⟩ := bnd_s h
            refine call_vNi (pc := 105) (rest := []) [.int v4_41, .int r_102] X Y (c_X6_bring v4_41 r_102 e_105) sw_X11_226 (rv_X6 X Y) rfl ⟨rfl, rfl, Nat.le_of_ble_eq_true rfl, Nat.le_of_ble_eq_true rfl⟩ hl rfl (Nat.le_of_ble_eq_true rfl) dX11_off_105 (fun H locs Y => ?_)
            refine lv_aload_n (pc := 108) hx hb dX11_off_108 rfl (lv_at hl 2 rfl) ?_
            refine gf_X11_29 (pc := 109) X Y dX11_off_109 ?_
            refine lv_iload (pc := 112) hx hb dX11_off_112 (lv_at hl 1 rfl) ?_
            refine lv_aload_n (pc := 114) hx hb dX11_off_114 rfl (lv_at hl 2 rfl) ?_
            refine gf_X11_36 (pc := 115) X Y dX11_off_115 ?_
            refine lv_iload_n (pc := 118) hx hb dX11_off_118 rfl (lv_at hl 3 rfl) ?_
            obtain ⟨r_119, C_119, e_119, h⟩ := bnd2_s h
            refine call_vNi (pc := 119) (rest := [.int v4_41, .ref (ad 14), .int r_105]) [.int v1] X Y (c_X0_bestOffer v1 e_119) sw_X11_219 (rv_X0 X Y) rfl ⟨rfl, rfl, Nat.le_of_ble_eq_true rfl, Nat.le_of_ble_eq_true rfl⟩ hl rfl (Nat.le_of_ble_eq_true rfl) dX11_off_119 (fun H locs Y => ?_)
            obtain ⟨r_122, e_122, h⟩ := bnd_s h
            refine call_vNi (pc := 122) (rest := [.int r_105]) [.int v4_41, .int r_119] X Y (c_X6_bring v4_41 r_119 e_122) sw_X11_226 (rv_X6 X Y) rfl ⟨rfl, rfl, Nat.le_of_ble_eq_true rfl, Nat.le_of_ble_eq_true rfl⟩ hl rfl (Nat.le_of_ble_eq_true rfl) dX11_off_122 (fun H locs Y => ?_)
            refine lv_isub (pc := 125) hx hb dX11_off_125 ?_
            obtain ⟨v6_126, ev6_126, h⟩ := lt_s_ h
            refine top_i ev6_126 ?_
            refine lv_istore (pc := 126) (lv' := [(6, .int v6_126), (5, .int r_49), (4, .int v4_41), (0, .ref (ad 0)), (1, .int v1), (2, .int v2), (3, .int v3)]) hx hb dX11_off_126 hl (by decide) rfl (fun ls hl => ?_)
            refine lv_iload (pc := 128) hx hb dX11_off_128 (lv_at hl 0 rfl) ?_
            refine lv_i2l (pc := 130) hx hb dX11_off_130 rfl ?_
            refine lv_iload (pc := 131) hx hb dX11_off_131 (lv_at hl 1 rfl) ?_
            refine lv_i2l (pc := 133) hx hb dX11_off_133 rfl ?_
            refine lv_iload_n (pc := 134) hx hb dX11_off_134 rfl (lv_at hl 6 rfl) ?_
            obtain ⟨r_135, e_135, h⟩ := bnd_s h
            refine call_sl (pc := 135) (rest := []) [.long (v6_126.toInt64), .long (r_49.toInt64), .int v3] X Y (c_X11_fraction (v6_126.toInt64) (r_49.toInt64) v3 e_135) sw_X11_173 rfl ⟨rfl, rfl, Nat.le_of_ble_eq_true rfl, Nat.le_of_ble_eq_true rfl⟩ hl rfl (Nat.le_of_ble_eq_true rfl) dX11_off_135 (fun H locs Y => ?_)
            obtain ⟨hr9, hm9⟩ := ret_e h
            exact fin_l (pc := 138) X rfl Y hr9 hm9 rfl dX11_off_138
          · have h := itp c_66 h
            refine lv_aload_n (pc := 69) hx hb dX11_off_69 rfl (lv_at hl 2 rfl) ?_
            refine lv_iload_n (pc := 70) hx hb dX11_off_70 rfl (lv_at hl 3 rfl) ?_
            refine lv_iload (pc := 71) hx hb dX11_off_71 (lv_at hl 1 rfl) ?_
            refine lv_iload (pc := 73) hx hb dX11_off_73 (lv_at hl 0 rfl) ?_
            obtain ⟨r_75, e_75, h⟩ := bnd_s h
            refine call_vi (pc := 75) (rest := []) [.int v1, .int v4_41, .int r_49] X Y (c_X11_amountsOff v1 v4_41 r_49 e_75) sw_X11_223 (rv_X11 X Y) rfl ⟨rfl, rfl, Nat.le_of_ble_eq_true rfl, Nat.le_of_ble_eq_true rfl⟩ hl rfl (Nat.le_of_ble_eq_true rfl) dX11_off_75 (fun H locs Y => ?_)
            refine lv_i2l (pc := 78) hx hb dX11_off_78 rfl ?_
            refine lv_bipush (pc := 79) (v := 10) hx hb dX11_off_79 (by decide) ?_
            refine lv_iload (pc := 81) hx hb dX11_off_81 (lv_at hl 0 rfl) ?_
            refine lv_imul (pc := 83) hx hb dX11_off_83 ?_
            refine lv_i2l (pc := 84) hx hb dX11_off_84 rfl ?_
            refine lv_iload_n (pc := 85) hx hb dX11_off_85 rfl (lv_at hl 5 rfl) ?_
            obtain ⟨r_86, e_86, h⟩ := bnd_s h
            refine call_sl (pc := 86) (rest := []) [.long (r_75.toInt64), .long ((10 * r_49).toInt64), .int v3] X Y (c_X11_fraction (r_75.toInt64) ((10 * r_49).toInt64) v3 e_86) sw_X11_173 rfl ⟨rfl, rfl, Nat.le_of_ble_eq_true rfl, Nat.le_of_ble_eq_true rfl⟩ hl rfl (Nat.le_of_ble_eq_true rfl) dX11_off_86 (fun H locs Y => ?_)
            obtain ⟨hr9, hm9⟩ := ret_e h
            exact fin_l (pc := 89) X rfl Y hr9 hm9 rfl dX11_off_89
        · have h := itp c_56 h
          refine lv_bipush (pc := 59) (v := (-3)) hx hb dX11_off_59 (by decide) ?_
          refine call_sl (pc := 61) (rest := []) [.int (-3)] X Y (c_X11_asLong (-3)) sw_X11_166 rfl ⟨rfl, rfl, Nat.le_of_ble_eq_true rfl, Nat.le_of_ble_eq_true rfl⟩ hl rfl (Nat.le_of_ble_eq_true rfl) dX11_off_61 (fun H locs Y => ?_)
          obtain ⟨hr9, hm9⟩ := ret_e h
          exact fin_l (pc := 64) X rfl Y hr9 hm9 rfl dX11_off_64
      · have h := itn (b2i_f c_23) h
        exact WB_X11_off_26  C X Y (lv_sub hl [] rfl) h
abbrev rm_X11_type : Room := { frames := 5, cells := 0, slots := 0, locals := 107 }
set_option maxHeartbeats 4000000 in
set_option maxRecDepth 100000 in
theorem c_X11_type {r9 : Int32} {C9 : Mem} (v1 : Int32) (h : f_X11_type v1 C = some (r9, C9)) : Ct l dC dI ad bd cI cZ yX11_type cX11_type 2 (some .int) rm_X11_type [.ref (ad 0), .int v1] C D (some (.int r9)) C9 D := by
  unfold f_X11_type at h
  refine Ct.intro (own := RX11) (by decide) rfl (Nat.le_of_ble_eq_true rfl) ?_
  intro p e s m args below meth c H locs ls X Y hl
  have hx := X.1
  have hb := X.2.1
  have hl : lv_has ls 2 [(0, .ref (ad 0)), (1, .int v1)] := hl
  refine lv_iload_n (pc := 0) hx hb dX11_type_0 rfl (lv_at hl 1 rfl) ?_
  refine lv_sipush (pc := 1) (v := 255) hx hb dX11_type_1 (by decide) ?_
  refine call_si (pc := 4) (rest := []) [.int v1, .int 255] X Y (c_X11_isWithin v1 255) sw_X11_145 rfl ⟨rfl, rfl, Nat.le_of_ble_eq_true rfl, Nat.le_of_ble_eq_true rfl⟩ hl rfl (Nat.le_of_ble_eq_true rfl) dX11_type_4 (fun H locs Y => ?_)
  refine lv_if_ne (pc := 7) (tgt := 13) hx hb dX11_type_7 (by decide) (fun c_7 => ?_) (fun c_7 => ?_)
  · have h := itp (b2i_t c_7) h
    refine lv_aload_n (pc := 13) hx hb dX11_type_13 rfl (lv_at hl 0 rfl) ?_
    refine gf_X11_43 (pc := 14) X Y dX11_type_14 ?_
    refine lv_iload_n (pc := 17) hx hb dX11_type_17 rfl (lv_at hl 1 rfl) ?_
    obtain ⟨r_18, C_18, e_18, h⟩ := bnd2_s h
    refine call_vNi (pc := 18) (rest := []) [.int v1] X Y (c_X2_add v1 e_18) sw_X11_237 (rv_X2 X Y) rfl ⟨rfl, rfl, Nat.le_of_ble_eq_true rfl, Nat.le_of_ble_eq_true rfl⟩ hl rfl (Nat.le_of_ble_eq_true rfl) dX11_type_18 (fun H locs Y => ?_)
    obtain ⟨hr9, hm9⟩ := ret_e h
    exact fin_i (pc := 21) X rfl Y hr9 hm9 rfl dX11_type_21
  · have h := itn (b2i_f c_7) h
    refine lv_bipush (pc := 10) (v := (-2)) hx hb dX11_type_10 (by decide) ?_
    obtain ⟨hr9, hm9⟩ := ret_e h
    exact fin_i (pc := 12) X rfl Y hr9 hm9 rfl dX11_type_12
abbrev rm_X11_wipe : Room := { frames := 1, cells := 0, slots := 0, locals := 21 }
set_option maxHeartbeats 4000000 in
set_option maxRecDepth 100000 in
theorem c_X11_wipe {r9 : Int32} {C9 : Mem} (h : f_X11_wipe C = some (r9, C9)) : Ct l dC dI ad bd cI cZ yX11_wipe cX11_wipe 1 (some .int) rm_X11_wipe [.ref (ad 0)] C D (some (.int r9)) C9 D := by
  unfold f_X11_wipe at h
  refine Ct.intro (own := RX11) (by decide) rfl (Nat.le_of_ble_eq_true rfl) ?_
  intro p e s m args below meth c H locs ls X Y hl
  have hx := X.1
  have hb := X.2.1
  have hl : lv_has ls 1 [(0, .ref (ad 0))] := hl
  refine lv_aload_n (pc := 0) hx hb dX11_wipe_0 rfl (lv_at hl 0 rfl) ?_
  refine gf_X11_43 (pc := 1) X Y dX11_wipe_1 ?_
  obtain ⟨r_4, C_4, e_4, h⟩ := bnd2_s h
  refine call_vNi (pc := 4) (rest := []) [] X Y (c_X2_clear  e_4) sw_X11_238 (rv_X2 X Y) rfl ⟨rfl, rfl, Nat.le_of_ble_eq_true rfl, Nat.le_of_ble_eq_true rfl⟩ hl rfl (Nat.le_of_ble_eq_true rfl) dX11_wipe_4 (fun H locs Y => ?_)
  obtain ⟨hr9, hm9⟩ := ret_e h
  exact fin_i (pc := 7) X rfl Y hr9 hm9 rfl dX11_wipe_7
abbrev rm_X11_fault : Room := { frames := 1, cells := 0, slots := 0, locals := 20 }
set_option maxHeartbeats 4000000 in
set_option maxRecDepth 100000 in
theorem c_X11_fault : Ct l dC dI ad bd cI cZ yX11_fault cX11_fault 1 (some .int) rm_X11_fault [.ref (ad 0)] C D (some (.int (f_X11_fault C))) C D := by
  obtain ⟨r9, h⟩ : ∃ r9, f_X11_fault C = r9 := ⟨_, rfl⟩
  rw [h]
  unfold f_X11_fault at h
  refine Ct.intro (own := RX11) (by decide) rfl (Nat.le_of_ble_eq_true rfl) ?_
  intro p e s m args below meth c H locs ls X Y hl
  have hx := X.1
  have hb := X.2.1
  have hl : lv_has ls 1 [(0, .ref (ad 0))] := hl
  refine lv_aload_n (pc := 0) hx hb dX11_fault_0 rfl (lv_at hl 0 rfl) ?_
  refine gf_X11_43 (pc := 1) X Y dX11_fault_1 ?_
  refine call_vNi (pc := 4) (rest := []) [] X Y (c_X2_faultPlace ) sw_X11_241 (rv_X2 X Y) rfl ⟨rfl, rfl, Nat.le_of_ble_eq_true rfl, Nat.le_of_ble_eq_true rfl⟩ hl rfl (Nat.le_of_ble_eq_true rfl) dX11_fault_4 (fun H locs Y => ?_)
  have hr9 := h
  exact fin_i (pc := 7) X rfl Y hr9 rfl rfl dX11_fault_7
abbrev rm_X11_reckon : Room := { frames := 3, cells := 0, slots := 0, locals := 71 }
set_option maxHeartbeats 4000000 in
set_option maxRecDepth 100000 in
theorem c_X11_reckon {r9 : Int32} {C9 : Mem} (v1 : Int32) (v2 : Int32) (h : f_X11_reckon v1 v2 C = some (r9, C9)) : Ct l dC dI ad bd cI cZ yX11_reckon cX11_reckon 3 (some .int) rm_X11_reckon [.ref (ad 0), .int v1, .int v2] C D (some (.int r9)) C9 D := by
  unfold f_X11_reckon at h
  refine Ct.intro (own := RX11) (by decide) rfl (Nat.le_of_ble_eq_true rfl) ?_
  intro p e s m args below meth c H locs ls X Y hl
  have hx := X.1
  have hb := X.2.1
  have hl : lv_has ls 3 [(0, .ref (ad 0)), (1, .int v1), (2, .int v2)] := hl
  refine lv_iload_n (pc := 0) hx hb dX11_reckon_0 rfl (lv_at hl 1 rfl) ?_
  refine lv_bipush (pc := 1) (v := 40) hx hb dX11_reckon_1 (by decide) ?_
  refine call_si (pc := 3) (rest := []) [.int v1, .int 40] X Y (c_X11_isWithin v1 40) sw_X11_145 rfl ⟨rfl, rfl, Nat.le_of_ble_eq_true rfl, Nat.le_of_ble_eq_true rfl⟩ hl rfl (Nat.le_of_ble_eq_true rfl) dX11_reckon_3 (fun H locs Y => ?_)
  refine lv_if_eq (pc := 6) (tgt := 17) hx hb dX11_reckon_6 (by decide) (fun c_6 => ?_) (fun c_6 => ?_)
  · have h := itn (b2i_f c_6) h
    refine lv_bipush (pc := 17) (v := (-2)) hx hb dX11_reckon_17 (by decide) ?_
    obtain ⟨hr9, hm9⟩ := ret_e h
    exact fin_i (pc := 19) X rfl Y hr9 hm9 rfl dX11_reckon_19
  · have h := itp (b2i_t c_6) h
    refine lv_iload_n (pc := 9) hx hb dX11_reckon_9 rfl (lv_at hl 2 rfl) ?_
    refine lv_iconst (pc := 10) (v := 5) hx hb dX11_reckon_10 (by decide) ?_
    refine call_si (pc := 11) (rest := []) [.int v2, .int 5] X Y (c_X11_isWithin v2 5) sw_X11_145 rfl ⟨rfl, rfl, Nat.le_of_ble_eq_true rfl, Nat.le_of_ble_eq_true rfl⟩ hl rfl (Nat.le_of_ble_eq_true rfl) dX11_reckon_11 (fun H locs Y => ?_)
    refine lv_if_ne (pc := 14) (tgt := 20) hx hb dX11_reckon_14 (by decide) (fun c_14 => ?_) (fun c_14 => ?_)
    · have h := itp (b2i_t c_14) h
      refine lv_aload_n (pc := 20) hx hb dX11_reckon_20 rfl (lv_at hl 0 rfl) ?_
      refine gf_X11_43 (pc := 21) X Y dX11_reckon_21 ?_
      refine call_vNi (pc := 24) (rest := []) [] X Y (c_X2_faultPlace ) sw_X11_241 (rv_X2 X Y) rfl ⟨rfl, rfl, Nat.le_of_ble_eq_true rfl, Nat.le_of_ble_eq_true rfl⟩ hl rfl (Nat.le_of_ble_eq_true rfl) dX11_reckon_24 (fun H locs Y => ?_)
      refine lv_iconst (pc := 27) (v := (-1)) hx hb dX11_reckon_27 (by decide) ?_
      refine lv_icmp_eq (pc := 28) (tgt := 34) hx hb dX11_reckon_28 (by decide) (fun c_28 => ?_) (fun c_28 => ?_)
      · have h := itp c_28 h
        refine lv_iload_n (pc := 34) hx hb dX11_reckon_34 rfl (lv_at hl 2 rfl) ?_
        refine lv_iconst (pc := 35) (v := 4) hx hb dX11_reckon_35 (by decide) ?_
        refine lv_icmp_ne (pc := 36) (tgt := 47) hx hb dX11_reckon_36 (by decide) (fun c_36 => ?_) (fun c_36 => ?_)
        · have h := itn c_36 h
          refine lv_iload_n (pc := 47) hx hb dX11_reckon_47 rfl (lv_at hl 2 rfl) ?_
          refine lv_iconst (pc := 48) (v := 5) hx hb dX11_reckon_48 (by decide) ?_
          refine lv_icmp_ne (pc := 49) (tgt := 68) hx hb dX11_reckon_49 (by decide) (fun c_49 => ?_) (fun c_49 => ?_)
          · have h := itn c_49 h
            refine lv_aload_n (pc := 68) hx hb dX11_reckon_68 rfl (lv_at hl 0 rfl) ?_
            refine gf_X11_43 (pc := 69) X Y dX11_reckon_69 ?_
            refine lv_iload_n (pc := 72) hx hb dX11_reckon_72 rfl (lv_at hl 1 rfl) ?_
            obtain ⟨C_73, e_73, h⟩ := bnd_s h
            refine call_vNv (pc := 73) (rest := []) [.int v1] X Y (c_X2_solve v1 e_73) sw_X11_250 (rv_X2 X Y) rfl ⟨rfl, rfl, Nat.le_of_ble_eq_true rfl, Nat.le_of_ble_eq_true rfl⟩ hl rfl (Nat.le_of_ble_eq_true rfl) dX11_reckon_73 (fun H locs Y => ?_)
            refine lv_iload_n (pc := 76) hx hb dX11_reckon_76 rfl (lv_at hl 2 rfl) ?_
            refine lv_iconst (pc := 77) (v := 3) hx hb dX11_reckon_77 (by decide) ?_
            refine lv_icmp_ne (pc := 78) (tgt := 91) hx hb dX11_reckon_78 (by decide) (fun c_78 => ?_) (fun c_78 => ?_)
            · have h := itn c_78 h
              refine lv_aload_n (pc := 91) hx hb dX11_reckon_91 rfl (lv_at hl 0 rfl) ?_
              refine gf_X11_43 (pc := 92) X Y dX11_reckon_92 ?_
              refine lv_iload_n (pc := 95) hx hb dX11_reckon_95 rfl (lv_at hl 2 rfl) ?_
              obtain ⟨r_96, e_96, h⟩ := bnd_s h
              refine call_vNi (pc := 96) (rest := []) [.int v2] X Y (c_X2_gets v2 e_96) sw_X11_256 (rv_X2 X Y) rfl ⟨rfl, rfl, Nat.le_of_ble_eq_true rfl, Nat.le_of_ble_eq_true rfl⟩ hl rfl (Nat.le_of_ble_eq_true rfl) dX11_reckon_96 (fun H locs Y => ?_)
              obtain ⟨hr9, hm9⟩ := ret_e h
              exact fin_i (pc := 99) X rfl Y hr9 hm9 rfl dX11_reckon_99
            · have h := itp c_78 h
              refine lv_aload_n (pc := 81) hx hb dX11_reckon_81 rfl (lv_at hl 0 rfl) ?_
              refine gf_X11_43 (pc := 82) X Y dX11_reckon_82 ?_
              obtain ⟨r_85, e_85, h⟩ := bnd_s h
              refine call_vNi (pc := 85) (rest := []) [] X Y (c_X2_wayLength  e_85) sw_X11_253 (rv_X2 X Y) rfl ⟨rfl, rfl, Nat.le_of_ble_eq_true rfl, Nat.le_of_ble_eq_true rfl⟩ hl rfl (Nat.le_of_ble_eq_true rfl) dX11_reckon_85 (fun H locs Y => ?_)
              refine lv_goto (pc := 88) (tgt := 99) hx hb dX11_reckon_88 (by decide) ?_
              obtain ⟨hr9, hm9⟩ := ret_e h
              exact fin_i (pc := 99) X rfl Y hr9 hm9 rfl dX11_reckon_99
          · have h := itp c_49 h
            refine lv_aload_n (pc := 52) hx hb dX11_reckon_52 rfl (lv_at hl 0 rfl) ?_
            refine gf_X11_43 (pc := 53) X Y dX11_reckon_53 ?_
            refine gf_X11_247 (pc := 56) X Y dX11_reckon_56 ?_
            refine lv_aload_n (pc := 59) hx hb dX11_reckon_59 rfl (lv_at hl 0 rfl) ?_
            refine gf_X11_43 (pc := 60) X Y dX11_reckon_60 ?_
            refine gf_X11_244 (pc := 63) X Y dX11_reckon_63 ?_
            refine lv_isub (pc := 66) hx hb dX11_reckon_66 ?_
            obtain ⟨hr9, hm9⟩ := ret_e h
            exact fin_i (pc := 67) X rfl Y hr9 hm9 rfl dX11_reckon_67
        · have h := itp c_36 h
          refine lv_aload_n (pc := 39) hx hb dX11_reckon_39 rfl (lv_at hl 0 rfl) ?_
          refine gf_X11_43 (pc := 40) X Y dX11_reckon_40 ?_
          refine gf_X11_244 (pc := 43) X Y dX11_reckon_43 ?_
          obtain ⟨hr9, hm9⟩ := ret_e h
          exact fin_i (pc := 46) X rfl Y hr9 hm9 rfl dX11_reckon_46
      · have h := itn c_28 h
        refine lv_bipush (pc := 31) (v := (-3)) hx hb dX11_reckon_31 (by decide) ?_
        obtain ⟨hr9, hm9⟩ := ret_e h
        exact fin_i (pc := 33) X rfl Y hr9 hm9 rfl dX11_reckon_33
    · have h := itn (b2i_f c_14) h
      refine lv_bipush (pc := 17) (v := (-2)) hx hb dX11_reckon_17 (by decide) ?_
      obtain ⟨hr9, hm9⟩ := ret_e h
      exact fin_i (pc := 19) X rfl Y hr9 hm9 rfl dX11_reckon_19
abbrev rm_X11_how : Room := { frames := 3, cells := 0, slots := 0, locals := 71 }
set_option maxHeartbeats 4000000 in
set_option maxRecDepth 100000 in
theorem c_X11_how {r9 : Int32} {C9 : Mem} (v1 : Int32) (v2 : Int32) (h : f_X11_how v1 v2 C = some (r9, C9)) : Ct l dC dI ad bd cI cZ yX11_how cX11_how 3 (some .int) rm_X11_how [.ref (ad 0), .int v1, .int v2] C D (some (.int r9)) C9 D := by
  unfold f_X11_how at h
  refine Ct.intro (own := RX11) (by decide) rfl (Nat.le_of_ble_eq_true rfl) ?_
  intro p e s m args below meth c H locs ls X Y hl
  have hx := X.1
  have hb := X.2.1
  have hl : lv_has ls 3 [(0, .ref (ad 0)), (1, .int v1), (2, .int v2)] := hl
  refine lv_iload_n (pc := 0) hx hb dX11_how_0 rfl (lv_at hl 1 rfl) ?_
  refine lv_bipush (pc := 1) (v := 40) hx hb dX11_how_1 (by decide) ?_
  refine call_si (pc := 3) (rest := []) [.int v1, .int 40] X Y (c_X11_isWithin v1 40) sw_X11_145 rfl ⟨rfl, rfl, Nat.le_of_ble_eq_true rfl, Nat.le_of_ble_eq_true rfl⟩ hl rfl (Nat.le_of_ble_eq_true rfl) dX11_how_3 (fun H locs Y => ?_)
  refine lv_if_eq (pc := 6) (tgt := 13) hx hb dX11_how_6 (by decide) (fun c_6 => ?_) (fun c_6 => ?_)
  · have h := itn (b2i_f c_6) h
    refine lv_bipush (pc := 13) (v := (-2)) hx hb dX11_how_13 (by decide) ?_
    obtain ⟨hr9, hm9⟩ := ret_e h
    exact fin_i (pc := 15) X rfl Y hr9 hm9 rfl dX11_how_15
  · have h := itp (b2i_t c_6) h
    refine lv_iload_n (pc := 9) hx hb dX11_how_9 rfl (lv_at hl 2 rfl) ?_
    refine lv_if_ge (pc := 10) (tgt := 16) hx hb dX11_how_10 (by decide) (fun c_10 => ?_) (fun c_10 => ?_)
    · have h := itp c_10 h
      refine lv_aload_n (pc := 16) hx hb dX11_how_16 rfl (lv_at hl 0 rfl) ?_
      refine gf_X11_43 (pc := 17) X Y dX11_how_17 ?_
      refine call_vNi (pc := 20) (rest := []) [] X Y (c_X2_faultPlace ) sw_X11_241 (rv_X2 X Y) rfl ⟨rfl, rfl, Nat.le_of_ble_eq_true rfl, Nat.le_of_ble_eq_true rfl⟩ hl rfl (Nat.le_of_ble_eq_true rfl) dX11_how_20 (fun H locs Y => ?_)
      refine lv_iconst (pc := 23) (v := (-1)) hx hb dX11_how_23 (by decide) ?_
      refine lv_icmp_eq (pc := 24) (tgt := 30) hx hb dX11_how_24 (by decide) (fun c_24 => ?_) (fun c_24 => ?_)
      · have h := itp c_24 h
        refine lv_aload_n (pc := 30) hx hb dX11_how_30 rfl (lv_at hl 0 rfl) ?_
        refine gf_X11_43 (pc := 31) X Y dX11_how_31 ?_
        refine lv_iload_n (pc := 34) hx hb dX11_how_34 rfl (lv_at hl 1 rfl) ?_
        obtain ⟨C_35, e_35, h⟩ := bnd_s h
        refine call_vNv (pc := 35) (rest := []) [.int v1] X Y (c_X2_solve v1 e_35) sw_X11_250 (rv_X2 X Y) rfl ⟨rfl, rfl, Nat.le_of_ble_eq_true rfl, Nat.le_of_ble_eq_true rfl⟩ hl rfl (Nat.le_of_ble_eq_true rfl) dX11_how_35 (fun H locs Y => ?_)
        refine lv_aload_n (pc := 38) hx hb dX11_how_38 rfl (lv_at hl 0 rfl) ?_
        refine gf_X11_43 (pc := 39) X Y dX11_how_39 ?_
        refine lv_iload_n (pc := 42) hx hb dX11_how_42 rfl (lv_at hl 2 rfl) ?_
        obtain ⟨r_43, e_43, h⟩ := bnd_s h
        refine call_vNi (pc := 43) (rest := []) [.int v2] X Y (c_X2_choiceAt v2 e_43) sw_X11_259 (rv_X2 X Y) rfl ⟨rfl, rfl, Nat.le_of_ble_eq_true rfl, Nat.le_of_ble_eq_true rfl⟩ hl rfl (Nat.le_of_ble_eq_true rfl) dX11_how_43 (fun H locs Y => ?_)
        obtain ⟨hr9, hm9⟩ := ret_e h
        exact fin_i (pc := 46) X rfl Y hr9 hm9 rfl dX11_how_46
      · have h := itn c_24 h
        refine lv_bipush (pc := 27) (v := (-3)) hx hb dX11_how_27 (by decide) ?_
        obtain ⟨hr9, hm9⟩ := ret_e h
        exact fin_i (pc := 29) X rfl Y hr9 hm9 rfl dX11_how_29
    · have h := itn c_10 h
      refine lv_bipush (pc := 13) (v := (-2)) hx hb dX11_how_13 (by decide) ?_
      obtain ⟨hr9, hm9⟩ := ret_e h
      exact fin_i (pc := 15) X rfl Y hr9 hm9 rfl dX11_how_15
abbrev rm_X11_temper : Room := { frames := 4, cells := 0, slots := 0, locals := 93 }
set_option maxHeartbeats 4000000 in
set_option maxRecDepth 100000 in
theorem c_X11_temper {r9 : Int32} {C9 : Mem} (h : f_X11_temper C = some (r9, C9)) : Ct l dC dI ad bd cI cZ yX11_temper cX11_temper 1 (some .int) rm_X11_temper [.ref (ad 0)] C D (some (.int r9)) C9 D := by
  unfold f_X11_temper at h
  refine Ct.intro (own := RX11) (by decide) rfl (Nat.le_of_ble_eq_true rfl) ?_
  intro p e s m args below meth c H locs ls X Y hl
  have hx := X.1
  have hb := X.2.1
  have hl : lv_has ls 1 [(0, .ref (ad 0))] := hl
  refine lv_aload_n (pc := 0) hx hb dX11_temper_0 rfl (lv_at hl 0 rfl) ?_
  refine gf_X11_43 (pc := 1) X Y dX11_temper_1 ?_
  refine call_vNi (pc := 4) (rest := []) [] X Y (c_X2_faultPlace ) sw_X11_241 (rv_X2 X Y) rfl ⟨rfl, rfl, Nat.le_of_ble_eq_true rfl, Nat.le_of_ble_eq_true rfl⟩ hl rfl (Nat.le_of_ble_eq_true rfl) dX11_temper_4 (fun H locs Y => ?_)
  refine lv_iconst (pc := 7) (v := (-1)) hx hb dX11_temper_7 (by decide) ?_
  refine lv_icmp_eq (pc := 8) (tgt := 14) hx hb dX11_temper_8 (by decide) (fun c_8 => ?_) (fun c_8 => ?_)
  · have h := itp c_8 h
    refine lv_aload_n (pc := 14) hx hb dX11_temper_14 rfl (lv_at hl 0 rfl) ?_
    refine gf_X11_43 (pc := 15) X Y dX11_temper_15 ?_
    obtain ⟨r_18, C_18, e_18, h⟩ := bnd2_s h
    refine call_vNi (pc := 18) (rest := []) [] X Y (c_X2_leastAngerThatMatters  e_18) sw_X11_262 (rv_X2 X Y) rfl ⟨rfl, rfl, Nat.le_of_ble_eq_true rfl, Nat.le_of_ble_eq_true rfl⟩ hl rfl (Nat.le_of_ble_eq_true rfl) dX11_temper_18 (fun H locs Y => ?_)
    obtain ⟨hr9, hm9⟩ := ret_e h
    exact fin_i (pc := 21) X rfl Y hr9 hm9 rfl dX11_temper_21
  · have h := itn c_8 h
    refine lv_bipush (pc := 11) (v := (-3)) hx hb dX11_temper_11 (by decide) ?_
    obtain ⟨hr9, hm9⟩ := ret_e h
    exact fin_i (pc := 13) X rfl Y hr9 hm9 rfl dX11_temper_13
abbrev rm_X11_two : Room := { frames := 3, cells := 0, slots := 0, locals := 69 }
set_option maxHeartbeats 4000000 in
set_option maxRecDepth 100000 in
theorem WB_X11_two_155 {r9 : Int32} {C9 : Mem} (t : Nat) (C : Mem) (ht : tl t) (X : Cx p s m args meth c cX11_two RX11 3 (some .int) dC dI ad bd cI cZ) {H : Heap} {locs : List Loc} {ls : Array Slot} (Y : Ys s dC dI ad bd cI cZ C D H locs) (hl : lv_has ls 3 []) (h : B_X11_two_155 t C = some (r9, C9)) : W p l e rm_X11_two s m args below meth c H locs 0 0 (MQ below (QC (some (.int r9)) dC dI ad bd cI cZ C9 D) args s 0 0 (AD ad bd)) (F0 m 155 ls [.ref (ad t), .ref (ad 30)]) := by
  have hx := X.1
  have hb := X.2.1
  unfold B_X11_two_155 at h
  obtain ⟨r_155, e_155, h⟩ := bnd_s h
  refine call_vNi (pc := 155) (rest := []) [.ref (ad t)] X Y (c_X1_asFarApart t ht e_155) sw_X11_271 (rv_X1 X Y) rfl ⟨rfl, rfl, Nat.le_of_ble_eq_true rfl, Nat.le_of_ble_eq_true rfl⟩ hl rfl (Nat.le_of_ble_eq_true rfl) dX11_two_155 (fun H locs Y => ?_)
  obtain ⟨hr9, hm9⟩ := ret_e h
  exact fin_i (pc := 158) X rfl Y hr9 hm9 rfl dX11_two_158
set_option maxHeartbeats 4000000 in
set_option maxRecDepth 100000 in
theorem c_X11_two {r9 : Int32} {C9 : Mem} (v1 : Int32) (v2 : Int32) (h : f_X11_two v1 v2 C = some (r9, C9)) : Ct l dC dI ad bd cI cZ yX11_two cX11_two 3 (some .int) rm_X11_two [.ref (ad 0), .int v1, .int v2] C D (some (.int r9)) C9 D := by
  unfold f_X11_two at h
  refine Ct.intro (own := RX11) (by decide) rfl (Nat.le_of_ble_eq_true rfl) ?_
  intro p e s m args below meth c H locs ls X Y hl
  have hx := X.1
  have hb := X.2.1
  have hl : lv_has ls 3 [(0, .ref (ad 0)), (1, .int v1), (2, .int v2)] := hl
  refine lv_iload_n (pc := 0) hx hb dX11_two_0 rfl (lv_at hl 1 rfl) ?_
  refine call_si (pc := 1) (rest := []) [.int v1] X Y (c_X11_isPeople v1) sw_X11_89 rfl ⟨rfl, rfl, Nat.le_of_ble_eq_true rfl, Nat.le_of_ble_eq_true rfl⟩ hl rfl (Nat.le_of_ble_eq_true rfl) dX11_two_1 (fun H locs Y => ?_)
  refine lv_if_eq (pc := 4) (tgt := 19) hx hb dX11_two_4 (by decide) (fun c_4 => ?_) (fun c_4 => ?_)
  · have h := itn (b2i_f c_4) h
    refine lv_bipush (pc := 19) (v := (-2)) hx hb dX11_two_19 (by decide) ?_
    obtain ⟨hr9, hm9⟩ := ret_e h
    exact fin_i (pc := 21) X rfl Y hr9 hm9 rfl dX11_two_21
  · have h := itp (b2i_t c_4) h
    refine lv_iload_n (pc := 7) hx hb dX11_two_7 rfl (lv_at hl 2 rfl) ?_
    refine call_si (pc := 8) (rest := []) [.int v2] X Y (c_X11_isPeople v2) sw_X11_89 rfl ⟨rfl, rfl, Nat.le_of_ble_eq_true rfl, Nat.le_of_ble_eq_true rfl⟩ hl rfl (Nat.le_of_ble_eq_true rfl) dX11_two_8 (fun H locs Y => ?_)
    refine lv_if_eq (pc := 11) (tgt := 19) hx hb dX11_two_11 (by decide) (fun c_11 => ?_) (fun c_11 => ?_)
    · have h := itn (b2i_f c_11) h
      refine lv_bipush (pc := 19) (v := (-2)) hx hb dX11_two_19 (by decide) ?_
      obtain ⟨hr9, hm9⟩ := ret_e h
      exact fin_i (pc := 21) X rfl Y hr9 hm9 rfl dX11_two_21
    · have h := itp (b2i_t c_11) h
      refine lv_iload_n (pc := 14) hx hb dX11_two_14 rfl (lv_at hl 1 rfl) ?_
      refine lv_iload_n (pc := 15) hx hb dX11_two_15 rfl (lv_at hl 2 rfl) ?_
      refine lv_icmp_ne (pc := 16) (tgt := 22) hx hb dX11_two_16 (by decide) (fun c_16 => ?_) (fun c_16 => ?_)
      · have h := itn c_16 h
        refine lv_aload_n (pc := 22) hx hb dX11_two_22 rfl (lv_at hl 0 rfl) ?_
        refine gf_X11_12 (pc := 23) X Y dX11_two_23 ?_
        refine lv_iload_n (pc := 26) hx hb dX11_two_26 rfl (lv_at hl 1 rfl) ?_
        refine lv_iconst (pc := 27) (v := 0) hx hb dX11_two_27 (by decide) ?_
        refine lv_aload_n (pc := 28) hx hb dX11_two_28 rfl (lv_at hl 0 rfl) ?_
        refine gf_X11_19 (pc := 29) X Y dX11_two_29 ?_
        obtain ⟨C_32, e_32, h⟩ := bnd_s h
        refine call_vNv (pc := 32) (rest := []) [.int v1, .int 0, .ref (ad 8)] X Y (c_X4_tally v1 0 8 tl8 e_32) sw_X11_149 (rv_X4 X Y) rfl ⟨rfl, rfl, Nat.le_of_ble_eq_true rfl, Nat.le_of_ble_eq_true rfl⟩ hl rfl (Nat.le_of_ble_eq_true rfl) dX11_two_32 (fun H locs Y => ?_)
        refine lv_aload_n (pc := 35) hx hb dX11_two_35 rfl (lv_at hl 0 rfl) ?_
        refine gf_X11_12 (pc := 36) X Y dX11_two_36 ?_
        refine lv_iload_n (pc := 39) hx hb dX11_two_39 rfl (lv_at hl 2 rfl) ?_
        refine lv_iconst (pc := 40) (v := 0) hx hb dX11_two_40 (by decide) ?_
        refine lv_aload_n (pc := 41) hx hb dX11_two_41 rfl (lv_at hl 0 rfl) ?_
        refine gf_X11_23 (pc := 42) X Y dX11_two_42 ?_
        obtain ⟨C_45, e_45, h⟩ := bnd_s h
        refine call_vNv (pc := 45) (rest := []) [.int v2, .int 0, .ref (ad 11)] X Y (c_X4_tally v2 0 11 tl11 e_45) sw_X11_149 (rv_X4 X Y) rfl ⟨rfl, rfl, Nat.le_of_ble_eq_true rfl, Nat.le_of_ble_eq_true rfl⟩ hl rfl (Nat.le_of_ble_eq_true rfl) dX11_two_45 (fun H locs Y => ?_)
        refine lv_aload_n (pc := 48) hx hb dX11_two_48 rfl (lv_at hl 0 rfl) ?_
        refine gf_X11_19 (pc := 49) X Y dX11_two_49 ?_
        refine gf_X11_153 (pc := 52) X Y tl8 dX11_two_52 ?_
        refine lv_if_eq (pc := 55) (tgt := 68) hx hb dX11_two_55 (by decide) (fun c_55 => ?_) (fun c_55 => ?_)
        · have h := itp c_55 h
          refine lv_bipush (pc := 68) (v := (-3)) hx hb dX11_two_68 (by decide) ?_
          obtain ⟨hr9, hm9⟩ := ret_e h
          exact fin_i (pc := 70) X rfl Y hr9 hm9 rfl dX11_two_70
        · have h := itn c_55 h
          refine lv_aload_n (pc := 58) hx hb dX11_two_58 rfl (lv_at hl 0 rfl) ?_
          refine gf_X11_23 (pc := 59) X Y dX11_two_59 ?_
          refine gf_X11_153 (pc := 62) X Y tl11 dX11_two_62 ?_
          refine lv_if_ne (pc := 65) (tgt := 71) hx hb dX11_two_65 (by decide) (fun c_65 => ?_) (fun c_65 => ?_)
          · have h := itn c_65 h
            refine lv_aload_n (pc := 71) hx hb dX11_two_71 rfl (lv_at hl 0 rfl) ?_
            refine gf_X11_19 (pc := 72) X Y dX11_two_72 ?_
            refine gf_X11_153 (pc := 75) X Y tl8 dX11_two_75 ?_
            refine lv_aload_n (pc := 78) hx hb dX11_two_78 rfl (lv_at hl 0 rfl) ?_
            refine gf_X11_23 (pc := 79) X Y dX11_two_79 ?_
            refine gf_X11_153 (pc := 82) X Y tl11 dX11_two_82 ?_
            refine lv_iadd (pc := 85) hx hb dX11_two_85 ?_
            refine lv_bipush (pc := 86) (v := 14) hx hb dX11_two_86 (by decide) ?_
            refine lv_icmp_le (pc := 88) (tgt := 94) hx hb dX11_two_88 (by decide) (fun c_88 => ?_) (fun c_88 => ?_)
            · have h := itp c_88 h
              refine lv_aload_n (pc := 94) hx hb dX11_two_94 rfl (lv_at hl 0 rfl) ?_
              refine gf_X11_50 (pc := 95) X Y dX11_two_95 ?_
              obtain ⟨C_98, e_98, h⟩ := bnd_s h
              refine call_vNv (pc := 98) (rest := []) [] X Y (c_X1_clear  e_98) sw_X11_265 (rv_X1 X Y) rfl ⟨rfl, rfl, Nat.le_of_ble_eq_true rfl, Nat.le_of_ble_eq_true rfl⟩ hl rfl (Nat.le_of_ble_eq_true rfl) dX11_two_98 (fun H locs Y => ?_)
              refine lv_aload_n (pc := 101) hx hb dX11_two_101 rfl (lv_at hl 0 rfl) ?_
              refine gf_X11_50 (pc := 102) X Y dX11_two_102 ?_
              refine lv_aload_n (pc := 105) hx hb dX11_two_105 rfl (lv_at hl 0 rfl) ?_
              refine gf_X11_19 (pc := 106) X Y dX11_two_106 ?_
              obtain ⟨C_109, e_109, h⟩ := bnd_s h
              refine call_vNv (pc := 109) (rest := []) [.ref (ad 8)] X Y (c_X1_pool 8 tl8 e_109) sw_X11_267 (rv_X1 X Y) rfl ⟨rfl, rfl, Nat.le_of_ble_eq_true rfl, Nat.le_of_ble_eq_true rfl⟩ hl rfl (Nat.le_of_ble_eq_true rfl) dX11_two_109 (fun H locs Y => ?_)
              refine lv_aload_n (pc := 112) hx hb dX11_two_112 rfl (lv_at hl 0 rfl) ?_
              refine gf_X11_50 (pc := 113) X Y dX11_two_113 ?_
              refine lv_aload_n (pc := 116) hx hb dX11_two_116 rfl (lv_at hl 0 rfl) ?_
              refine gf_X11_23 (pc := 117) X Y dX11_two_117 ?_
              obtain ⟨C_120, e_120, h⟩ := bnd_s h
              refine call_vNv (pc := 120) (rest := []) [.ref (ad 11)] X Y (c_X1_pool 11 tl11 e_120) sw_X11_267 (rv_X1 X Y) rfl ⟨rfl, rfl, Nat.le_of_ble_eq_true rfl, Nat.le_of_ble_eq_true rfl⟩ hl rfl (Nat.le_of_ble_eq_true rfl) dX11_two_120 (fun H locs Y => ?_)
              refine lv_aload_n (pc := 123) hx hb dX11_two_123 rfl (lv_at hl 0 rfl) ?_
              refine gf_X11_50 (pc := 124) X Y dX11_two_124 ?_
              refine lv_aload_n (pc := 127) hx hb dX11_two_127 rfl (lv_at hl 0 rfl) ?_
              refine gf_X11_19 (pc := 128) X Y dX11_two_128 ?_
              refine gf_X11_153 (pc := 131) X Y tl8 dX11_two_131 ?_
              refine lv_aload_n (pc := 134) hx hb dX11_two_134 rfl (lv_at hl 0 rfl) ?_
              refine gf_X11_23 (pc := 135) X Y dX11_two_135 ?_
              refine gf_X11_153 (pc := 138) X Y tl11 dX11_two_138 ?_
              refine lv_icmp_gt (pc := 141) (tgt := 151) hx hb dX11_two_141 (by decide) (fun c_141 => ?_) (fun c_141 => ?_)
              · have h := itp c_141 h
                refine lv_aload_n (pc := 151) hx hb dX11_two_151 rfl (lv_at hl 0 rfl) ?_
                refine gf_X11_23 (pc := 152) X Y dX11_two_152 ?_
                exact WB_X11_two_155 11 C_120 tl11 X Y (lv_sub hl [] rfl) h
              · have h := itn c_141 h
                refine lv_aload_n (pc := 144) hx hb dX11_two_144 rfl (lv_at hl 0 rfl) ?_
                refine gf_X11_19 (pc := 145) X Y dX11_two_145 ?_
                refine lv_goto (pc := 148) (tgt := 155) hx hb dX11_two_148 (by decide) ?_
                exact WB_X11_two_155 8 C_120 tl8 X Y (lv_sub hl [] rfl) h
            · have h := itn c_88 h
              refine lv_bipush (pc := 91) (v := (-4)) hx hb dX11_two_91 (by decide) ?_
              obtain ⟨hr9, hm9⟩ := ret_e h
              exact fin_i (pc := 93) X rfl Y hr9 hm9 rfl dX11_two_93
          · have h := itp c_65 h
            refine lv_bipush (pc := 68) (v := (-3)) hx hb dX11_two_68 (by decide) ?_
            obtain ⟨hr9, hm9⟩ := ret_e h
            exact fin_i (pc := 70) X rfl Y hr9 hm9 rfl dX11_two_70
      · have h := itp c_16 h
        refine lv_bipush (pc := 19) (v := (-2)) hx hb dX11_two_19 (by decide) ?_
        obtain ⟨hr9, hm9⟩ := ret_e h
        exact fin_i (pc := 21) X rfl Y hr9 hm9 rfl dX11_two_21
abbrev rm_X11_thing : Room := { frames := 1, cells := 0, slots := 0, locals := 25 }
set_option maxHeartbeats 4000000 in
set_option maxRecDepth 100000 in
theorem c_X11_thing {r9 : Int32} {C9 : Mem} (v1 : Int32) (v2 : Int32) (v3 : Int32) (v4 : Int32) (h : f_X11_thing v1 v2 v3 v4 C = some (r9, C9)) : Ct l dC dI ad bd cI cZ yX11_thing cX11_thing 5 (some .int) rm_X11_thing [.ref (ad 0), .int v1, .int v2, .int v3, .int v4] C D (some (.int r9)) C9 D := by
  unfold f_X11_thing at h
  refine Ct.intro (own := RX11) (by decide) rfl (Nat.le_of_ble_eq_true rfl) ?_
  intro p e s m args below meth c H locs ls X Y hl
  have hx := X.1
  have hb := X.2.1
  have hl : lv_has ls 5 [(0, .ref (ad 0)), (1, .int v1), (2, .int v2), (3, .int v3), (4, .int v4)] := hl
  refine lv_iload_n (pc := 0) hx hb dX11_thing_0 rfl (lv_at hl 1 rfl) ?_
  refine lv_bipush (pc := 1) (v := 99) hx hb dX11_thing_1 (by decide) ?_
  refine call_si (pc := 3) (rest := []) [.int v1, .int 99] X Y (c_X11_isWithin v1 99) sw_X11_145 rfl ⟨rfl, rfl, Nat.le_of_ble_eq_true rfl, Nat.le_of_ble_eq_true rfl⟩ hl rfl (Nat.le_of_ble_eq_true rfl) dX11_thing_3 (fun H locs Y => ?_)
  refine lv_if_eq (pc := 6) (tgt := 37) hx hb dX11_thing_6 (by decide) (fun c_6 => ?_) (fun c_6 => ?_)
  · have h := itn (b2i_f c_6) h
    refine lv_bipush (pc := 37) (v := (-2)) hx hb dX11_thing_37 (by decide) ?_
    obtain ⟨hr9, hm9⟩ := ret_e h
    exact fin_i (pc := 39) X rfl Y hr9 hm9 rfl dX11_thing_39
  · have h := itp (b2i_t c_6) h
    refine lv_iload_n (pc := 9) hx hb dX11_thing_9 rfl (lv_at hl 2 rfl) ?_
    refine lv_bipush (pc := 10) (v := 99) hx hb dX11_thing_10 (by decide) ?_
    refine call_si (pc := 12) (rest := []) [.int v2, .int 99] X Y (c_X11_isWithin v2 99) sw_X11_145 rfl ⟨rfl, rfl, Nat.le_of_ble_eq_true rfl, Nat.le_of_ble_eq_true rfl⟩ hl rfl (Nat.le_of_ble_eq_true rfl) dX11_thing_12 (fun H locs Y => ?_)
    refine lv_if_eq (pc := 15) (tgt := 37) hx hb dX11_thing_15 (by decide) (fun c_15 => ?_) (fun c_15 => ?_)
    · have h := itn (b2i_f c_15) h
      refine lv_bipush (pc := 37) (v := (-2)) hx hb dX11_thing_37 (by decide) ?_
      obtain ⟨hr9, hm9⟩ := ret_e h
      exact fin_i (pc := 39) X rfl Y hr9 hm9 rfl dX11_thing_39
    · have h := itp (b2i_t c_15) h
      refine lv_iload_n (pc := 18) hx hb dX11_thing_18 rfl (lv_at hl 3 rfl) ?_
      refine lv_bipush (pc := 19) (v := 99) hx hb dX11_thing_19 (by decide) ?_
      refine call_si (pc := 21) (rest := []) [.int v3, .int 99] X Y (c_X11_isWithin v3 99) sw_X11_145 rfl ⟨rfl, rfl, Nat.le_of_ble_eq_true rfl, Nat.le_of_ble_eq_true rfl⟩ hl rfl (Nat.le_of_ble_eq_true rfl) dX11_thing_21 (fun H locs Y => ?_)
      refine lv_if_eq (pc := 24) (tgt := 37) hx hb dX11_thing_24 (by decide) (fun c_24 => ?_) (fun c_24 => ?_)
      · have h := itn (b2i_f c_24) h
        refine lv_bipush (pc := 37) (v := (-2)) hx hb dX11_thing_37 (by decide) ?_
        obtain ⟨hr9, hm9⟩ := ret_e h
        exact fin_i (pc := 39) X rfl Y hr9 hm9 rfl dX11_thing_39
      · have h := itp (b2i_t c_24) h
        refine lv_iload (pc := 27) hx hb dX11_thing_27 (lv_at hl 4 rfl) ?_
        refine lv_bipush (pc := 29) (v := 99) hx hb dX11_thing_29 (by decide) ?_
        refine call_si (pc := 31) (rest := []) [.int v4, .int 99] X Y (c_X11_isWithin v4 99) sw_X11_145 rfl ⟨rfl, rfl, Nat.le_of_ble_eq_true rfl, Nat.le_of_ble_eq_true rfl⟩ hl rfl (Nat.le_of_ble_eq_true rfl) dX11_thing_31 (fun H locs Y => ?_)
        refine lv_if_ne (pc := 34) (tgt := 40) hx hb dX11_thing_34 (by decide) (fun c_34 => ?_) (fun c_34 => ?_)
        · have h := itp (b2i_t c_34) h
          refine lv_aload_n (pc := 40) hx hb dX11_thing_40 rfl (lv_at hl 0 rfl) ?_
          refine gf_X11_64 (pc := 41) X Y dX11_thing_41 ?_
          refine lv_iload_n (pc := 44) hx hb dX11_thing_44 rfl (lv_at hl 1 rfl) ?_
          refine lv_iload_n (pc := 45) hx hb dX11_thing_45 rfl (lv_at hl 2 rfl) ?_
          refine lv_iload_n (pc := 46) hx hb dX11_thing_46 rfl (lv_at hl 3 rfl) ?_
          refine lv_iload (pc := 47) hx hb dX11_thing_47 (lv_at hl 4 rfl) ?_
          obtain ⟨r_49, C_49, e_49, h⟩ := bnd2_s h
          refine call_vNi (pc := 49) (rest := []) [.int v1, .int v2, .int v3, .int v4] X Y (c_X10_add v1 v2 v3 v4 e_49) sw_X11_275 (rv_X10 X Y) rfl ⟨rfl, rfl, Nat.le_of_ble_eq_true rfl, Nat.le_of_ble_eq_true rfl⟩ hl rfl (Nat.le_of_ble_eq_true rfl) dX11_thing_49 (fun H locs Y => ?_)
          obtain ⟨hr9, hm9⟩ := ret_e h
          exact fin_i (pc := 52) X rfl Y hr9 hm9 rfl dX11_thing_52
        · have h := itn (b2i_f c_34) h
          refine lv_bipush (pc := 37) (v := (-2)) hx hb dX11_thing_37 (by decide) ?_
          obtain ⟨hr9, hm9⟩ := ret_e h
          exact fin_i (pc := 39) X rfl Y hr9 hm9 rfl dX11_thing_39
abbrev rm_X11_learnMeans : Room := { frames := 3, cells := 0, slots := 0, locals := 67 }
set_option maxHeartbeats 4000000 in
set_option maxRecDepth 100000 in
theorem WL_X11_learnMeans_9 {C9 : Mem} (X : Cx p s m args meth c cX11_learnMeans RX11 2 (none) dC dI ad bd cI cZ) {kx : Mem → Option Mem} (hkx : ∀ (C' : Mem) (H : Heap) (locs : List Loc) (ls : Array Slot), Ys s dC dI ad bd cI cZ C' D H locs → lv_has ls 2 [] → kx C' = some C9 → W p l e rm_X11_learnMeans s m args below meth c H locs 0 0 (MQ below (QC (none) dC dI ad bd cI cZ C9 D) args s 0 0 (AD ad bd)) (F0 m 45 ls [])) : ∀ (n_ : Nat) (v1 : Int32) (C : Mem) (H : Heap) (locs : List Loc) (ls : Array Slot), Ys s dC dI ad bd cI cZ C D H locs → lv_has ls 2 [(0, .ref (ad 0)), (1, .int v1)] → L_X11_learnMeans_9 kx n_ v1 C = some C9 → W p l e rm_X11_learnMeans s m args below meth c H locs 0 0 (MQ below (QC (none) dC dI ad bd cI cZ C9 D) args s 0 0 (AD ad bd)) (F0 m 9 ls []) := by
  have hx := X.1
  have hb := X.2.1
  intro n_
  induction n_ with
  | zero =>
    intro v1 C H locs ls Y hl h
    cases h
  | succ n_ ih =>
    intro v1 C H locs ls Y hl h
    unfold L_X11_learnMeans_9 at h
    refine lv_iload_n (pc := 9) hx hb dX11_learnMeans_9 rfl (lv_at hl 1 rfl) ?_
    refine lv_iconst (pc := 10) (v := 4) hx hb dX11_learnMeans_10 (by decide) ?_
    refine lv_icmp_ge (pc := 11) (tgt := 45) hx hb dX11_learnMeans_11 (by decide) (fun c_11 => ?_) (fun c_11 => ?_)
    · have h := itp c_11 h
      exact hkx C H locs ls Y (lv_sub hl [] rfl) h
    · have h := itn c_11 h
      refine lv_aload_n (pc := 14) hx hb dX11_learnMeans_14 rfl (lv_at hl 0 rfl) ?_
      refine gf_X11_12 (pc := 15) X Y dX11_learnMeans_15 ?_
      refine lv_iload_n (pc := 18) hx hb dX11_learnMeans_18 rfl (lv_at hl 1 rfl) ?_
      refine lv_iconst (pc := 19) (v := 0) hx hb dX11_learnMeans_19 (by decide) ?_
      refine lv_aload_n (pc := 20) hx hb dX11_learnMeans_20 rfl (lv_at hl 0 rfl) ?_
      refine gf_X11_19 (pc := 21) X Y dX11_learnMeans_21 ?_
      obtain ⟨C_24, e_24, h⟩ := bnd_s h
      refine call_vNv (pc := 24) (rest := []) [.int v1, .int 0, .ref (ad 8)] X Y (c_X4_tally v1 0 8 tl8 e_24) sw_X11_149 (rv_X4 X Y) rfl ⟨rfl, rfl, Nat.le_of_ble_eq_true rfl, Nat.le_of_ble_eq_true rfl⟩ hl rfl (Nat.le_of_ble_eq_true rfl) dX11_learnMeans_24 (fun H locs Y => ?_)
      refine lv_aload_n (pc := 27) hx hb dX11_learnMeans_27 rfl (lv_at hl 0 rfl) ?_
      refine gf_X11_57 (pc := 28) X Y dX11_learnMeans_28 ?_
      refine lv_iload_n (pc := 31) hx hb dX11_learnMeans_31 rfl (lv_at hl 1 rfl) ?_
      refine lv_aload_n (pc := 32) hx hb dX11_learnMeans_32 rfl (lv_at hl 0 rfl) ?_
      refine gf_X11_19 (pc := 33) X Y dX11_learnMeans_33 ?_
      obtain ⟨C_36, e_36, h⟩ := bnd_s h
      refine call_vNv (pc := 36) (rest := []) [.int v1, .ref (ad 8)] X Y (c_X3_learn v1 8 tl8 e_36) sw_X11_302 (rv_X3 X Y) rfl ⟨rfl, rfl, Nat.le_of_ble_eq_true rfl, Nat.le_of_ble_eq_true rfl⟩ hl rfl (Nat.le_of_ble_eq_true rfl) dX11_learnMeans_36 (fun H locs Y => ?_)
      obtain ⟨v1_39, ev1_39, h⟩ := lt_s_ h
      refine lv_iinc (pc := 39) (v := v1_39) (lv' := [(1, .int v1_39), (0, .ref (ad 0))]) hx hb dX11_learnMeans_39 hl (k := 1) rfl (by rw [ev1_39]; rfl) (by decide) rfl (fun ls hl => ?_)
      refine lv_goto (pc := 42) (tgt := 9) hx hb dX11_learnMeans_42 (by decide) ?_
      exact ih v1_39 C_36 H locs ls Y (lv_sub hl [1, 0] rfl) h
set_option maxHeartbeats 4000000 in
set_option maxRecDepth 100000 in
theorem c_X11_learnMeans {C9 : Mem} (h : f_X11_learnMeans C = some C9) : Ct l dC dI ad bd cI cZ yX11_learnMeans cX11_learnMeans 2 (none) rm_X11_learnMeans [.ref (ad 0)] C D (none) C9 D := by
  unfold f_X11_learnMeans at h
  refine Ct.intro (own := RX11) (by decide) rfl (Nat.le_of_ble_eq_true rfl) ?_
  intro p e s m args below meth c H locs ls X Y hl
  have hx := X.1
  have hb := X.2.1
  have hl : lv_has ls 2 [(0, .ref (ad 0))] := hl
  refine lv_aload_n (pc := 0) hx hb dX11_learnMeans_0 rfl (lv_at hl 0 rfl) ?_
  refine gf_X11_57 (pc := 1) X Y dX11_learnMeans_1 ?_
  obtain ⟨C_4, e_4, h⟩ := bnd_s h
  refine call_vNv (pc := 4) (rest := []) [] X Y (c_X3_clear  e_4) sw_X11_301 (rv_X3 X Y) rfl ⟨rfl, rfl, Nat.le_of_ble_eq_true rfl, Nat.le_of_ble_eq_true rfl⟩ hl rfl (Nat.le_of_ble_eq_true rfl) dX11_learnMeans_4 (fun H locs Y => ?_)
  refine lv_iconst (pc := 7) (v := 0) hx hb dX11_learnMeans_7 (by decide) ?_
  refine lv_istore_n (pc := 8) (lv' := [(1, .int 0), (0, .ref (ad 0))]) hx hb dX11_learnMeans_8 rfl hl (by decide) rfl (fun ls hl => ?_)
  refine WL_X11_learnMeans_9 X (fun C_45 H locs ls Y hl h => ?_) FU 0 C_4 H locs ls Y (lv_sub hl [1, 0] rfl) h
  have hm9 := ret_v h
  exact fin_v (pc := 45) X rfl Y hm9 rfl dX11_learnMeans_45
abbrev rm_X11_goes : Room := { frames := 4, cells := 0, slots := 0, locals := 88 }
set_option maxHeartbeats 4000000 in
set_option maxRecDepth 100000 in
theorem c_X11_goes {r9 : Int32} {C9 : Mem} (v1 : Int32) (h : f_X11_goes v1 C = some (r9, C9)) : Ct l dC dI ad bd cI cZ yX11_goes cX11_goes 2 (some .int) rm_X11_goes [.ref (ad 0), .int v1] C D (some (.int r9)) C9 D := by
  unfold f_X11_goes at h
  refine Ct.intro (own := RX11) (by decide) rfl (Nat.le_of_ble_eq_true rfl) ?_
  intro p e s m args below meth c H locs ls X Y hl
  have hx := X.1
  have hb := X.2.1
  have hl : lv_has ls 2 [(0, .ref (ad 0)), (1, .int v1)] := hl
  refine lv_aload_n (pc := 0) hx hb dX11_goes_0 rfl (lv_at hl 0 rfl) ?_
  refine gf_X11_64 (pc := 1) X Y dX11_goes_1 ?_
  refine lv_iload_n (pc := 4) hx hb dX11_goes_4 rfl (lv_at hl 1 rfl) ?_
  refine call_vNi (pc := 5) (rest := []) [.int v1] X Y (c_X10_has v1) sw_X11_278 (rv_X10 X Y) rfl ⟨rfl, rfl, Nat.le_of_ble_eq_true rfl, Nat.le_of_ble_eq_true rfl⟩ hl rfl (Nat.le_of_ble_eq_true rfl) dX11_goes_5 (fun H locs Y => ?_)
  refine lv_if_ne (pc := 8) (tgt := 14) hx hb dX11_goes_8 (by decide) (fun c_8 => ?_) (fun c_8 => ?_)
  · have h := itp (b2i_t c_8) h
    refine lv_aload_n (pc := 14) hx hb dX11_goes_14 rfl (lv_at hl 0 rfl) ?_
    obtain ⟨C_15, e_15, h⟩ := bnd_s h
    refine call_vv (pc := 15) (rest := []) [] X Y (c_X11_learnMeans  e_15) sw_X11_279 (rv_X11 X Y) rfl ⟨rfl, rfl, Nat.le_of_ble_eq_true rfl, Nat.le_of_ble_eq_true rfl⟩ hl rfl (Nat.le_of_ble_eq_true rfl) dX11_goes_15 (fun H locs Y => ?_)
    refine lv_aload_n (pc := 18) hx hb dX11_goes_18 rfl (lv_at hl 0 rfl) ?_
    refine gf_X11_64 (pc := 19) X Y dX11_goes_19 ?_
    refine lv_iload_n (pc := 22) hx hb dX11_goes_22 rfl (lv_at hl 1 rfl) ?_
    refine lv_aload_n (pc := 23) hx hb dX11_goes_23 rfl (lv_at hl 0 rfl) ?_
    refine gf_X11_57 (pc := 24) X Y dX11_goes_24 ?_
    obtain ⟨r_27, e_27, h⟩ := bnd_s h
    refine call_vNi (pc := 27) (rest := []) [.int v1, .ref (ad 32)] X Y (c_X10_together v1 e_27) sw_X11_282 (rv_X10 X Y) rfl ⟨rfl, rfl, Nat.le_of_ble_eq_true rfl, Nat.le_of_ble_eq_true rfl⟩ hl rfl (Nat.le_of_ble_eq_true rfl) dX11_goes_27 (fun H locs Y => ?_)
    obtain ⟨hr9, hm9⟩ := ret_e h
    exact fin_i (pc := 30) X rfl Y hr9 hm9 rfl dX11_goes_30
  · have h := itn (b2i_f c_8) h
    refine lv_bipush (pc := 11) (v := (-99)) hx hb dX11_goes_11 (by decide) ?_
    obtain ⟨hr9, hm9⟩ := ret_e h
    exact fin_i (pc := 13) X rfl Y hr9 hm9 rfl dX11_goes_13
abbrev rm_X11_looked : Room := { frames := 4, cells := 0, slots := 0, locals := 95 }
set_option maxHeartbeats 4000000 in
set_option maxRecDepth 100000 in
theorem WB_X11_looked_93 {r9 : Int32} {C9 : Mem} (v1 : Int32) (v2 : Int32) (v3 : Int32) (v4 : Int32) (C : Mem) (X : Cx p s m args meth c cX11_looked RX11 5 (some .int) dC dI ad bd cI cZ) {kb : Int32 → Int32 → Int32 → Mem → Option (Int32 × Mem)} (hkb : ∀ (v2' : Int32) (v3' : Int32) (v4' : Int32) (C' : Mem) (H : Heap) (locs : List Loc) (ls : Array Slot), Ys s dC dI ad bd cI cZ C' D H locs → lv_has ls 5 [(0, .ref (ad 0)), (1, .int v1), (2, .int v2'), (3, .int v3'), (4, .int v4')] → kb v2' v3' v4' C' = some (r9, C9) → W p l e rm_X11_looked s m args below meth c H locs 0 0 (MQ below (QC (some (.int r9)) dC dI ad bd cI cZ C9 D) args s 0 0 (AD ad bd)) (F0 m 47 ls [])) {H : Heap} {locs : List Loc} {ls : Array Slot} (Y : Ys s dC dI ad bd cI cZ C D H locs) (hl : lv_has ls 5 [(0, .ref (ad 0)), (1, .int v1), (2, .int v2), (3, .int v3), (4, .int v4)]) (h : B_X11_looked_93 v2 v3 v4 C kb = some (r9, C9)) : W p l e rm_X11_looked s m args below meth c H locs 0 0 (MQ below (QC (some (.int r9)) dC dI ad bd cI cZ C9 D) args s 0 0 (AD ad bd)) (F0 m 93 ls []) := by
  have hx := X.1
  have hb := X.2.1
  unfold B_X11_looked_93 at h
  obtain ⟨v4_93, ev4_93, h⟩ := lt_s_ h
  refine lv_iinc (pc := 93) (v := v4_93) (lv' := [(4, .int v4_93), (0, .ref (ad 0)), (1, .int v1), (2, .int v2), (3, .int v3)]) hx hb dX11_looked_93 hl (k := 4) rfl (by rw [ev4_93]; rfl) (by decide) rfl (fun ls hl => ?_)
  refine lv_goto (pc := 96) (tgt := 47) hx hb dX11_looked_96 (by decide) ?_
  exact hkb v2 v3 v4_93 C H locs ls Y (lv_sub hl [1, 2, 3, 4, 0] rfl) h
set_option maxHeartbeats 4000000 in
set_option maxRecDepth 100000 in
theorem WB_X11_looked_91 {r9 : Int32} {C9 : Mem} (x0 : Int32) (x1 : Int32) (v1 : Int32) (v2 : Int32) (v4 : Int32) (C : Mem) (X : Cx p s m args meth c cX11_looked RX11 5 (some .int) dC dI ad bd cI cZ) {kb : Int32 → Int32 → Int32 → Mem → Option (Int32 × Mem)} (hkb : ∀ (v2' : Int32) (v3' : Int32) (v4' : Int32) (C' : Mem) (H : Heap) (locs : List Loc) (ls : Array Slot), Ys s dC dI ad bd cI cZ C' D H locs → lv_has ls 5 [(0, .ref (ad 0)), (1, .int v1), (2, .int v2'), (3, .int v3'), (4, .int v4')] → kb v2' v3' v4' C' = some (r9, C9) → W p l e rm_X11_looked s m args below meth c H locs 0 0 (MQ below (QC (some (.int r9)) dC dI ad bd cI cZ C9 D) args s 0 0 (AD ad bd)) (F0 m 47 ls [])) {H : Heap} {locs : List Loc} {ls : Array Slot} (Y : Ys s dC dI ad bd cI cZ C D H locs) (hl : lv_has ls 5 [(0, .ref (ad 0)), (1, .int v1), (2, .int v2), (4, .int v4)]) (h : B_X11_looked_91 x0 x1 v2 v4 C kb = some (r9, C9)) : W p l e rm_X11_looked s m args below meth c H locs 0 0 (MQ below (QC (some (.int r9)) dC dI ad bd cI cZ C9 D) args s 0 0 (AD ad bd)) (F0 m 91 ls [.int x1, .int x0]) := by
  have hx := X.1
  have hb := X.2.1
  unfold B_X11_looked_91 at h
  refine lv_iadd (pc := 91) hx hb dX11_looked_91 ?_
  obtain ⟨v3_92, ev3_92, h⟩ := lt_s_ h
  refine top_i ev3_92 ?_
  refine lv_istore_n (pc := 92) (lv' := [(3, .int v3_92), (0, .ref (ad 0)), (1, .int v1), (2, .int v2), (4, .int v4)]) hx hb dX11_looked_92 rfl hl (by decide) rfl (fun ls hl => ?_)
  exact WB_X11_looked_93 v1 v2 v3_92 v4 C X (kb := kb) hkb Y (lv_sub hl [1, 2, 3, 0, 4] rfl) h
set_option maxHeartbeats 4000000 in
set_option maxRecDepth 100000 in
theorem WL_X11_looked_47 {r9 : Int32} {C9 : Mem} (v1 : Int32) (X : Cx p s m args meth c cX11_looked RX11 5 (some .int) dC dI ad bd cI cZ) {kx : Int32 → Int32 → Mem → Option (Int32 × Mem)} (hkx : ∀ (v2' : Int32) (v3' : Int32) (C' : Mem) (H : Heap) (locs : List Loc) (ls : Array Slot), Ys s dC dI ad bd cI cZ C' D H locs → lv_has ls 5 [(2, .int v2'), (3, .int v3')] → kx v2' v3' C' = some (r9, C9) → W p l e rm_X11_looked s m args below meth c H locs 0 0 (MQ below (QC (some (.int r9)) dC dI ad bd cI cZ C9 D) args s 0 0 (AD ad bd)) (F0 m 99 ls [])) : ∀ (n_ : Nat) (v2 : Int32) (v3 : Int32) (v4 : Int32) (C : Mem) (H : Heap) (locs : List Loc) (ls : Array Slot), Ys s dC dI ad bd cI cZ C D H locs → lv_has ls 5 [(0, .ref (ad 0)), (1, .int v1), (2, .int v2), (3, .int v3), (4, .int v4)] → L_X11_looked_47 v1 kx n_ v2 v3 v4 C = some (r9, C9) → W p l e rm_X11_looked s m args below meth c H locs 0 0 (MQ below (QC (some (.int r9)) dC dI ad bd cI cZ C9 D) args s 0 0 (AD ad bd)) (F0 m 47 ls []) := by
  have hx := X.1
  have hb := X.2.1
  intro n_
  induction n_ with
  | zero =>
    intro v2 v3 v4 C H locs ls Y hl h
    cases h
  | succ n_ ih =>
    intro v2 v3 v4 C H locs ls Y hl h
    unfold L_X11_looked_47 at h
    refine lv_iload (pc := 47) hx hb dX11_looked_47 (lv_at hl 4 rfl) ?_
    refine lv_sipush (pc := 49) (v := 256) hx hb dX11_looked_49 (by decide) ?_
    refine lv_icmp_ge (pc := 52) (tgt := 99) hx hb dX11_looked_52 (by decide) (fun c_52 => ?_) (fun c_52 => ?_)
    · have h := itp c_52 h
      exact hkx v2 v3 C H locs ls Y (lv_sub hl [2, 3] rfl) h
    · have h := itn c_52 h
      refine lv_aload_n (pc := 55) hx hb dX11_looked_55 rfl (lv_at hl 0 rfl) ?_
      refine gf_X11_57 (pc := 56) X Y dX11_looked_56 ?_
      refine lv_iload (pc := 59) hx hb dX11_looked_59 (lv_at hl 4 rfl) ?_
      obtain ⟨r_61, C_61, e_61, h⟩ := bnd2_s h
      refine call_vNi (pc := 61) (rest := []) [.int v4] X Y (c_X3_reorder v4 e_61) sw_X11_295 (rv_X3 X Y) rfl ⟨rfl, rfl, Nat.le_of_ble_eq_true rfl, Nat.le_of_ble_eq_true rfl⟩ hl rfl (Nat.le_of_ble_eq_true rfl) dX11_looked_61 (fun H locs Y => ?_)
      refine lv_if_eq (pc := 64) (tgt := 93) hx hb dX11_looked_64 (by decide) (fun c_64 => ?_) (fun c_64 => ?_)
      · have h := itn (b2i_f c_64) h
        exact WB_X11_looked_93 v1 v2 v3 v4 C_61 X (kb := (L_X11_looked_47 v1 kx n_)) ih Y (lv_sub hl [0, 1, 2, 3, 4] rfl) h
      · have h := itp (b2i_t c_64) h
        obtain ⟨v2_67, ev2_67, h⟩ := lt_s_ h
        refine lv_iinc (pc := 67) (v := v2_67) (lv' := [(2, .int v2_67), (0, .ref (ad 0)), (1, .int v1), (3, .int v3), (4, .int v4)]) hx hb dX11_looked_67 hl (k := 2) rfl (by rw [ev2_67]; rfl) (by decide) rfl (fun ls hl => ?_)
        refine lv_iload_n (pc := 70) hx hb dX11_looked_70 rfl (lv_at hl 3 rfl) ?_
        refine lv_aload_n (pc := 71) hx hb dX11_looked_71 rfl (lv_at hl 1 rfl) ?_
        refine gf_X11_64 (pc := 72) X Y dX11_looked_72 ?_
        refine lv_aload_n (pc := 75) hx hb dX11_looked_75 rfl (lv_at hl 1 rfl) ?_
        refine gf_X11_57 (pc := 76) X Y dX11_looked_76 ?_
        obtain ⟨r_79, e_79, h⟩ := bnd_s h
        refine call_vNi (pc := 79) (rest := [.int v3]) [.ref (ad 32)] X Y (c_X10_greatest  e_79) sw_X11_292 (rv_X10 X Y) rfl ⟨rfl, rfl, Nat.le_of_ble_eq_true rfl, Nat.le_of_ble_eq_true rfl⟩ hl rfl (Nat.le_of_ble_eq_true rfl) dX11_looked_79 (fun H locs Y => ?_)
        refine lv_iload_n (pc := 82) hx hb dX11_looked_82 rfl (lv_at hl 2 rfl) ?_
        refine lv_icmp_lt (pc := 83) (tgt := 90) hx hb dX11_looked_83 (by decide) (fun c_83 => ?_) (fun c_83 => ?_)
        · have h := itp c_83 h
          refine lv_iconst (pc := 90) (v := 0) hx hb dX11_looked_90 (by decide) ?_
          exact WB_X11_looked_91 v3 0 v1 v2_67 v4 C_61 X (kb := (L_X11_looked_47 v1 kx n_)) ih Y (lv_sub hl [1, 2, 0, 4] rfl) h
        · have h := itn c_83 h
          refine lv_iconst (pc := 86) (v := 1) hx hb dX11_looked_86 (by decide) ?_
          refine lv_goto (pc := 87) (tgt := 91) hx hb dX11_looked_87 (by decide) ?_
          exact WB_X11_looked_91 v3 1 v1 v2_67 v4 C_61 X (kb := (L_X11_looked_47 v1 kx n_)) ih Y (lv_sub hl [1, 2, 0, 4] rfl) h
set_option maxHeartbeats 4000000 in
set_option maxRecDepth 100000 in
theorem c_X11_looked {r9 : Int32} {C9 : Mem} (h : f_X11_looked C = some (r9, C9)) : Ct l dC dI ad bd cI cZ yX11_looked cX11_looked 5 (some .int) rm_X11_looked [.ref (ad 0)] C D (some (.int r9)) C9 D := by
  unfold f_X11_looked at h
  refine Ct.intro (own := RX11) (by decide) rfl (Nat.le_of_ble_eq_true rfl) ?_
  intro p e s m args below meth c H locs ls X Y hl
  have hx := X.1
  have hb := X.2.1
  have hl : lv_has ls 5 [(0, .ref (ad 0))] := hl
  refine lv_aload_n (pc := 0) hx hb dX11_looked_0 rfl (lv_at hl 0 rfl) ?_
  obtain ⟨C_1, e_1, h⟩ := bnd_s h
  refine call_vv (pc := 1) (rest := []) [] X Y (c_X11_learnMeans  e_1) sw_X11_279 (rv_X11 X Y) rfl ⟨rfl, rfl, Nat.le_of_ble_eq_true rfl, Nat.le_of_ble_eq_true rfl⟩ hl rfl (Nat.le_of_ble_eq_true rfl) dX11_looked_1 (fun H locs Y => ?_)
  refine lv_aload_n (pc := 4) hx hb dX11_looked_4 rfl (lv_at hl 0 rfl) ?_
  refine gf_X11_64 (pc := 5) X Y dX11_looked_5 ?_
  refine gf_X11_286 (pc := 8) X Y dX11_looked_8 ?_
  refine lv_if_eq (pc := 11) (tgt := 25) hx hb dX11_looked_11 (by decide) (fun c_11 => ?_) (fun c_11 => ?_)
  · have h := itp c_11 h
    refine lv_bipush (pc := 25) (v := (-3)) hx hb dX11_looked_25 (by decide) ?_
    obtain ⟨hr9, hm9⟩ := ret_e h
    exact fin_i (pc := 27) X rfl Y hr9 hm9 rfl dX11_looked_27
  · have h := itn c_11 h
    refine lv_aload_n (pc := 14) hx hb dX11_looked_14 rfl (lv_at hl 0 rfl) ?_
    refine gf_X11_57 (pc := 15) X Y dX11_looked_15 ?_
    refine gf_X11_289 (pc := 18) X Y dX11_looked_18 ?_
    refine lv_iconst (pc := 21) (v := 2) hx hb dX11_looked_21 (by decide) ?_
    refine lv_icmp_ge (pc := 22) (tgt := 28) hx hb dX11_looked_22 (by decide) (fun c_22 => ?_) (fun c_22 => ?_)
    · have h := itp c_22 h
      refine lv_aload_n (pc := 28) hx hb dX11_looked_28 rfl (lv_at hl 0 rfl) ?_
      refine gf_X11_64 (pc := 29) X Y dX11_looked_29 ?_
      refine lv_aload_n (pc := 32) hx hb dX11_looked_32 rfl (lv_at hl 0 rfl) ?_
      refine gf_X11_57 (pc := 33) X Y dX11_looked_33 ?_
      obtain ⟨r_36, e_36, h⟩ := bnd_s h
      refine call_vNi (pc := 36) (rest := []) [.ref (ad 32)] X Y (c_X10_greatest  e_36) sw_X11_292 (rv_X10 X Y) rfl ⟨rfl, rfl, Nat.le_of_ble_eq_true rfl, Nat.le_of_ble_eq_true rfl⟩ hl rfl (Nat.le_of_ble_eq_true rfl) dX11_looked_36 (fun H locs Y => ?_)
      refine lv_istore_n (pc := 39) (lv' := [(1, .int r_36), (0, .ref (ad 0))]) hx hb dX11_looked_39 rfl hl (by decide) rfl (fun ls hl => ?_)
      refine lv_iconst (pc := 40) (v := 0) hx hb dX11_looked_40 (by decide) ?_
      refine lv_istore_n (pc := 41) (lv' := [(2, .int 0), (1, .int r_36), (0, .ref (ad 0))]) hx hb dX11_looked_41 rfl hl (by decide) rfl (fun ls hl => ?_)
      refine lv_iconst (pc := 42) (v := 0) hx hb dX11_looked_42 (by decide) ?_
      refine lv_istore_n (pc := 43) (lv' := [(3, .int 0), (2, .int 0), (1, .int r_36), (0, .ref (ad 0))]) hx hb dX11_looked_43 rfl hl (by decide) rfl (fun ls hl => ?_)
      refine lv_iconst (pc := 44) (v := 0) hx hb dX11_looked_44 (by decide) ?_
      refine lv_istore (pc := 45) (lv' := [(4, .int 0), (3, .int 0), (2, .int 0), (1, .int r_36), (0, .ref (ad 0))]) hx hb dX11_looked_45 hl (by decide) rfl (fun ls hl => ?_)
      refine WL_X11_looked_47 r_36 X (fun v2_99 v3_99 C_99 H locs ls Y hl h => ?_) FU 0 0 0 C_1 H locs ls Y (lv_sub hl [4, 3, 2, 1, 0] rfl) h
      refine lv_iload_n (pc := 99) hx hb dX11_looked_99 rfl (lv_at hl 1 rfl) ?_
      refine lv_iload_n (pc := 100) hx hb dX11_looked_100 rfl (lv_at hl 0 rfl) ?_
      obtain ⟨r_101, e_101, h⟩ := bnd_s h
      refine call_si (pc := 101) (rest := []) [.int v3_99, .int v2_99] X Y (c_X11_millionths v3_99 v2_99 e_101) sw_X11_298 rfl ⟨rfl, rfl, Nat.le_of_ble_eq_true rfl, Nat.le_of_ble_eq_true rfl⟩ hl rfl (Nat.le_of_ble_eq_true rfl) dX11_looked_101 (fun H locs Y => ?_)
      obtain ⟨hr9, hm9⟩ := ret_e h
      exact fin_i (pc := 104) X rfl Y hr9 hm9 rfl dX11_looked_104
    · have h := itn c_22 h
      refine lv_bipush (pc := 25) (v := (-3)) hx hb dX11_looked_25 (by decide) ?_
      obtain ⟨hr9, hm9⟩ := ret_e h
      exact fin_i (pc := 27) X rfl Y hr9 hm9 rfl dX11_looked_27
abbrev rm_X11_story : Room := { frames := 1, cells := 0, slots := 0, locals := 24 }
set_option maxHeartbeats 4000000 in
set_option maxRecDepth 100000 in
theorem c_X11_story {r9 : Int32} {C9 : Mem} (v1 : Int32) (v2 : Int32) (v3 : Int32) (h : f_X11_story v1 v2 v3 C = some (r9, C9)) : Ct l dC dI ad bd cI cZ yX11_story cX11_story 4 (some .int) rm_X11_story [.ref (ad 0), .int v1, .int v2, .int v3] C D (some (.int r9)) C9 D := by
  unfold f_X11_story at h
  refine Ct.intro (own := RX11) (by decide) rfl (Nat.le_of_ble_eq_true rfl) ?_
  intro p e s m args below meth c H locs ls X Y hl
  have hx := X.1
  have hb := X.2.1
  have hl : lv_has ls 4 [(0, .ref (ad 0)), (1, .int v1), (2, .int v2), (3, .int v3)] := hl
  refine lv_iload_n (pc := 0) hx hb dX11_story_0 rfl (lv_at hl 1 rfl) ?_
  refine lv_iconst (pc := 1) (v := 2) hx hb dX11_story_1 (by decide) ?_
  refine call_si (pc := 2) (rest := []) [.int v1, .int 2] X Y (c_X11_isWithin v1 2) sw_X11_145 rfl ⟨rfl, rfl, Nat.le_of_ble_eq_true rfl, Nat.le_of_ble_eq_true rfl⟩ hl rfl (Nat.le_of_ble_eq_true rfl) dX11_story_2 (fun H locs Y => ?_)
  refine lv_if_eq (pc := 5) (tgt := 16) hx hb dX11_story_5 (by decide) (fun c_5 => ?_) (fun c_5 => ?_)
  · have h := itn (b2i_f c_5) h
    refine lv_bipush (pc := 16) (v := (-2)) hx hb dX11_story_16 (by decide) ?_
    obtain ⟨hr9, hm9⟩ := ret_e h
    exact fin_i (pc := 18) X rfl Y hr9 hm9 rfl dX11_story_18
  · have h := itp (b2i_t c_5) h
    refine lv_iload_n (pc := 8) hx hb dX11_story_8 rfl (lv_at hl 2 rfl) ?_
    refine lv_iconst (pc := 9) (v := 2) hx hb dX11_story_9 (by decide) ?_
    refine call_si (pc := 10) (rest := []) [.int v2, .int 2] X Y (c_X11_isWithin v2 2) sw_X11_145 rfl ⟨rfl, rfl, Nat.le_of_ble_eq_true rfl, Nat.le_of_ble_eq_true rfl⟩ hl rfl (Nat.le_of_ble_eq_true rfl) dX11_story_10 (fun H locs Y => ?_)
    refine lv_if_ne (pc := 13) (tgt := 19) hx hb dX11_story_13 (by decide) (fun c_13 => ?_) (fun c_13 => ?_)
    · have h := itp (b2i_t c_13) h
      refine lv_iload_n (pc := 19) hx hb dX11_story_19 rfl (lv_at hl 3 rfl) ?_
      refine lv_iconst (pc := 20) (v := 1) hx hb dX11_story_20 (by decide) ?_
      refine lv_icmp_lt (pc := 21) (tgt := 30) hx hb dX11_story_21 (by decide) (fun c_21 => ?_) (fun c_21 => ?_)
      · have h := itp c_21 h
        refine lv_bipush (pc := 30) (v := (-2)) hx hb dX11_story_30 (by decide) ?_
        obtain ⟨hr9, hm9⟩ := ret_e h
        exact fin_i (pc := 32) X rfl Y hr9 hm9 rfl dX11_story_32
      · have h := itn c_21 h
        refine lv_iload_n (pc := 24) hx hb dX11_story_24 rfl (lv_at hl 3 rfl) ?_
        refine lv_bipush (pc := 25) (v := 15) hx hb dX11_story_25 (by decide) ?_
        refine lv_icmp_le (pc := 27) (tgt := 33) hx hb dX11_story_27 (by decide) (fun c_27 => ?_) (fun c_27 => ?_)
        · have h := itp c_27 h
          refine lv_aload_n (pc := 33) hx hb dX11_story_33 rfl (lv_at hl 0 rfl) ?_
          refine gf_X11_71 (pc := 34) X Y dX11_story_34 ?_
          refine lv_iload_n (pc := 37) hx hb dX11_story_37 rfl (lv_at hl 1 rfl) ?_
          refine lv_iload_n (pc := 38) hx hb dX11_story_38 rfl (lv_at hl 2 rfl) ?_
          refine lv_iload_n (pc := 39) hx hb dX11_story_39 rfl (lv_at hl 3 rfl) ?_
          obtain ⟨r_40, C_40, e_40, h⟩ := bnd2_s h
          refine call_vNi (pc := 40) (rest := []) [.int v1, .int v2, .int v3] X Y (c_X8_change v1 v2 v3 e_40) sw_X11_306 (rv_X8 X Y) rfl ⟨rfl, rfl, Nat.le_of_ble_eq_true rfl, Nat.le_of_ble_eq_true rfl⟩ hl rfl (Nat.le_of_ble_eq_true rfl) dX11_story_40 (fun H locs Y => ?_)
          obtain ⟨hr9, hm9⟩ := ret_e h
          exact fin_i (pc := 43) X rfl Y hr9 hm9 rfl dX11_story_43
        · have h := itn c_27 h
          refine lv_bipush (pc := 30) (v := (-2)) hx hb dX11_story_30 (by decide) ?_
          obtain ⟨hr9, hm9⟩ := ret_e h
          exact fin_i (pc := 32) X rfl Y hr9 hm9 rfl dX11_story_32
    · have h := itn (b2i_f c_13) h
      refine lv_bipush (pc := 16) (v := (-2)) hx hb dX11_story_16 (by decide) ?_
      obtain ⟨hr9, hm9⟩ := ret_e h
      exact fin_i (pc := 18) X rfl Y hr9 hm9 rfl dX11_story_18
abbrev rm_X11_odds : Room := { frames := 3, cells := 0, slots := 0, locals := 67 }
set_option maxHeartbeats 4000000 in
set_option maxRecDepth 100000 in
theorem WB_X11_odds_22 {r9 : Int64} {C9 : Mem} (C : Mem) (X : Cx p s m args meth c cX11_odds RX11 7 (some .long) dC dI ad bd cI cZ) {H : Heap} {locs : List Loc} {ls : Array Slot} (Y : Ys s dC dI ad bd cI cZ C D H locs) (hl : lv_has ls 7 []) (h : B_X11_odds_22 C = some (r9, C9)) : W p l e rm_X11_odds s m args below meth c H locs 0 0 (MQ below (QC (some (.long r9)) dC dI ad bd cI cZ C9 D) args s 0 0 (AD ad bd)) (F0 m 22 ls []) := by
  have hx := X.1
  have hb := X.2.1
  unfold B_X11_odds_22 at h
  refine lv_bipush (pc := 22) (v := (-2)) hx hb dX11_odds_22 (by decide) ?_
  refine call_sl (pc := 24) (rest := []) [.int (-2)] X Y (c_X11_asLong (-2)) sw_X11_166 rfl ⟨rfl, rfl, Nat.le_of_ble_eq_true rfl, Nat.le_of_ble_eq_true rfl⟩ hl rfl (Nat.le_of_ble_eq_true rfl) dX11_odds_24 (fun H locs Y => ?_)
  obtain ⟨hr9, hm9⟩ := ret_e h
  exact fin_l (pc := 27) X rfl Y hr9 hm9 rfl dX11_odds_27
set_option maxHeartbeats 4000000 in
set_option maxRecDepth 100000 in
theorem WL_X11_odds_65 {r9 : Int64} {C9 : Mem} (v2 : Int32) (v3 : Int32) (C : Mem) (X : Cx p s m args meth c cX11_odds RX11 7 (some .long) dC dI ad bd cI cZ) {kx : Int64 → Option (Int64 × Mem)} (hkx : ∀ (v4' : Int64) (H : Heap) (locs : List Loc) (ls : Array Slot), Ys s dC dI ad bd cI cZ C D H locs → lv_has ls 7 [(0, .ref (ad 0)), (2, .int v2), (3, .int v3), (4, .long v4')] → kx v4' = some (r9, C9) → W p l e rm_X11_odds s m args below meth c H locs 0 0 (MQ below (QC (some (.long r9)) dC dI ad bd cI cZ C9 D) args s 0 0 (AD ad bd)) (F0 m 95 ls [])) : ∀ (n_ : Nat) (v4 : Int64) (v6 : Int32) (H : Heap) (locs : List Loc) (ls : Array Slot), Ys s dC dI ad bd cI cZ C D H locs → lv_has ls 7 [(0, .ref (ad 0)), (2, .int v2), (3, .int v3), (4, .long v4), (6, .int v6)] → L_X11_odds_65 C kx n_ v4 v6 = some (r9, C9) → W p l e rm_X11_odds s m args below meth c H locs 0 0 (MQ below (QC (some (.long r9)) dC dI ad bd cI cZ C9 D) args s 0 0 (AD ad bd)) (F0 m 65 ls []) := by
  have hx := X.1
  have hb := X.2.1
  intro n_
  induction n_ with
  | zero =>
    intro v4 v6 H locs ls Y hl h
    cases h
  | succ n_ ih =>
    intro v4 v6 H locs ls Y hl h
    unfold L_X11_odds_65 at h
    refine lv_iload (pc := 65) hx hb dX11_odds_65 (lv_at hl 4 rfl) ?_
    refine lv_iconst (pc := 67) (v := 3) hx hb dX11_odds_67 (by decide) ?_
    refine lv_icmp_ge (pc := 68) (tgt := 95) hx hb dX11_odds_68 (by decide) (fun c_68 => ?_) (fun c_68 => ?_)
    · have h := itp c_68 h
      exact hkx v4 H locs ls Y (lv_sub hl [0, 1, 2, 3] rfl) h
    · have h := itn c_68 h
      refine lv_lload (pc := 71) hx hb dX11_odds_71 (lv_at hl 3 rfl) ?_
      refine lv_aload_n (pc := 73) hx hb dX11_odds_73 rfl (lv_at hl 0 rfl) ?_
      refine gf_X11_71 (pc := 74) X Y dX11_odds_74 ?_
      refine lv_iload (pc := 77) hx hb dX11_odds_77 (lv_at hl 4 rfl) ?_
      refine lv_aload_n (pc := 79) hx hb dX11_odds_79 rfl (lv_at hl 0 rfl) ?_
      refine gf_X11_19 (pc := 80) X Y dX11_odds_80 ?_
      obtain ⟨r_83, e_83, h⟩ := bnd_s h
      refine call_vNl (pc := 83) (rest := [.long v4]) [.int v6, .ref (ad 8)] X Y (c_X8_likely v6 8 tl8 e_83) sw_X11_307 (rv_X8 X Y) rfl ⟨rfl, rfl, Nat.le_of_ble_eq_true rfl, Nat.le_of_ble_eq_true rfl⟩ hl rfl (Nat.le_of_ble_eq_true rfl) dX11_odds_83 (fun H locs Y => ?_)
      refine lv_ladd (pc := 86) hx hb dX11_odds_86 ?_
      obtain ⟨v4_87, ev4_87, h⟩ := lt_s_ h
      refine top_l ev4_87 ?_
      refine lv_lstore (pc := 87) (lv' := [(4, .long v4_87), (0, .ref (ad 0)), (2, .int v2), (3, .int v3), (6, .int v6)]) hx hb dX11_odds_87 hl (by decide) rfl (fun ls hl => ?_)
      obtain ⟨v6_89, ev6_89, h⟩ := lt_s_ h
      refine lv_iinc (pc := 89) (v := v6_89) (lv' := [(6, .int v6_89), (4, .long v4_87), (0, .ref (ad 0)), (2, .int v2), (3, .int v3)]) hx hb dX11_odds_89 hl (k := 4) rfl (by rw [ev6_89]; rfl) (by decide) rfl (fun ls hl => ?_)
      refine lv_goto (pc := 92) (tgt := 65) hx hb dX11_odds_92 (by decide) ?_
      exact ih v4_87 v6_89 H locs ls Y (lv_sub hl [2, 3, 4, 1, 0] rfl) h
set_option maxHeartbeats 4000000 in
set_option maxRecDepth 100000 in
theorem c_X11_odds {r9 : Int64} {C9 : Mem} (v1 : Int32) (v2 : Int32) (v3 : Int32) (h : f_X11_odds v1 v2 v3 C = some (r9, C9)) : Ct l dC dI ad bd cI cZ yX11_odds cX11_odds 7 (some .long) rm_X11_odds [.ref (ad 0), .int v1, .int v2, .int v3] C D (some (.long r9)) C9 D := by
  unfold f_X11_odds at h
  refine Ct.intro (own := RX11) (by decide) rfl (Nat.le_of_ble_eq_true rfl) ?_
  intro p e s m args below meth c H locs ls X Y hl
  have hx := X.1
  have hb := X.2.1
  have hl : lv_has ls 7 [(0, .ref (ad 0)), (1, .int v1), (2, .int v2), (3, .int v3)] := hl
  refine lv_iload_n (pc := 0) hx hb dX11_odds_0 rfl (lv_at hl 1 rfl) ?_
  refine call_si (pc := 1) (rest := []) [.int v1] X Y (c_X11_isPeopleOrAll v1) sw_X11_142 rfl ⟨rfl, rfl, Nat.le_of_ble_eq_true rfl, Nat.le_of_ble_eq_true rfl⟩ hl rfl (Nat.le_of_ble_eq_true rfl) dX11_odds_1 (fun H locs Y => ?_)
  refine lv_if_eq (pc := 4) (tgt := 22) hx hb dX11_odds_4 (by decide) (fun c_4 => ?_) (fun c_4 => ?_)
  · have h := itn (b2i_f c_4) h
    exact WB_X11_odds_22  C X Y (lv_sub hl [] rfl) h
  · have h := itp (b2i_t c_4) h
    refine lv_iload_n (pc := 7) hx hb dX11_odds_7 rfl (lv_at hl 2 rfl) ?_
    refine lv_iconst (pc := 8) (v := 2) hx hb dX11_odds_8 (by decide) ?_
    refine call_si (pc := 9) (rest := []) [.int v2, .int 2] X Y (c_X11_isWithin v2 2) sw_X11_145 rfl ⟨rfl, rfl, Nat.le_of_ble_eq_true rfl, Nat.le_of_ble_eq_true rfl⟩ hl rfl (Nat.le_of_ble_eq_true rfl) dX11_odds_9 (fun H locs Y => ?_)
    refine lv_if_eq (pc := 12) (tgt := 22) hx hb dX11_odds_12 (by decide) (fun c_12 => ?_) (fun c_12 => ?_)
    · have h := itn (b2i_f c_12) h
      exact WB_X11_odds_22  C X Y (lv_sub hl [] rfl) h
    · have h := itp (b2i_t c_12) h
      refine lv_iload_n (pc := 15) hx hb dX11_odds_15 rfl (lv_at hl 3 rfl) ?_
      refine call_si (pc := 16) (rest := []) [.int v3] X Y (c_X11_isPart v3) sw_X11_163 rfl ⟨rfl, rfl, Nat.le_of_ble_eq_true rfl, Nat.le_of_ble_eq_true rfl⟩ hl rfl (Nat.le_of_ble_eq_true rfl) dX11_odds_16 (fun H locs Y => ?_)
      refine lv_if_ne (pc := 19) (tgt := 28) hx hb dX11_odds_19 (by decide) (fun c_19 => ?_) (fun c_19 => ?_)
      · have h := itp (b2i_t c_19) h
        refine lv_aload_n (pc := 28) hx hb dX11_odds_28 rfl (lv_at hl 0 rfl) ?_
        refine gf_X11_12 (pc := 29) X Y dX11_odds_29 ?_
        refine lv_iload_n (pc := 32) hx hb dX11_odds_32 rfl (lv_at hl 1 rfl) ?_
        refine lv_iconst (pc := 33) (v := 0) hx hb dX11_odds_33 (by decide) ?_
        refine lv_aload_n (pc := 34) hx hb dX11_odds_34 rfl (lv_at hl 0 rfl) ?_
        refine gf_X11_19 (pc := 35) X Y dX11_odds_35 ?_
        obtain ⟨C_38, e_38, h⟩ := bnd_s h
        refine call_vNv (pc := 38) (rest := []) [.int v1, .int 0, .ref (ad 8)] X Y (c_X4_tally v1 0 8 tl8 e_38) sw_X11_149 (rv_X4 X Y) rfl ⟨rfl, rfl, Nat.le_of_ble_eq_true rfl, Nat.le_of_ble_eq_true rfl⟩ hl rfl (Nat.le_of_ble_eq_true rfl) dX11_odds_38 (fun H locs Y => ?_)
        refine lv_aload_n (pc := 41) hx hb dX11_odds_41 rfl (lv_at hl 0 rfl) ?_
        refine gf_X11_19 (pc := 42) X Y dX11_odds_42 ?_
        refine gf_X11_153 (pc := 45) X Y tl8 dX11_odds_45 ?_
        refine lv_bipush (pc := 48) (v := 14) hx hb dX11_odds_48 (by decide) ?_
        refine lv_icmp_le (pc := 50) (tgt := 59) hx hb dX11_odds_50 (by decide) (fun c_50 => ?_) (fun c_50 => ?_)
        · have h := itp c_50 h
          refine lv_lconst (pc := 59) (v := 0) hx hb dX11_odds_59 (by decide) ?_
          refine lv_lstore (pc := 60) (lv' := [(4, .long 0), (0, .ref (ad 0)), (1, .int v1), (2, .int v2), (3, .int v3)]) hx hb dX11_odds_60 hl (by decide) rfl (fun ls hl => ?_)
          refine lv_iconst (pc := 62) (v := 0) hx hb dX11_odds_62 (by decide) ?_
          refine lv_istore (pc := 63) (lv' := [(6, .int 0), (4, .long 0), (0, .ref (ad 0)), (1, .int v1), (2, .int v2), (3, .int v3)]) hx hb dX11_odds_63 hl (by decide) rfl (fun ls hl => ?_)
          refine WL_X11_odds_65 v2 v3 C_38 X (fun v4_95 H locs ls Y hl h => ?_) FU 0 0 H locs ls Y (lv_sub hl [2, 4, 5, 1, 0] rfl) h
          refine lv_aload_n (pc := 95) hx hb dX11_odds_95 rfl (lv_at hl 0 rfl) ?_
          refine gf_X11_71 (pc := 96) X Y dX11_odds_96 ?_
          refine lv_iload_n (pc := 99) hx hb dX11_odds_99 rfl (lv_at hl 1 rfl) ?_
          refine lv_aload_n (pc := 100) hx hb dX11_odds_100 rfl (lv_at hl 0 rfl) ?_
          refine gf_X11_19 (pc := 101) X Y dX11_odds_101 ?_
          obtain ⟨r_104, e_104, h⟩ := bnd_s h
          refine call_vNl (pc := 104) (rest := []) [.int v2, .ref (ad 8)] X Y (c_X8_likely v2 8 tl8 e_104) sw_X11_307 (rv_X8 X Y) rfl ⟨rfl, rfl, Nat.le_of_ble_eq_true rfl, Nat.le_of_ble_eq_true rfl⟩ hl rfl (Nat.le_of_ble_eq_true rfl) dX11_odds_104 (fun H locs Y => ?_)
          refine lv_lload (pc := 107) hx hb dX11_odds_107 (lv_at hl 3 rfl) ?_
          refine lv_iload_n (pc := 109) hx hb dX11_odds_109 rfl (lv_at hl 2 rfl) ?_
          obtain ⟨r_110, e_110, h⟩ := bnd_s h
          refine call_sl (pc := 110) (rest := []) [.long r_104, .long v4_95, .int v3] X Y (c_X11_fraction r_104 v4_95 v3 e_110) sw_X11_173 rfl ⟨rfl, rfl, Nat.le_of_ble_eq_true rfl, Nat.le_of_ble_eq_true rfl⟩ hl rfl (Nat.le_of_ble_eq_true rfl) dX11_odds_110 (fun H locs Y => ?_)
          obtain ⟨hr9, hm9⟩ := ret_e h
          exact fin_l (pc := 113) X rfl Y hr9 hm9 rfl dX11_odds_113
        · have h := itn c_50 h
          refine lv_bipush (pc := 53) (v := (-4)) hx hb dX11_odds_53 (by decide) ?_
          refine call_sl (pc := 55) (rest := []) [.int (-4)] X Y (c_X11_asLong (-4)) sw_X11_166 rfl ⟨rfl, rfl, Nat.le_of_ble_eq_true rfl, Nat.le_of_ble_eq_true rfl⟩ hl rfl (Nat.le_of_ble_eq_true rfl) dX11_odds_55 (fun H locs Y => ?_)
          obtain ⟨hr9, hm9⟩ := ret_e h
          exact fin_l (pc := 58) X rfl Y hr9 hm9 rfl dX11_odds_58
      · have h := itn (b2i_f c_19) h
        exact WB_X11_odds_22  C X Y (lv_sub hl [] rfl) h
abbrev rm_X11_round : Room := { frames := 2, cells := 0, slots := 0, locals := 41 }
set_option maxHeartbeats 4000000 in
set_option maxRecDepth 100000 in
theorem c_X11_round {r9 : Int32} {C9 : Mem} (v1 : Int32) (v2 : Int32) (h : f_X11_round v1 v2 C = some (r9, C9)) : Ct l dC dI ad bd cI cZ yX11_round cX11_round 3 (some .int) rm_X11_round [.ref (ad 0), .int v1, .int v2] C D (some (.int r9)) C9 D := by
  unfold f_X11_round at h
  refine Ct.intro (own := RX11) (by decide) rfl (Nat.le_of_ble_eq_true rfl) ?_
  intro p e s m args below meth c H locs ls X Y hl
  have hx := X.1
  have hb := X.2.1
  have hl : lv_has ls 3 [(0, .ref (ad 0)), (1, .int v1), (2, .int v2)] := hl
  refine lv_iload_n (pc := 0) hx hb dX11_round_0 rfl (lv_at hl 1 rfl) ?_
  refine call_si (pc := 1) (rest := []) [.int v1] X Y (c_X11_isOffer v1) sw_X11_96 rfl ⟨rfl, rfl, Nat.le_of_ble_eq_true rfl, Nat.le_of_ble_eq_true rfl⟩ hl rfl (Nat.le_of_ble_eq_true rfl) dX11_round_1 (fun H locs Y => ?_)
  refine lv_if_eq (pc := 4) (tgt := 14) hx hb dX11_round_4 (by decide) (fun c_4 => ?_) (fun c_4 => ?_)
  · have h := itn (b2i_f c_4) h
    refine lv_bipush (pc := 14) (v := (-2)) hx hb dX11_round_14 (by decide) ?_
    obtain ⟨hr9, hm9⟩ := ret_e h
    exact fin_i (pc := 16) X rfl Y hr9 hm9 rfl dX11_round_16
  · have h := itp (b2i_t c_4) h
    refine lv_iload_n (pc := 7) hx hb dX11_round_7 rfl (lv_at hl 2 rfl) ?_
    refine call_si (pc := 8) (rest := []) [.int v2] X Y (c_X11_isAnswer v2) sw_X11_99 rfl ⟨rfl, rfl, Nat.le_of_ble_eq_true rfl, Nat.le_of_ble_eq_true rfl⟩ hl rfl (Nat.le_of_ble_eq_true rfl) dX11_round_8 (fun H locs Y => ?_)
    refine lv_if_ne (pc := 11) (tgt := 17) hx hb dX11_round_11 (by decide) (fun c_11 => ?_) (fun c_11 => ?_)
    · have h := itp (b2i_t c_11) h
      refine lv_aload_n (pc := 17) hx hb dX11_round_17 rfl (lv_at hl 0 rfl) ?_
      refine gf_X11_78 (pc := 18) X Y dX11_round_18 ?_
      refine lv_iload_n (pc := 21) hx hb dX11_round_21 rfl (lv_at hl 1 rfl) ?_
      refine lv_iload_n (pc := 22) hx hb dX11_round_22 rfl (lv_at hl 2 rfl) ?_
      obtain ⟨r_23, C_23, e_23, h⟩ := bnd2_s h
      refine call_vNi (pc := 23) (rest := []) [.int v1, .int v2] X Y (c_X5_add v1 v2 e_23) sw_X11_311 (rv_X5 X Y) rfl ⟨rfl, rfl, Nat.le_of_ble_eq_true rfl, Nat.le_of_ble_eq_true rfl⟩ hl rfl (Nat.le_of_ble_eq_true rfl) dX11_round_23 (fun H locs Y => ?_)
      obtain ⟨hr9, hm9⟩ := ret_e h
      exact fin_i (pc := 26) X rfl Y hr9 hm9 rfl dX11_round_26
    · have h := itn (b2i_f c_11) h
      refine lv_bipush (pc := 14) (v := (-2)) hx hb dX11_round_14 (by decide) ?_
      obtain ⟨hr9, hm9⟩ := ret_e h
      exact fin_i (pc := 16) X rfl Y hr9 hm9 rfl dX11_round_16
abbrev rm_X11_forget : Room := { frames := 0, cells := 0, slots := 0, locals := 0 }
set_option maxHeartbeats 4000000 in
set_option maxRecDepth 100000 in
theorem c_X11_forget {r9 : Int32} {C9 : Mem} (h : f_X11_forget C = some (r9, C9)) : Ct l dC dI ad bd cI cZ yX11_forget cX11_forget 2 (some .int) rm_X11_forget [.ref (ad 0)] C D (some (.int r9)) C9 D := by
  unfold f_X11_forget at h
  refine Ct.intro (own := RX11) (by decide) rfl (Nat.le_of_ble_eq_true rfl) ?_
  intro p e s m args below meth c H locs ls X Y hl
  have hx := X.1
  have hb := X.2.1
  have hl : lv_has ls 2 [(0, .ref (ad 0))] := hl
  refine lv_aload_n (pc := 0) hx hb dX11_forget_0 rfl (lv_at hl 0 rfl) ?_
  refine gf_X11_78 (pc := 1) X Y dX11_forget_1 ?_
  refine gf_X11_312 (pc := 4) X Y dX11_forget_4 ?_
  obtain ⟨v1_7, ev1_7, h⟩ := lt_s_ h
  refine top_i ev1_7 ?_
  refine lv_istore_n (pc := 7) (lv' := [(1, .int v1_7), (0, .ref (ad 0))]) hx hb dX11_forget_7 rfl hl (by decide) rfl (fun ls hl => ?_)
  refine lv_aload_n (pc := 8) hx hb dX11_forget_8 rfl (lv_at hl 1 rfl) ?_
  refine gf_X11_78 (pc := 9) X Y dX11_forget_9 ?_
  refine lv_iconst (pc := 12) (v := 0) hx hb dX11_forget_12 (by decide) ?_
  obtain ⟨C_13, hC_13, h⟩ := sto_s h
  refine pf_X11_312 (pc := 13) X Y hC_13 dX11_forget_13 (fun H locs Y => ?_)
  refine lv_iload_n (pc := 16) hx hb dX11_forget_16 rfl (lv_at hl 0 rfl) ?_
  obtain ⟨hr9, hm9⟩ := ret_e h
  exact fin_i (pc := 17) X rfl Y hr9 hm9 rfl dX11_forget_17
abbrev rm_X11_misses : Room := { frames := 2, cells := 0, slots := 0, locals := 47 }
set_option maxHeartbeats 4000000 in
set_option maxRecDepth 100000 in
theorem c_X11_misses {r9 : Int32} (v1 : Int32) (v2 : Int32) (h : f_X11_misses v1 v2 C = some r9) : Ct l dC dI ad bd cI cZ yX11_misses cX11_misses 3 (some .int) rm_X11_misses [.ref (ad 0), .int v1, .int v2] C D (some (.int r9)) C D := by
  unfold f_X11_misses at h
  refine Ct.intro (own := RX11) (by decide) rfl (Nat.le_of_ble_eq_true rfl) ?_
  intro p e s m args below meth c H locs ls X Y hl
  have hx := X.1
  have hb := X.2.1
  have hl : lv_has ls 3 [(0, .ref (ad 0)), (1, .int v1), (2, .int v2)] := hl
  refine lv_iload_n (pc := 0) hx hb dX11_misses_0 rfl (lv_at hl 1 rfl) ?_
  refine lv_iconst (pc := 1) (v := 4) hx hb dX11_misses_1 (by decide) ?_
  refine call_si (pc := 2) (rest := []) [.int v1, .int 4] X Y (c_X11_isWithin v1 4) sw_X11_145 rfl ⟨rfl, rfl, Nat.le_of_ble_eq_true rfl, Nat.le_of_ble_eq_true rfl⟩ hl rfl (Nat.le_of_ble_eq_true rfl) dX11_misses_2 (fun H locs Y => ?_)
  refine lv_if_eq (pc := 5) (tgt := 16) hx hb dX11_misses_5 (by decide) (fun c_5 => ?_) (fun c_5 => ?_)
  · have h := itn (b2i_f c_5) h
    refine lv_bipush (pc := 16) (v := (-2)) hx hb dX11_misses_16 (by decide) ?_
    have hr9 := ret_p h
    exact fin_i (pc := 18) X rfl Y hr9 rfl rfl dX11_misses_18
  · have h := itp (b2i_t c_5) h
    refine lv_iload_n (pc := 8) hx hb dX11_misses_8 rfl (lv_at hl 2 rfl) ?_
    refine lv_iconst (pc := 9) (v := 4) hx hb dX11_misses_9 (by decide) ?_
    refine call_si (pc := 10) (rest := []) [.int v2, .int 4] X Y (c_X11_isWithin v2 4) sw_X11_145 rfl ⟨rfl, rfl, Nat.le_of_ble_eq_true rfl, Nat.le_of_ble_eq_true rfl⟩ hl rfl (Nat.le_of_ble_eq_true rfl) dX11_misses_10 (fun H locs Y => ?_)
    refine lv_if_ne (pc := 13) (tgt := 19) hx hb dX11_misses_13 (by decide) (fun c_13 => ?_) (fun c_13 => ?_)
    · have h := itp (b2i_t c_13) h
      refine lv_aload_n (pc := 19) hx hb dX11_misses_19 rfl (lv_at hl 0 rfl) ?_
      refine gf_X11_78 (pc := 20) X Y dX11_misses_20 ?_
      refine lv_iload_n (pc := 23) hx hb dX11_misses_23 rfl (lv_at hl 1 rfl) ?_
      refine lv_iload_n (pc := 24) hx hb dX11_misses_24 rfl (lv_at hl 2 rfl) ?_
      obtain ⟨r_25, e_25, h⟩ := bnd_s h
      refine call_vNi (pc := 25) (rest := []) [.int v1, .int v2] X Y (c_X5_missesOf v1 v2 e_25) sw_X11_313 (rv_X5 X Y) rfl ⟨rfl, rfl, Nat.le_of_ble_eq_true rfl, Nat.le_of_ble_eq_true rfl⟩ hl rfl (Nat.le_of_ble_eq_true rfl) dX11_misses_25 (fun H locs Y => ?_)
      have hr9 := ret_p h
      exact fin_i (pc := 28) X rfl Y hr9 rfl rfl dX11_misses_28
    · have h := itn (b2i_f c_13) h
      refine lv_bipush (pc := 16) (v := (-2)) hx hb dX11_misses_16 (by decide) ?_
      have hr9 := ret_p h
      exact fin_i (pc := 18) X rfl Y hr9 rfl rfl dX11_misses_18
abbrev rm_X11_learnt : Room := { frames := 3, cells := 0, slots := 0, locals := 70 }
set_option maxHeartbeats 4000000 in
set_option maxRecDepth 100000 in
theorem c_X11_learnt {r9 : Int32} {C9 : Mem} (v1 : Int32) (h : f_X11_learnt v1 C = some (r9, C9)) : Ct l dC dI ad bd cI cZ yX11_learnt cX11_learnt 2 (some .int) rm_X11_learnt [.ref (ad 0), .int v1] C D (some (.int r9)) C9 D := by
  unfold f_X11_learnt at h
  refine Ct.intro (own := RX11) (by decide) rfl (Nat.le_of_ble_eq_true rfl) ?_
  intro p e s m args below meth c H locs ls X Y hl
  have hx := X.1
  have hb := X.2.1
  have hl : lv_has ls 2 [(0, .ref (ad 0)), (1, .int v1)] := hl
  refine lv_iload_n (pc := 0) hx hb dX11_learnt_0 rfl (lv_at hl 1 rfl) ?_
  refine lv_iconst (pc := 1) (v := 4) hx hb dX11_learnt_1 (by decide) ?_
  refine call_si (pc := 2) (rest := []) [.int v1, .int 4] X Y (c_X11_isWithin v1 4) sw_X11_145 rfl ⟨rfl, rfl, Nat.le_of_ble_eq_true rfl, Nat.le_of_ble_eq_true rfl⟩ hl rfl (Nat.le_of_ble_eq_true rfl) dX11_learnt_2 (fun H locs Y => ?_)
  refine lv_if_ne (pc := 5) (tgt := 11) hx hb dX11_learnt_5 (by decide) (fun c_5 => ?_) (fun c_5 => ?_)
  · have h := itp (b2i_t c_5) h
    refine lv_iload_n (pc := 11) hx hb dX11_learnt_11 rfl (lv_at hl 1 rfl) ?_
    refine lv_iconst (pc := 12) (v := 3) hx hb dX11_learnt_12 (by decide) ?_
    refine lv_icmp_ne (pc := 13) (tgt := 24) hx hb dX11_learnt_13 (by decide) (fun c_13 => ?_) (fun c_13 => ?_)
    · have h := itn c_13 h
      refine lv_iload_n (pc := 24) hx hb dX11_learnt_24 rfl (lv_at hl 1 rfl) ?_
      refine lv_iconst (pc := 25) (v := 4) hx hb dX11_learnt_25 (by decide) ?_
      refine lv_icmp_ne (pc := 26) (tgt := 37) hx hb dX11_learnt_26 (by decide) (fun c_26 => ?_) (fun c_26 => ?_)
      · have h := itn c_26 h
        refine lv_aload_n (pc := 37) hx hb dX11_learnt_37 rfl (lv_at hl 0 rfl) ?_
        refine gf_X11_78 (pc := 38) X Y dX11_learnt_38 ?_
        refine gf_X11_312 (pc := 41) X Y dX11_learnt_41 ?_
        refine lv_iconst (pc := 44) (v := 2) hx hb dX11_learnt_44 (by decide) ?_
        refine lv_icmp_ge (pc := 45) (tgt := 51) hx hb dX11_learnt_45 (by decide) (fun c_45 => ?_) (fun c_45 => ?_)
        · have h := itp c_45 h
          refine lv_aload_n (pc := 51) hx hb dX11_learnt_51 rfl (lv_at hl 0 rfl) ?_
          refine gf_X11_78 (pc := 52) X Y dX11_learnt_52 ?_
          obtain ⟨C_55, e_55, h⟩ := bnd_s h
          refine call_vNv (pc := 55) (rest := []) [] X Y (c_X5_learn  e_55) sw_X11_322 (rv_X5 X Y) rfl ⟨rfl, rfl, Nat.le_of_ble_eq_true rfl, Nat.le_of_ble_eq_true rfl⟩ hl rfl (Nat.le_of_ble_eq_true rfl) dX11_learnt_55 (fun H locs Y => ?_)
          refine lv_iload_n (pc := 58) hx hb dX11_learnt_58 rfl (lv_at hl 1 rfl) ?_
          refine lv_iconst (pc := 59) (v := 2) hx hb dX11_learnt_59 (by decide) ?_
          refine lv_icmp_ne (pc := 60) (tgt := 71) hx hb dX11_learnt_60 (by decide) (fun c_60 => ?_) (fun c_60 => ?_)
          · have h := itn c_60 h
            refine lv_iload_n (pc := 71) hx hb dX11_learnt_71 rfl (lv_at hl 1 rfl) ?_
            refine lv_if_ne (pc := 72) (tgt := 85) hx hb dX11_learnt_72 (by decide) (fun c_72 => ?_) (fun c_72 => ?_)
            · have h := itn c_72 h
              refine lv_aload_n (pc := 85) hx hb dX11_learnt_85 rfl (lv_at hl 0 rfl) ?_
              refine gf_X11_78 (pc := 86) X Y dX11_learnt_86 ?_
              refine gf_X11_330 (pc := 89) X Y dX11_learnt_89 ?_
              obtain ⟨hr9, hm9⟩ := ret_e h
              exact fin_i (pc := 92) X rfl Y hr9 hm9 rfl dX11_learnt_92
            · have h := itp c_72 h
              refine lv_aload_n (pc := 75) hx hb dX11_learnt_75 rfl (lv_at hl 0 rfl) ?_
              refine gf_X11_78 (pc := 76) X Y dX11_learnt_76 ?_
              refine gf_X11_327 (pc := 79) X Y dX11_learnt_79 ?_
              refine lv_goto (pc := 82) (tgt := 92) hx hb dX11_learnt_82 (by decide) ?_
              obtain ⟨hr9, hm9⟩ := ret_e h
              exact fin_i (pc := 92) X rfl Y hr9 hm9 rfl dX11_learnt_92
          · have h := itp c_60 h
            refine lv_aload_n (pc := 63) hx hb dX11_learnt_63 rfl (lv_at hl 0 rfl) ?_
            refine gf_X11_78 (pc := 64) X Y dX11_learnt_64 ?_
            refine gf_X11_324 (pc := 67) X Y dX11_learnt_67 ?_
            obtain ⟨hr9, hm9⟩ := ret_e h
            exact fin_i (pc := 70) X rfl Y hr9 hm9 rfl dX11_learnt_70
        · have h := itn c_45 h
          refine lv_bipush (pc := 48) (v := (-3)) hx hb dX11_learnt_48 (by decide) ?_
          obtain ⟨hr9, hm9⟩ := ret_e h
          exact fin_i (pc := 50) X rfl Y hr9 hm9 rfl dX11_learnt_50
      · have h := itp c_26 h
        refine lv_aload_n (pc := 29) hx hb dX11_learnt_29 rfl (lv_at hl 0 rfl) ?_
        refine gf_X11_78 (pc := 30) X Y dX11_learnt_30 ?_
        obtain ⟨r_33, e_33, h⟩ := bnd_s h
        refine call_vNi (pc := 33) (rest := []) [] X Y (c_X5_could  e_33) sw_X11_319 (rv_X5 X Y) rfl ⟨rfl, rfl, Nat.le_of_ble_eq_true rfl, Nat.le_of_ble_eq_true rfl⟩ hl rfl (Nat.le_of_ble_eq_true rfl) dX11_learnt_33 (fun H locs Y => ?_)
        obtain ⟨hr9, hm9⟩ := ret_e h
        exact fin_i (pc := 36) X rfl Y hr9 hm9 rfl dX11_learnt_36
    · have h := itp c_13 h
      refine lv_aload_n (pc := 16) hx hb dX11_learnt_16 rfl (lv_at hl 0 rfl) ?_
      refine gf_X11_78 (pc := 17) X Y dX11_learnt_17 ?_
      obtain ⟨r_20, e_20, h⟩ := bnd_s h
      refine call_vNi (pc := 20) (rest := []) [] X Y (c_X5_got  e_20) sw_X11_316 (rv_X5 X Y) rfl ⟨rfl, rfl, Nat.le_of_ble_eq_true rfl, Nat.le_of_ble_eq_true rfl⟩ hl rfl (Nat.le_of_ble_eq_true rfl) dX11_learnt_20 (fun H locs Y => ?_)
      obtain ⟨hr9, hm9⟩ := ret_e h
      exact fin_i (pc := 23) X rfl Y hr9 hm9 rfl dX11_learnt_23
  · have h := itn (b2i_f c_5) h
    refine lv_bipush (pc := 8) (v := (-2)) hx hb dX11_learnt_8 (by decide) ?_
    obtain ⟨hr9, hm9⟩ := ret_e h
    exact fin_i (pc := 10) X rfl Y hr9 hm9 rfl dX11_learnt_10
abbrev rm_X11_sheet : Room := { frames := 3, cells := 0, slots := 0, locals := 69 }
set_option maxHeartbeats 4000000 in
set_option maxRecDepth 100000 in
theorem c_X11_sheet {r9 : Int32} {C9 : Mem} (v1 : Int32) (v2 : Int32) (v3 : Int32) (h : f_X11_sheet v1 v2 v3 C = some (r9, C9)) : Ct l dC dI ad bd cI cZ yX11_sheet cX11_sheet 4 (some .int) rm_X11_sheet [.ref (ad 0), .int v1, .int v2, .int v3] C D (some (.int r9)) C9 D := by
  unfold f_X11_sheet at h
  refine Ct.intro (own := RX11) (by decide) rfl (Nat.le_of_ble_eq_true rfl) ?_
  intro p e s m args below meth c H locs ls X Y hl
  have hx := X.1
  have hb := X.2.1
  have hl : lv_has ls 4 [(0, .ref (ad 0)), (1, .int v1), (2, .int v2), (3, .int v3)] := hl
  refine lv_iload_n (pc := 0) hx hb dX11_sheet_0 rfl (lv_at hl 1 rfl) ?_
  refine call_si (pc := 1) (rest := []) [.int v1] X Y (c_X11_isSheet v1) sw_X11_109 rfl ⟨rfl, rfl, Nat.le_of_ble_eq_true rfl, Nat.le_of_ble_eq_true rfl⟩ hl rfl (Nat.le_of_ble_eq_true rfl) dX11_sheet_1 (fun H locs Y => ?_)
  refine lv_if_eq (pc := 4) (tgt := 20) hx hb dX11_sheet_4 (by decide) (fun c_4 => ?_) (fun c_4 => ?_)
  · have h := itn (b2i_f c_4) h
    refine lv_bipush (pc := 20) (v := (-2)) hx hb dX11_sheet_20 (by decide) ?_
    obtain ⟨hr9, hm9⟩ := ret_e h
    exact fin_i (pc := 22) X rfl Y hr9 hm9 rfl dX11_sheet_22
  · have h := itp (b2i_t c_4) h
    refine lv_iload_n (pc := 7) hx hb dX11_sheet_7 rfl (lv_at hl 2 rfl) ?_
    refine call_si (pc := 8) (rest := []) [.int v2] X Y (c_X11_isForm v2) sw_X11_333 rfl ⟨rfl, rfl, Nat.le_of_ble_eq_true rfl, Nat.le_of_ble_eq_true rfl⟩ hl rfl (Nat.le_of_ble_eq_true rfl) dX11_sheet_8 (fun H locs Y => ?_)
    refine lv_if_eq (pc := 11) (tgt := 20) hx hb dX11_sheet_11 (by decide) (fun c_11 => ?_) (fun c_11 => ?_)
    · have h := itn (b2i_f c_11) h
      refine lv_bipush (pc := 20) (v := (-2)) hx hb dX11_sheet_20 (by decide) ?_
      obtain ⟨hr9, hm9⟩ := ret_e h
      exact fin_i (pc := 22) X rfl Y hr9 hm9 rfl dX11_sheet_22
    · have h := itp (b2i_t c_11) h
      refine lv_iload_n (pc := 14) hx hb dX11_sheet_14 rfl (lv_at hl 3 rfl) ?_
      refine lv_bipush (pc := 15) (v := 48) hx hb dX11_sheet_15 (by decide) ?_
      refine lv_icmp_le (pc := 17) (tgt := 23) hx hb dX11_sheet_17 (by decide) (fun c_17 => ?_) (fun c_17 => ?_)
      · have h := itp c_17 h
        refine lv_iload_n (pc := 23) hx hb dX11_sheet_23 rfl (lv_at hl 3 rfl) ?_
        refine lv_if_ge (pc := 24) (tgt := 36) hx hb dX11_sheet_24 (by decide) (fun c_24 => ?_) (fun c_24 => ?_)
        · have h := itp c_24 h
          refine lv_aload_n (pc := 36) hx hb dX11_sheet_36 rfl (lv_at hl 0 rfl) ?_
          refine gf_X11_85 (pc := 37) X Y dX11_sheet_37 ?_
          refine lv_iload_n (pc := 40) hx hb dX11_sheet_40 rfl (lv_at hl 1 rfl) ?_
          refine lv_iload_n (pc := 41) hx hb dX11_sheet_41 rfl (lv_at hl 2 rfl) ?_
          refine lv_iload_n (pc := 42) hx hb dX11_sheet_42 rfl (lv_at hl 3 rfl) ?_
          obtain ⟨C_43, e_43, h⟩ := bnd_s h
          refine call_vNv (pc := 43) (rest := []) [.int v1, .int v2, .int v3] X Y (c_X7_renew v1 v2 v3 e_43) sw_X11_336 (rv_X7 X Y) rfl ⟨rfl, rfl, Nat.le_of_ble_eq_true rfl, Nat.le_of_ble_eq_true rfl⟩ hl rfl (Nat.le_of_ble_eq_true rfl) dX11_sheet_43 (fun H locs Y => ?_)
          refine lv_iload_n (pc := 46) hx hb dX11_sheet_46 rfl (lv_at hl 3 rfl) ?_
          obtain ⟨hr9, hm9⟩ := ret_e h
          exact fin_i (pc := 47) X rfl Y hr9 hm9 rfl dX11_sheet_47
        · have h := itn c_24 h
          refine lv_aload_n (pc := 27) hx hb dX11_sheet_27 rfl (lv_at hl 0 rfl) ?_
          refine gf_X11_85 (pc := 28) X Y dX11_sheet_28 ?_
          refine lv_iconst (pc := 31) (v := 5) hx hb dX11_sheet_31 (by decide) ?_
          obtain ⟨r_32, C_32, e_32, h⟩ := bnd2_s h
          refine call_vNi (pc := 32) (rest := []) [.int 5] X Y (c_X7_found 5 e_32) sw_X11_115 (rv_X7 X Y) rfl ⟨rfl, rfl, Nat.le_of_ble_eq_true rfl, Nat.le_of_ble_eq_true rfl⟩ hl rfl (Nat.le_of_ble_eq_true rfl) dX11_sheet_32 (fun H locs Y => ?_)
          obtain ⟨hr9, hm9⟩ := ret_e h
          exact fin_i (pc := 35) X rfl Y hr9 hm9 rfl dX11_sheet_35
      · have h := itn c_17 h
        refine lv_bipush (pc := 20) (v := (-2)) hx hb dX11_sheet_20 (by decide) ?_
        obtain ⟨hr9, hm9⟩ := ret_e h
        exact fin_i (pc := 22) X rfl Y hr9 hm9 rfl dX11_sheet_22
abbrev rm_X11_lose : Room := { frames := 2, cells := 0, slots := 0, locals := 41 }
set_option maxHeartbeats 4000000 in
set_option maxRecDepth 100000 in
theorem c_X11_lose {r9 : Int32} {C9 : Mem} (v1 : Int32) (h : f_X11_lose v1 C = some (r9, C9)) : Ct l dC dI ad bd cI cZ yX11_lose cX11_lose 2 (some .int) rm_X11_lose [.ref (ad 0), .int v1] C D (some (.int r9)) C9 D := by
  unfold f_X11_lose at h
  refine Ct.intro (own := RX11) (by decide) rfl (Nat.le_of_ble_eq_true rfl) ?_
  intro p e s m args below meth c H locs ls X Y hl
  have hx := X.1
  have hb := X.2.1
  have hl : lv_has ls 2 [(0, .ref (ad 0)), (1, .int v1)] := hl
  refine lv_iload_n (pc := 0) hx hb dX11_lose_0 rfl (lv_at hl 1 rfl) ?_
  refine call_si (pc := 1) (rest := []) [.int v1] X Y (c_X11_isSheet v1) sw_X11_109 rfl ⟨rfl, rfl, Nat.le_of_ble_eq_true rfl, Nat.le_of_ble_eq_true rfl⟩ hl rfl (Nat.le_of_ble_eq_true rfl) dX11_lose_1 (fun H locs Y => ?_)
  refine lv_if_ne (pc := 4) (tgt := 10) hx hb dX11_lose_4 (by decide) (fun c_4 => ?_) (fun c_4 => ?_)
  · have h := itp (b2i_t c_4) h
    refine lv_aload_n (pc := 10) hx hb dX11_lose_10 rfl (lv_at hl 0 rfl) ?_
    refine gf_X11_85 (pc := 11) X Y dX11_lose_11 ?_
    refine lv_iload_n (pc := 14) hx hb dX11_lose_14 rfl (lv_at hl 1 rfl) ?_
    obtain ⟨r_15, e_15, h⟩ := bnd_s h
    refine call_vNi (pc := 15) (rest := []) [.int v1] X Y (c_X7_isLost v1 e_15) sw_X11_112 (rv_X7 X Y) rfl ⟨rfl, rfl, Nat.le_of_ble_eq_true rfl, Nat.le_of_ble_eq_true rfl⟩ hl rfl (Nat.le_of_ble_eq_true rfl) dX11_lose_15 (fun H locs Y => ?_)
    refine lv_if_eq (pc := 18) (tgt := 30) hx hb dX11_lose_18 (by decide) (fun c_18 => ?_) (fun c_18 => ?_)
    · have h := itn (b2i_f c_18) h
      refine lv_aload_n (pc := 30) hx hb dX11_lose_30 rfl (lv_at hl 0 rfl) ?_
      refine gf_X11_85 (pc := 31) X Y dX11_lose_31 ?_
      refine lv_iload_n (pc := 34) hx hb dX11_lose_34 rfl (lv_at hl 1 rfl) ?_
      obtain ⟨r_35, C_35, e_35, h⟩ := bnd2_s h
      refine call_vNi (pc := 35) (rest := []) [.int v1] X Y (c_X7_drop v1 e_35) sw_X11_340 (rv_X7 X Y) rfl ⟨rfl, rfl, Nat.le_of_ble_eq_true rfl, Nat.le_of_ble_eq_true rfl⟩ hl rfl (Nat.le_of_ble_eq_true rfl) dX11_lose_35 (fun H locs Y => ?_)
      obtain ⟨hr9, hm9⟩ := ret_e h
      exact fin_i (pc := 38) X rfl Y hr9 hm9 rfl dX11_lose_38
    · have h := itp (b2i_t c_18) h
      refine lv_aload_n (pc := 21) hx hb dX11_lose_21 rfl (lv_at hl 0 rfl) ?_
      refine gf_X11_85 (pc := 22) X Y dX11_lose_22 ?_
      refine lv_iconst (pc := 25) (v := 1) hx hb dX11_lose_25 (by decide) ?_
      obtain ⟨r_26, C_26, e_26, h⟩ := bnd2_s h
      refine call_vNi (pc := 26) (rest := []) [.int 1] X Y (c_X7_found 1 e_26) sw_X11_115 (rv_X7 X Y) rfl ⟨rfl, rfl, Nat.le_of_ble_eq_true rfl, Nat.le_of_ble_eq_true rfl⟩ hl rfl (Nat.le_of_ble_eq_true rfl) dX11_lose_26 (fun H locs Y => ?_)
      obtain ⟨hr9, hm9⟩ := ret_e h
      exact fin_i (pc := 29) X rfl Y hr9 hm9 rfl dX11_lose_29
  · have h := itn (b2i_f c_4) h
    refine lv_bipush (pc := 7) (v := (-2)) hx hb dX11_lose_7 (by decide) ?_
    obtain ⟨hr9, hm9⟩ := ret_e h
    exact fin_i (pc := 9) X rfl Y hr9 hm9 rfl dX11_lose_9
abbrev rm_X11_put : Room := { frames := 2, cells := 0, slots := 0, locals := 44 }
set_option maxHeartbeats 4000000 in
set_option maxRecDepth 100000 in
theorem c_X11_put {r9 : Int32} {C9 : Mem} (v1 : Int32) (v2 : Int32) (v3 : Int32) (v4 : Int32) (h : f_X11_put v1 v2 v3 v4 C = some (r9, C9)) : Ct l dC dI ad bd cI cZ yX11_put cX11_put 6 (some .int) rm_X11_put [.ref (ad 0), .int v1, .int v2, .int v3, .int v4] C D (some (.int r9)) C9 D := by
  unfold f_X11_put at h
  refine Ct.intro (own := RX11) (by decide) rfl (Nat.le_of_ble_eq_true rfl) ?_
  intro p e s m args below meth c H locs ls X Y hl
  have hx := X.1
  have hb := X.2.1
  have hl : lv_has ls 6 [(0, .ref (ad 0)), (1, .int v1), (2, .int v2), (3, .int v3), (4, .int v4)] := hl
  refine lv_iload_n (pc := 0) hx hb dX11_put_0 rfl (lv_at hl 1 rfl) ?_
  refine call_si (pc := 1) (rest := []) [.int v1] X Y (c_X11_isSheet v1) sw_X11_109 rfl ⟨rfl, rfl, Nat.le_of_ble_eq_true rfl, Nat.le_of_ble_eq_true rfl⟩ hl rfl (Nat.le_of_ble_eq_true rfl) dX11_put_1 (fun H locs Y => ?_)
  refine lv_if_eq (pc := 4) (tgt := 14) hx hb dX11_put_4 (by decide) (fun c_4 => ?_) (fun c_4 => ?_)
  · have h := itn (b2i_f c_4) h
    refine lv_bipush (pc := 14) (v := (-2)) hx hb dX11_put_14 (by decide) ?_
    obtain ⟨hr9, hm9⟩ := ret_e h
    exact fin_i (pc := 16) X rfl Y hr9 hm9 rfl dX11_put_16
  · have h := itp (b2i_t c_4) h
    refine lv_iload_n (pc := 7) hx hb dX11_put_7 rfl (lv_at hl 2 rfl) ?_
    refine call_si (pc := 8) (rest := []) [.int v2] X Y (c_X11_isForm v2) sw_X11_333 rfl ⟨rfl, rfl, Nat.le_of_ble_eq_true rfl, Nat.le_of_ble_eq_true rfl⟩ hl rfl (Nat.le_of_ble_eq_true rfl) dX11_put_8 (fun H locs Y => ?_)
    refine lv_if_ne (pc := 11) (tgt := 17) hx hb dX11_put_11 (by decide) (fun c_11 => ?_) (fun c_11 => ?_)
    · have h := itp (b2i_t c_11) h
      refine lv_aload_n (pc := 17) hx hb dX11_put_17 rfl (lv_at hl 0 rfl) ?_
      refine gf_X11_85 (pc := 18) X Y dX11_put_18 ?_
      refine lv_iload_n (pc := 21) hx hb dX11_put_21 rfl (lv_at hl 1 rfl) ?_
      refine lv_iload_n (pc := 22) hx hb dX11_put_22 rfl (lv_at hl 2 rfl) ?_
      refine lv_iload_n (pc := 23) hx hb dX11_put_23 rfl (lv_at hl 3 rfl) ?_
      obtain ⟨r_24, e_24, h⟩ := bnd_s h
      refine call_vNi (pc := 24) (rest := []) [.int v1, .int v2, .int v3] X Y (c_X7_findingAt v1 v2 v3 e_24) sw_X11_343 (rv_X7 X Y) rfl ⟨rfl, rfl, Nat.le_of_ble_eq_true rfl, Nat.le_of_ble_eq_true rfl⟩ hl rfl (Nat.le_of_ble_eq_true rfl) dX11_put_24 (fun H locs Y => ?_)
      refine lv_istore (pc := 27) (lv' := [(5, .int r_24), (0, .ref (ad 0)), (1, .int v1), (2, .int v2), (3, .int v3), (4, .int v4)]) hx hb dX11_put_27 hl (by decide) rfl (fun ls hl => ?_)
      refine lv_iload (pc := 29) hx hb dX11_put_29 (lv_at hl 0 rfl) ?_
      refine lv_if_eq (pc := 31) (tgt := 44) hx hb dX11_put_31 (by decide) (fun c_31 => ?_) (fun c_31 => ?_)
      · have h := itp c_31 h
        refine lv_aload_n (pc := 44) hx hb dX11_put_44 rfl (lv_at hl 1 rfl) ?_
        refine gf_X11_85 (pc := 45) X Y dX11_put_45 ?_
        refine lv_iload_n (pc := 48) hx hb dX11_put_48 rfl (lv_at hl 2 rfl) ?_
        refine lv_iload_n (pc := 49) hx hb dX11_put_49 rfl (lv_at hl 4 rfl) ?_
        refine lv_iload (pc := 50) hx hb dX11_put_50 (lv_at hl 5 rfl) ?_
        obtain ⟨C_52, e_52, h⟩ := bnd_s h
        refine call_vNv (pc := 52) (rest := []) [.int v1, .int v3, .int v4] X Y (c_X7_keep v1 v3 v4 e_52) sw_X11_346 (rv_X7 X Y) rfl ⟨rfl, rfl, Nat.le_of_ble_eq_true rfl, Nat.le_of_ble_eq_true rfl⟩ hl rfl (Nat.le_of_ble_eq_true rfl) dX11_put_52 (fun H locs Y => ?_)
        refine lv_iconst (pc := 55) (v := 1) hx hb dX11_put_55 (by decide) ?_
        obtain ⟨hr9, hm9⟩ := ret_e h
        exact fin_i (pc := 56) X rfl Y hr9 hm9 rfl dX11_put_56
      · have h := itn c_31 h
        refine lv_aload_n (pc := 34) hx hb dX11_put_34 rfl (lv_at hl 1 rfl) ?_
        refine gf_X11_85 (pc := 35) X Y dX11_put_35 ?_
        refine lv_iload (pc := 38) hx hb dX11_put_38 (lv_at hl 0 rfl) ?_
        obtain ⟨r_40, C_40, e_40, h⟩ := bnd2_s h
        refine call_vNi (pc := 40) (rest := []) [.int r_24] X Y (c_X7_found r_24 e_40) sw_X11_115 (rv_X7 X Y) rfl ⟨rfl, rfl, Nat.le_of_ble_eq_true rfl, Nat.le_of_ble_eq_true rfl⟩ hl rfl (Nat.le_of_ble_eq_true rfl) dX11_put_40 (fun H locs Y => ?_)
        obtain ⟨hr9, hm9⟩ := ret_e h
        exact fin_i (pc := 43) X rfl Y hr9 hm9 rfl dX11_put_43
    · have h := itn (b2i_f c_11) h
      refine lv_bipush (pc := 14) (v := (-2)) hx hb dX11_put_14 (by decide) ?_
      obtain ⟨hr9, hm9⟩ := ret_e h
      exact fin_i (pc := 16) X rfl Y hr9 hm9 rfl dX11_put_16
abbrev rm_X11_get : Room := { frames := 2, cells := 0, slots := 0, locals := 44 }
set_option maxHeartbeats 4000000 in
set_option maxRecDepth 100000 in
theorem c_X11_get {r9 : Int32} {C9 : Mem} (v1 : Int32) (v2 : Int32) (v3 : Int32) (h : f_X11_get v1 v2 v3 C = some (r9, C9)) : Ct l dC dI ad bd cI cZ yX11_get cX11_get 5 (some .int) rm_X11_get [.ref (ad 0), .int v1, .int v2, .int v3] C D (some (.int r9)) C9 D := by
  unfold f_X11_get at h
  refine Ct.intro (own := RX11) (by decide) rfl (Nat.le_of_ble_eq_true rfl) ?_
  intro p e s m args below meth c H locs ls X Y hl
  have hx := X.1
  have hb := X.2.1
  have hl : lv_has ls 5 [(0, .ref (ad 0)), (1, .int v1), (2, .int v2), (3, .int v3)] := hl
  refine lv_iload_n (pc := 0) hx hb dX11_get_0 rfl (lv_at hl 1 rfl) ?_
  refine call_si (pc := 1) (rest := []) [.int v1] X Y (c_X11_isSheet v1) sw_X11_109 rfl ⟨rfl, rfl, Nat.le_of_ble_eq_true rfl, Nat.le_of_ble_eq_true rfl⟩ hl rfl (Nat.le_of_ble_eq_true rfl) dX11_get_1 (fun H locs Y => ?_)
  refine lv_if_eq (pc := 4) (tgt := 14) hx hb dX11_get_4 (by decide) (fun c_4 => ?_) (fun c_4 => ?_)
  · have h := itn (b2i_f c_4) h
    refine lv_ldcw (pc := 14) (v := (-2147483648)) hx hb X.2.2.2.1 (X.2.2.2.2.1 _ w_5ddcc46a5c) dX11_get_14 ?_
    obtain ⟨hr9, hm9⟩ := ret_e h
    exact fin_i (pc := 17) X rfl Y hr9 hm9 rfl dX11_get_17
  · have h := itp (b2i_t c_4) h
    refine lv_iload_n (pc := 7) hx hb dX11_get_7 rfl (lv_at hl 2 rfl) ?_
    refine call_si (pc := 8) (rest := []) [.int v2] X Y (c_X11_isForm v2) sw_X11_333 rfl ⟨rfl, rfl, Nat.le_of_ble_eq_true rfl, Nat.le_of_ble_eq_true rfl⟩ hl rfl (Nat.le_of_ble_eq_true rfl) dX11_get_8 (fun H locs Y => ?_)
    refine lv_if_ne (pc := 11) (tgt := 18) hx hb dX11_get_11 (by decide) (fun c_11 => ?_) (fun c_11 => ?_)
    · have h := itp (b2i_t c_11) h
      refine lv_aload_n (pc := 18) hx hb dX11_get_18 rfl (lv_at hl 0 rfl) ?_
      refine gf_X11_85 (pc := 19) X Y dX11_get_19 ?_
      refine lv_iload_n (pc := 22) hx hb dX11_get_22 rfl (lv_at hl 1 rfl) ?_
      refine lv_iload_n (pc := 23) hx hb dX11_get_23 rfl (lv_at hl 2 rfl) ?_
      refine lv_iload_n (pc := 24) hx hb dX11_get_24 rfl (lv_at hl 3 rfl) ?_
      obtain ⟨r_25, e_25, h⟩ := bnd_s h
      refine call_vNi (pc := 25) (rest := []) [.int v1, .int v2, .int v3] X Y (c_X7_findingAt v1 v2 v3 e_25) sw_X11_343 (rv_X7 X Y) rfl ⟨rfl, rfl, Nat.le_of_ble_eq_true rfl, Nat.le_of_ble_eq_true rfl⟩ hl rfl (Nat.le_of_ble_eq_true rfl) dX11_get_25 (fun H locs Y => ?_)
      refine lv_istore (pc := 28) (lv' := [(4, .int r_25), (0, .ref (ad 0)), (1, .int v1), (2, .int v2), (3, .int v3)]) hx hb dX11_get_28 hl (by decide) rfl (fun ls hl => ?_)
      refine lv_iload (pc := 30) hx hb dX11_get_30 (lv_at hl 0 rfl) ?_
      refine lv_if_eq (pc := 32) (tgt := 49) hx hb dX11_get_32 (by decide) (fun c_32 => ?_) (fun c_32 => ?_)
      · have h := itp c_32 h
        refine lv_aload_n (pc := 49) hx hb dX11_get_49 rfl (lv_at hl 1 rfl) ?_
        refine gf_X11_85 (pc := 50) X Y dX11_get_50 ?_
        refine lv_iload_n (pc := 53) hx hb dX11_get_53 rfl (lv_at hl 2 rfl) ?_
        refine lv_iload_n (pc := 54) hx hb dX11_get_54 rfl (lv_at hl 4 rfl) ?_
        obtain ⟨r_55, e_55, h⟩ := bnd_s h
        refine call_vNi (pc := 55) (rest := []) [.int v1, .int v3] X Y (c_X7_item v1 v3 e_55) sw_X11_122 (rv_X7 X Y) rfl ⟨rfl, rfl, Nat.le_of_ble_eq_true rfl, Nat.le_of_ble_eq_true rfl⟩ hl rfl (Nat.le_of_ble_eq_true rfl) dX11_get_55 (fun H locs Y => ?_)
        obtain ⟨hr9, hm9⟩ := ret_e h
        exact fin_i (pc := 58) X rfl Y hr9 hm9 rfl dX11_get_58
      · have h := itn c_32 h
        refine lv_aload_n (pc := 35) hx hb dX11_get_35 rfl (lv_at hl 1 rfl) ?_
        refine gf_X11_85 (pc := 36) X Y dX11_get_36 ?_
        refine lv_iload (pc := 39) hx hb dX11_get_39 (lv_at hl 0 rfl) ?_
        obtain ⟨r_41, C_41, e_41, h⟩ := bnd2_s h
        refine call_vNi (pc := 41) (rest := []) [.int r_25] X Y (c_X7_found r_25 e_41) sw_X11_115 (rv_X7 X Y) rfl ⟨rfl, rfl, Nat.le_of_ble_eq_true rfl, Nat.le_of_ble_eq_true rfl⟩ hl rfl (Nat.le_of_ble_eq_true rfl) dX11_get_41 (fun H locs Y => ?_)
        refine lv_pop (pc := 44) hx hb dX11_get_44 rfl ?_
        refine lv_ldcw (pc := 45) (v := (-2147483648)) hx hb X.2.2.2.1 (X.2.2.2.2.1 _ w_5ddcc46a5c) dX11_get_45 ?_
        obtain ⟨hr9, hm9⟩ := ret_e h
        exact fin_i (pc := 48) X rfl Y hr9 hm9 rfl dX11_get_48
    · have h := itn (b2i_f c_11) h
      refine lv_ldcw (pc := 14) (v := (-2147483648)) hx hb X.2.2.2.1 (X.2.2.2.2.1 _ w_5ddcc46a5c) dX11_get_14 ?_
      obtain ⟨hr9, hm9⟩ := ret_e h
      exact fin_i (pc := 17) X rfl Y hr9 hm9 rfl dX11_get_17
abbrev rm_X11_copy : Room := { frames := 2, cells := 0, slots := 0, locals := 85 }
set_option maxHeartbeats 4000000 in
set_option maxRecDepth 100000 in
theorem WB_X11_copy_39 {r9 : Int32} {C9 : Mem} (C : Mem) (X : Cx p s m args meth c cX11_copy RX11 6 (some .int) dC dI ad bd cI cZ) {H : Heap} {locs : List Loc} {ls : Array Slot} (Y : Ys s dC dI ad bd cI cZ C D H locs) (hl : lv_has ls 6 [(0, .ref (ad 0))]) (h : B_X11_copy_39 C = some (r9, C9)) : W p l e rm_X11_copy s m args below meth c H locs 0 0 (MQ below (QC (some (.int r9)) dC dI ad bd cI cZ C9 D) args s 0 0 (AD ad bd)) (F0 m 39 ls []) := by
  have hx := X.1
  have hb := X.2.1
  unfold B_X11_copy_39 at h
  refine lv_aload_n (pc := 39) hx hb dX11_copy_39 rfl (lv_at hl 0 rfl) ?_
  refine gf_X11_85 (pc := 40) X Y dX11_copy_40 ?_
  refine lv_iconst (pc := 43) (v := 1) hx hb dX11_copy_43 (by decide) ?_
  obtain ⟨r_44, C_44, e_44, h⟩ := bnd2_s h
  refine call_vNi (pc := 44) (rest := []) [.int 1] X Y (c_X7_found 1 e_44) sw_X11_115 (rv_X7 X Y) rfl ⟨rfl, rfl, Nat.le_of_ble_eq_true rfl, Nat.le_of_ble_eq_true rfl⟩ hl rfl (Nat.le_of_ble_eq_true rfl) dX11_copy_44 (fun H locs Y => ?_)
  obtain ⟨hr9, hm9⟩ := ret_e h
  exact fin_i (pc := 47) X rfl Y hr9 hm9 rfl dX11_copy_47
set_option maxHeartbeats 4000000 in
set_option maxRecDepth 100000 in
theorem WB_X11_copy_105 {r9 : Int32} {C9 : Mem} (C : Mem) (X : Cx p s m args meth c cX11_copy RX11 6 (some .int) dC dI ad bd cI cZ) {H : Heap} {locs : List Loc} {ls : Array Slot} (Y : Ys s dC dI ad bd cI cZ C D H locs) (hl : lv_has ls 6 [(0, .ref (ad 0))]) (h : B_X11_copy_105 C = some (r9, C9)) : W p l e rm_X11_copy s m args below meth c H locs 0 0 (MQ below (QC (some (.int r9)) dC dI ad bd cI cZ C9 D) args s 0 0 (AD ad bd)) (F0 m 105 ls []) := by
  have hx := X.1
  have hb := X.2.1
  unfold B_X11_copy_105 at h
  refine lv_aload_n (pc := 105) hx hb dX11_copy_105 rfl (lv_at hl 0 rfl) ?_
  refine gf_X11_85 (pc := 106) X Y dX11_copy_106 ?_
  refine lv_iconst (pc := 109) (v := 2) hx hb dX11_copy_109 (by decide) ?_
  obtain ⟨r_110, C_110, e_110, h⟩ := bnd2_s h
  refine call_vNi (pc := 110) (rest := []) [.int 2] X Y (c_X7_found 2 e_110) sw_X11_115 (rv_X7 X Y) rfl ⟨rfl, rfl, Nat.le_of_ble_eq_true rfl, Nat.le_of_ble_eq_true rfl⟩ hl rfl (Nat.le_of_ble_eq_true rfl) dX11_copy_110 (fun H locs Y => ?_)
  obtain ⟨hr9, hm9⟩ := ret_e h
  exact fin_i (pc := 113) X rfl Y hr9 hm9 rfl dX11_copy_113
set_option maxHeartbeats 4000000 in
set_option maxRecDepth 100000 in
theorem c_X11_copy {r9 : Int32} {C9 : Mem} (v1 : Int32) (v2 : Int32) (v3 : Int32) (v4 : Int32) (v5 : Int32) (h : f_X11_copy v1 v2 v3 v4 v5 C = some (r9, C9)) : Ct l dC dI ad bd cI cZ yX11_copy cX11_copy 6 (some .int) rm_X11_copy [.ref (ad 0), .int v1, .int v2, .int v3, .int v4, .int v5] C D (some (.int r9)) C9 D := by
  unfold f_X11_copy at h
  refine Ct.intro (own := RX11) (by decide) rfl (Nat.le_of_ble_eq_true rfl) ?_
  intro p e s m args below meth c H locs ls X Y hl
  have hx := X.1
  have hb := X.2.1
  have hl : lv_has ls 6 [(0, .ref (ad 0)), (1, .int v1), (2, .int v2), (3, .int v3), (4, .int v4), (5, .int v5)] := hl
  refine lv_iload_n (pc := 0) hx hb dX11_copy_0 rfl (lv_at hl 1 rfl) ?_
  refine call_si (pc := 1) (rest := []) [.int v1] X Y (c_X11_isSheet v1) sw_X11_109 rfl ⟨rfl, rfl, Nat.le_of_ble_eq_true rfl, Nat.le_of_ble_eq_true rfl⟩ hl rfl (Nat.le_of_ble_eq_true rfl) dX11_copy_1 (fun H locs Y => ?_)
  refine lv_if_eq (pc := 4) (tgt := 14) hx hb dX11_copy_4 (by decide) (fun c_4 => ?_) (fun c_4 => ?_)
  · have h := itn (b2i_f c_4) h
    refine lv_bipush (pc := 14) (v := (-2)) hx hb dX11_copy_14 (by decide) ?_
    obtain ⟨hr9, hm9⟩ := ret_e h
    exact fin_i (pc := 16) X rfl Y hr9 hm9 rfl dX11_copy_16
  · have h := itp (b2i_t c_4) h
    refine lv_iload_n (pc := 7) hx hb dX11_copy_7 rfl (lv_at hl 3 rfl) ?_
    refine call_si (pc := 8) (rest := []) [.int v3] X Y (c_X11_isSheet v3) sw_X11_109 rfl ⟨rfl, rfl, Nat.le_of_ble_eq_true rfl, Nat.le_of_ble_eq_true rfl⟩ hl rfl (Nat.le_of_ble_eq_true rfl) dX11_copy_8 (fun H locs Y => ?_)
    refine lv_if_ne (pc := 11) (tgt := 17) hx hb dX11_copy_11 (by decide) (fun c_11 => ?_) (fun c_11 => ?_)
    · have h := itp (b2i_t c_11) h
      refine lv_aload_n (pc := 17) hx hb dX11_copy_17 rfl (lv_at hl 0 rfl) ?_
      refine gf_X11_85 (pc := 18) X Y dX11_copy_18 ?_
      refine lv_iload_n (pc := 21) hx hb dX11_copy_21 rfl (lv_at hl 1 rfl) ?_
      obtain ⟨r_22, e_22, h⟩ := bnd_s h
      refine call_vNi (pc := 22) (rest := []) [.int v1] X Y (c_X7_isLost v1 e_22) sw_X11_112 (rv_X7 X Y) rfl ⟨rfl, rfl, Nat.le_of_ble_eq_true rfl, Nat.le_of_ble_eq_true rfl⟩ hl rfl (Nat.le_of_ble_eq_true rfl) dX11_copy_22 (fun H locs Y => ?_)
      refine lv_if_ne (pc := 25) (tgt := 39) hx hb dX11_copy_25 (by decide) (fun c_25 => ?_) (fun c_25 => ?_)
      · have h := itp (b2i_t c_25) h
        exact WB_X11_copy_39  C X Y (lv_sub hl [0] rfl) h
      · have h := itn (b2i_f c_25) h
        refine lv_aload_n (pc := 28) hx hb dX11_copy_28 rfl (lv_at hl 0 rfl) ?_
        refine gf_X11_85 (pc := 29) X Y dX11_copy_29 ?_
        refine lv_iload_n (pc := 32) hx hb dX11_copy_32 rfl (lv_at hl 3 rfl) ?_
        obtain ⟨r_33, e_33, h⟩ := bnd_s h
        refine call_vNi (pc := 33) (rest := []) [.int v3] X Y (c_X7_isLost v3 e_33) sw_X11_112 (rv_X7 X Y) rfl ⟨rfl, rfl, Nat.le_of_ble_eq_true rfl, Nat.le_of_ble_eq_true rfl⟩ hl rfl (Nat.le_of_ble_eq_true rfl) dX11_copy_33 (fun H locs Y => ?_)
        refine lv_if_eq (pc := 36) (tgt := 48) hx hb dX11_copy_36 (by decide) (fun c_36 => ?_) (fun c_36 => ?_)
        · have h := itn (b2i_f c_36) h
          refine lv_aload_n (pc := 48) hx hb dX11_copy_48 rfl (lv_at hl 0 rfl) ?_
          refine gf_X11_85 (pc := 49) X Y dX11_copy_49 ?_
          refine lv_iload_n (pc := 52) hx hb dX11_copy_52 rfl (lv_at hl 1 rfl) ?_
          obtain ⟨r_53, e_53, h⟩ := bnd_s h
          refine call_vNi (pc := 53) (rest := []) [.int v1] X Y (c_X7_formOf v1 e_53) sw_X11_350 (rv_X7 X Y) rfl ⟨rfl, rfl, Nat.le_of_ble_eq_true rfl, Nat.le_of_ble_eq_true rfl⟩ hl rfl (Nat.le_of_ble_eq_true rfl) dX11_copy_53 (fun H locs Y => ?_)
          refine lv_aload_n (pc := 56) hx hb dX11_copy_56 rfl (lv_at hl 0 rfl) ?_
          refine gf_X11_85 (pc := 57) X Y dX11_copy_57 ?_
          refine lv_iload_n (pc := 60) hx hb dX11_copy_60 rfl (lv_at hl 3 rfl) ?_
          obtain ⟨r_61, e_61, h⟩ := bnd_s h
          refine call_vNi (pc := 61) (rest := [.int r_53]) [.int v3] X Y (c_X7_formOf v3 e_61) sw_X11_350 (rv_X7 X Y) rfl ⟨rfl, rfl, Nat.le_of_ble_eq_true rfl, Nat.le_of_ble_eq_true rfl⟩ hl rfl (Nat.le_of_ble_eq_true rfl) dX11_copy_61 (fun H locs Y => ?_)
          refine lv_icmp_eq (pc := 64) (tgt := 76) hx hb dX11_copy_64 (by decide) (fun c_64 => ?_) (fun c_64 => ?_)
          · have h := itp c_64 h
            refine lv_aload_n (pc := 76) hx hb dX11_copy_76 rfl (lv_at hl 0 rfl) ?_
            refine gf_X11_85 (pc := 77) X Y dX11_copy_77 ?_
            refine lv_iload_n (pc := 80) hx hb dX11_copy_80 rfl (lv_at hl 1 rfl) ?_
            refine lv_iload_n (pc := 81) hx hb dX11_copy_81 rfl (lv_at hl 2 rfl) ?_
            refine lv_iload (pc := 82) hx hb dX11_copy_82 (lv_at hl 5 rfl) ?_
            obtain ⟨r_84, e_84, h⟩ := bnd_s h
            refine call_vNi (pc := 84) (rest := []) [.int v1, .int v2, .int v5] X Y (c_X7_hasSpan v1 v2 v5 e_84) sw_X11_353 (rv_X7 X Y) rfl ⟨rfl, rfl, Nat.le_of_ble_eq_true rfl, Nat.le_of_ble_eq_true rfl⟩ hl rfl (Nat.le_of_ble_eq_true rfl) dX11_copy_84 (fun H locs Y => ?_)
            refine lv_if_eq (pc := 87) (tgt := 105) hx hb dX11_copy_87 (by decide) (fun c_87 => ?_) (fun c_87 => ?_)
            · have h := itn (b2i_f c_87) h
              exact WB_X11_copy_105  C X Y (lv_sub hl [0] rfl) h
            · have h := itp (b2i_t c_87) h
              refine lv_aload_n (pc := 90) hx hb dX11_copy_90 rfl (lv_at hl 0 rfl) ?_
              refine gf_X11_85 (pc := 91) X Y dX11_copy_91 ?_
              refine lv_iload_n (pc := 94) hx hb dX11_copy_94 rfl (lv_at hl 3 rfl) ?_
              refine lv_iload (pc := 95) hx hb dX11_copy_95 (lv_at hl 4 rfl) ?_
              refine lv_iload (pc := 97) hx hb dX11_copy_97 (lv_at hl 5 rfl) ?_
              obtain ⟨r_99, e_99, h⟩ := bnd_s h
              refine call_vNi (pc := 99) (rest := []) [.int v3, .int v4, .int v5] X Y (c_X7_hasSpan v3 v4 v5 e_99) sw_X11_353 (rv_X7 X Y) rfl ⟨rfl, rfl, Nat.le_of_ble_eq_true rfl, Nat.le_of_ble_eq_true rfl⟩ hl rfl (Nat.le_of_ble_eq_true rfl) dX11_copy_99 (fun H locs Y => ?_)
              refine lv_if_ne (pc := 102) (tgt := 114) hx hb dX11_copy_102 (by decide) (fun c_102 => ?_) (fun c_102 => ?_)
              · have h := itp (b2i_t c_102) h
                refine lv_aload_n (pc := 114) hx hb dX11_copy_114 rfl (lv_at hl 0 rfl) ?_
                refine gf_X11_85 (pc := 115) X Y dX11_copy_115 ?_
                refine lv_iload_n (pc := 118) hx hb dX11_copy_118 rfl (lv_at hl 1 rfl) ?_
                refine lv_iload_n (pc := 119) hx hb dX11_copy_119 rfl (lv_at hl 2 rfl) ?_
                refine lv_iload_n (pc := 120) hx hb dX11_copy_120 rfl (lv_at hl 3 rfl) ?_
                refine lv_iload (pc := 121) hx hb dX11_copy_121 (lv_at hl 4 rfl) ?_
                refine lv_iload (pc := 123) hx hb dX11_copy_123 (lv_at hl 5 rfl) ?_
                obtain ⟨C_125, e_125, h⟩ := bnd_s h
                refine call_vNv (pc := 125) (rest := []) [.int v1, .int v2, .int v3, .int v4, .int v5] X Y (c_X7_move v1 v2 v3 v4 v5 e_125) sw_X11_357 (rv_X7 X Y) rfl ⟨rfl, rfl, Nat.le_of_ble_eq_true rfl, Nat.le_of_ble_eq_true rfl⟩ hl rfl (Nat.le_of_ble_eq_true rfl) dX11_copy_125 (fun H locs Y => ?_)
                refine lv_iconst (pc := 128) (v := 1) hx hb dX11_copy_128 (by decide) ?_
                obtain ⟨hr9, hm9⟩ := ret_e h
                exact fin_i (pc := 129) X rfl Y hr9 hm9 rfl dX11_copy_129
              · have h := itn (b2i_f c_102) h
                exact WB_X11_copy_105  C X Y (lv_sub hl [0] rfl) h
          · have h := itn c_64 h
            refine lv_aload_n (pc := 67) hx hb dX11_copy_67 rfl (lv_at hl 0 rfl) ?_
            refine gf_X11_85 (pc := 68) X Y dX11_copy_68 ?_
            refine lv_iconst (pc := 71) (v := 4) hx hb dX11_copy_71 (by decide) ?_
            obtain ⟨r_72, C_72, e_72, h⟩ := bnd2_s h
            refine call_vNi (pc := 72) (rest := []) [.int 4] X Y (c_X7_found 4 e_72) sw_X11_115 (rv_X7 X Y) rfl ⟨rfl, rfl, Nat.le_of_ble_eq_true rfl, Nat.le_of_ble_eq_true rfl⟩ hl rfl (Nat.le_of_ble_eq_true rfl) dX11_copy_72 (fun H locs Y => ?_)
            obtain ⟨hr9, hm9⟩ := ret_e h
            exact fin_i (pc := 75) X rfl Y hr9 hm9 rfl dX11_copy_75
        · have h := itp (b2i_t c_36) h
          exact WB_X11_copy_39  C X Y (lv_sub hl [0] rfl) h
    · have h := itn (b2i_f c_11) h
      refine lv_bipush (pc := 14) (v := (-2)) hx hb dX11_copy_14 (by decide) ?_
      obtain ⟨hr9, hm9⟩ := ret_e h
      exact fin_i (pc := 16) X rfl Y hr9 hm9 rfl dX11_copy_16
abbrev rm_X11_write : Room := { frames := 3, cells := 0, slots := 0, locals := 61 }
set_option maxHeartbeats 4000000 in
set_option maxRecDepth 100000 in
theorem WB_X11_write_128 {r9 : Int32} {C9 : Mem} (v1 : Int32) (v2 : Int32) (v3 : Int32) (v4 : Int32) (v5 : Int32) (v6 : Int32) (C : Mem) (X : Cx p s m args meth c cX11_write RX11 7 (some .int) dC dI ad bd cI cZ) {kb : Int32 → Int32 → Mem → Option (Int32 × Mem)} (hkb : ∀ (v5' : Int32) (v6' : Int32) (C' : Mem) (H : Heap) (locs : List Loc) (ls : Array Slot), Ys s dC dI ad bd cI cZ C' D H locs → lv_has ls 7 [(0, .ref (ad 0)), (1, .int v1), (2, .int v2), (3, .int v3), (4, .int v4), (5, .int v5'), (6, .int v6')] → kb v5' v6' C' = some (r9, C9) → W p l e rm_X11_write s m args below meth c H locs 0 0 (MQ below (QC (some (.int r9)) dC dI ad bd cI cZ C9 D) args s 0 0 (AD ad bd)) (F0 m 60 ls [])) {H : Heap} {locs : List Loc} {ls : Array Slot} (Y : Ys s dC dI ad bd cI cZ C D H locs) (hl : lv_has ls 7 [(0, .ref (ad 0)), (1, .int v1), (2, .int v2), (3, .int v3), (4, .int v4), (5, .int v5), (6, .int v6)]) (h : B_X11_write_128 v5 v6 C kb = some (r9, C9)) : W p l e rm_X11_write s m args below meth c H locs 0 0 (MQ below (QC (some (.int r9)) dC dI ad bd cI cZ C9 D) args s 0 0 (AD ad bd)) (F0 m 128 ls []) := by
  have hx := X.1
  have hb := X.2.1
  unfold B_X11_write_128 at h
  obtain ⟨v6_128, ev6_128, h⟩ := lt_s_ h
  refine lv_iinc (pc := 128) (v := v6_128) (lv' := [(6, .int v6_128), (0, .ref (ad 0)), (1, .int v1), (2, .int v2), (3, .int v3), (4, .int v4), (5, .int v5)]) hx hb dX11_write_128 hl (k := 6) rfl (by rw [ev6_128]; rfl) (by decide) rfl (fun ls hl => ?_)
  refine lv_goto (pc := 131) (tgt := 60) hx hb dX11_write_131 (by decide) ?_
  exact hkb v5 v6_128 C H locs ls Y (lv_sub hl [1, 2, 3, 4, 5, 6, 0] rfl) h
set_option maxHeartbeats 4000000 in
set_option maxRecDepth 100000 in
theorem WL_X11_write_60 {r9 : Int32} {C9 : Mem} (v1 : Int32) (v2 : Int32) (v3 : Int32) (v4 : Int32) (X : Cx p s m args meth c cX11_write RX11 7 (some .int) dC dI ad bd cI cZ) {kx : Int32 → Mem → Option (Int32 × Mem)} (hkx : ∀ (v5' : Int32) (C' : Mem) (H : Heap) (locs : List Loc) (ls : Array Slot), Ys s dC dI ad bd cI cZ C' D H locs → lv_has ls 7 [(5, .int v5')] → kx v5' C' = some (r9, C9) → W p l e rm_X11_write s m args below meth c H locs 0 0 (MQ below (QC (some (.int r9)) dC dI ad bd cI cZ C9 D) args s 0 0 (AD ad bd)) (F0 m 134 ls [])) : ∀ (n_ : Nat) (v5 : Int32) (v6 : Int32) (C : Mem) (H : Heap) (locs : List Loc) (ls : Array Slot), Ys s dC dI ad bd cI cZ C D H locs → lv_has ls 7 [(0, .ref (ad 0)), (1, .int v1), (2, .int v2), (3, .int v3), (4, .int v4), (5, .int v5), (6, .int v6)] → L_X11_write_60 v1 v2 v3 v4 kx n_ v5 v6 C = some (r9, C9) → W p l e rm_X11_write s m args below meth c H locs 0 0 (MQ below (QC (some (.int r9)) dC dI ad bd cI cZ C9 D) args s 0 0 (AD ad bd)) (F0 m 60 ls []) := by
  have hx := X.1
  have hb := X.2.1
  intro n_
  induction n_ with
  | zero =>
    intro v5 v6 C H locs ls Y hl h
    cases h
  | succ n_ ih =>
    intro v5 v6 C H locs ls Y hl h
    unfold L_X11_write_60 at h
    refine lv_iload (pc := 60) hx hb dX11_write_60 (lv_at hl 6 rfl) ?_
    refine lv_aload_n (pc := 62) hx hb dX11_write_62 rfl (lv_at hl 0 rfl) ?_
    refine gf_X11_12 (pc := 63) X Y dX11_write_63 ?_
    refine gf_X11_361 (pc := 66) X Y dX11_write_66 ?_
    refine lv_icmp_ge (pc := 69) (tgt := 134) hx hb dX11_write_69 (by decide) (fun c_69 => ?_) (fun c_69 => ?_)
    · have h := itp c_69 h
      exact hkx v5 C H locs ls Y (lv_sub hl [5] rfl) h
    · have h := itn c_69 h
      refine lv_iload (pc := 72) hx hb dX11_write_72 (lv_at hl 5 rfl) ?_
      refine lv_iload (pc := 74) hx hb dX11_write_74 (lv_at hl 4 rfl) ?_
      refine lv_icmp_ge (pc := 76) (tgt := 134) hx hb dX11_write_76 (by decide) (fun c_76 => ?_) (fun c_76 => ?_)
      · have h := itp c_76 h
        exact hkx v5 C H locs ls Y (lv_sub hl [5] rfl) h
      · have h := itn c_76 h
        refine lv_aload_n (pc := 79) hx hb dX11_write_79 rfl (lv_at hl 0 rfl) ?_
        refine gf_X11_12 (pc := 80) X Y dX11_write_80 ?_
        refine lv_iload (pc := 83) hx hb dX11_write_83 (lv_at hl 6 rfl) ?_
        refine lv_iload_n (pc := 85) hx hb dX11_write_85 rfl (lv_at hl 1 rfl) ?_
        refine lv_iload_n (pc := 86) hx hb dX11_write_86 rfl (lv_at hl 2 rfl) ?_
        obtain ⟨r_87, e_87, h⟩ := bnd_s h
        refine call_vNi (pc := 87) (rest := []) [.int v6, .int v1, .int v2] X Y (c_X4_isOf v6 v1 v2 e_87) sw_X11_362 (rv_X4 X Y) rfl ⟨rfl, rfl, Nat.le_of_ble_eq_true rfl, Nat.le_of_ble_eq_true rfl⟩ hl rfl (Nat.le_of_ble_eq_true rfl) dX11_write_87 (fun H locs Y => ?_)
        refine lv_if_eq (pc := 90) (tgt := 128) hx hb dX11_write_90 (by decide) (fun c_90 => ?_) (fun c_90 => ?_)
        · have h := itn (b2i_f c_90) h
          exact WB_X11_write_128 v1 v2 v3 v4 v5 v6 C X (kb := (L_X11_write_60 v1 v2 v3 v4 kx n_)) ih Y (lv_sub hl [0, 1, 2, 3, 4, 5, 6] rfl) h
        · have h := itp (b2i_t c_90) h
          refine lv_aload_n (pc := 93) hx hb dX11_write_93 rfl (lv_at hl 0 rfl) ?_
          refine gf_X11_12 (pc := 94) X Y dX11_write_94 ?_
          refine lv_iload (pc := 97) hx hb dX11_write_97 (lv_at hl 6 rfl) ?_
          obtain ⟨r_99, e_99, h⟩ := bnd_s h
          refine call_vNi (pc := 99) (rest := []) [.int v6] X Y (c_X4_counts v6 e_99) sw_X11_365 (rv_X4 X Y) rfl ⟨rfl, rfl, Nat.le_of_ble_eq_true rfl, Nat.le_of_ble_eq_true rfl⟩ hl rfl (Nat.le_of_ble_eq_true rfl) dX11_write_99 (fun H locs Y => ?_)
          refine lv_if_eq (pc := 102) (tgt := 128) hx hb dX11_write_102 (by decide) (fun c_102 => ?_) (fun c_102 => ?_)
          · have h := itn (b2i_f c_102) h
            exact WB_X11_write_128 v1 v2 v3 v4 v5 v6 C X (kb := (L_X11_write_60 v1 v2 v3 v4 kx n_)) ih Y (lv_sub hl [0, 1, 2, 3, 4, 5, 6] rfl) h
          · have h := itp (b2i_t c_102) h
            refine lv_aload_n (pc := 105) hx hb dX11_write_105 rfl (lv_at hl 0 rfl) ?_
            refine gf_X11_85 (pc := 106) X Y dX11_write_106 ?_
            refine lv_iload_n (pc := 109) hx hb dX11_write_109 rfl (lv_at hl 3 rfl) ?_
            refine lv_iload (pc := 110) hx hb dX11_write_110 (lv_at hl 5 rfl) ?_
            refine lv_aload_n (pc := 112) hx hb dX11_write_112 rfl (lv_at hl 0 rfl) ?_
            refine gf_X11_12 (pc := 113) X Y dX11_write_113 ?_
            refine gf_X11_368 (pc := 116) X Y dX11_write_116 ?_
            refine lv_iload (pc := 119) hx hb dX11_write_119 (lv_at hl 6 rfl) ?_
            obtain ⟨g_121, h⟩ := gd_s h
            refine r_ialdc (pc := 121) X Y (ca_4 ad cI) g_121 dX11_write_121 ?_
            obtain ⟨C_122, e_122, h⟩ := bnd_s h
            refine call_vNv (pc := 122) (rest := []) [.int v3, .int v5, .int (C 4 v6.toNatClampNeg)] X Y (c_X7_keep v3 v5 (C 4 v6.toNatClampNeg) e_122) sw_X11_346 (rv_X7 X Y) rfl ⟨rfl, rfl, Nat.le_of_ble_eq_true rfl, Nat.le_of_ble_eq_true rfl⟩ hl rfl (Nat.le_of_ble_eq_true rfl) dX11_write_122 (fun H locs Y => ?_)
            obtain ⟨v5_125, ev5_125, h⟩ := lt_s_ h
            refine lv_iinc (pc := 125) (v := v5_125) (lv' := [(5, .int v5_125), (0, .ref (ad 0)), (1, .int v1), (2, .int v2), (3, .int v3), (4, .int v4), (6, .int v6)]) hx hb dX11_write_125 hl (k := 5) rfl (by rw [ev5_125]; rfl) (by decide) rfl (fun ls hl => ?_)
            exact WB_X11_write_128 v1 v2 v3 v4 v5_125 v6 C_122 X (kb := (L_X11_write_60 v1 v2 v3 v4 kx n_)) ih Y (lv_sub hl [1, 2, 3, 4, 5, 0, 6] rfl) h
set_option maxHeartbeats 4000000 in
set_option maxRecDepth 100000 in
theorem c_X11_write {r9 : Int32} {C9 : Mem} (v1 : Int32) (v2 : Int32) (v3 : Int32) (h : f_X11_write v1 v2 v3 C = some (r9, C9)) : Ct l dC dI ad bd cI cZ yX11_write cX11_write 7 (some .int) rm_X11_write [.ref (ad 0), .int v1, .int v2, .int v3] C D (some (.int r9)) C9 D := by
  unfold f_X11_write at h
  refine Ct.intro (own := RX11) (by decide) rfl (Nat.le_of_ble_eq_true rfl) ?_
  intro p e s m args below meth c H locs ls X Y hl
  have hx := X.1
  have hb := X.2.1
  have hl : lv_has ls 7 [(0, .ref (ad 0)), (1, .int v1), (2, .int v2), (3, .int v3)] := hl
  refine lv_iload_n (pc := 0) hx hb dX11_write_0 rfl (lv_at hl 1 rfl) ?_
  refine call_si (pc := 1) (rest := []) [.int v1] X Y (c_X11_isPeopleOrAll v1) sw_X11_142 rfl ⟨rfl, rfl, Nat.le_of_ble_eq_true rfl, Nat.le_of_ble_eq_true rfl⟩ hl rfl (Nat.le_of_ble_eq_true rfl) dX11_write_1 (fun H locs Y => ?_)
  refine lv_if_eq (pc := 4) (tgt := 21) hx hb dX11_write_4 (by decide) (fun c_4 => ?_) (fun c_4 => ?_)
  · have h := itn (b2i_f c_4) h
    refine lv_bipush (pc := 21) (v := (-2)) hx hb dX11_write_21 (by decide) ?_
    obtain ⟨hr9, hm9⟩ := ret_e h
    exact fin_i (pc := 23) X rfl Y hr9 hm9 rfl dX11_write_23
  · have h := itp (b2i_t c_4) h
    refine lv_iload_n (pc := 7) hx hb dX11_write_7 rfl (lv_at hl 2 rfl) ?_
    refine call_si (pc := 8) (rest := []) [.int v2] X Y (c_X11_isKind v2) sw_X11_93 rfl ⟨rfl, rfl, Nat.le_of_ble_eq_true rfl, Nat.le_of_ble_eq_true rfl⟩ hl rfl (Nat.le_of_ble_eq_true rfl) dX11_write_8 (fun H locs Y => ?_)
    refine lv_if_eq (pc := 11) (tgt := 21) hx hb dX11_write_11 (by decide) (fun c_11 => ?_) (fun c_11 => ?_)
    · have h := itn (b2i_f c_11) h
      refine lv_bipush (pc := 21) (v := (-2)) hx hb dX11_write_21 (by decide) ?_
      obtain ⟨hr9, hm9⟩ := ret_e h
      exact fin_i (pc := 23) X rfl Y hr9 hm9 rfl dX11_write_23
    · have h := itp (b2i_t c_11) h
      refine lv_iload_n (pc := 14) hx hb dX11_write_14 rfl (lv_at hl 3 rfl) ?_
      refine call_si (pc := 15) (rest := []) [.int v3] X Y (c_X11_isSheet v3) sw_X11_109 rfl ⟨rfl, rfl, Nat.le_of_ble_eq_true rfl, Nat.le_of_ble_eq_true rfl⟩ hl rfl (Nat.le_of_ble_eq_true rfl) dX11_write_15 (fun H locs Y => ?_)
      refine lv_if_ne (pc := 18) (tgt := 24) hx hb dX11_write_18 (by decide) (fun c_18 => ?_) (fun c_18 => ?_)
      · have h := itp (b2i_t c_18) h
        refine lv_aload_n (pc := 24) hx hb dX11_write_24 rfl (lv_at hl 0 rfl) ?_
        refine gf_X11_85 (pc := 25) X Y dX11_write_25 ?_
        refine lv_iload_n (pc := 28) hx hb dX11_write_28 rfl (lv_at hl 3 rfl) ?_
        obtain ⟨r_29, e_29, h⟩ := bnd_s h
        refine call_vNi (pc := 29) (rest := []) [.int v3] X Y (c_X7_isLost v3 e_29) sw_X11_112 (rv_X7 X Y) rfl ⟨rfl, rfl, Nat.le_of_ble_eq_true rfl, Nat.le_of_ble_eq_true rfl⟩ hl rfl (Nat.le_of_ble_eq_true rfl) dX11_write_29 (fun H locs Y => ?_)
        refine lv_if_eq (pc := 32) (tgt := 44) hx hb dX11_write_32 (by decide) (fun c_32 => ?_) (fun c_32 => ?_)
        · have h := itn (b2i_f c_32) h
          refine lv_aload_n (pc := 44) hx hb dX11_write_44 rfl (lv_at hl 0 rfl) ?_
          refine gf_X11_85 (pc := 45) X Y dX11_write_45 ?_
          refine lv_iload_n (pc := 48) hx hb dX11_write_48 rfl (lv_at hl 3 rfl) ?_
          obtain ⟨r_49, e_49, h⟩ := bnd_s h
          refine call_vNi (pc := 49) (rest := []) [.int v3] X Y (c_X7_sizeOf v3 e_49) sw_X11_119 (rv_X7 X Y) rfl ⟨rfl, rfl, Nat.le_of_ble_eq_true rfl, Nat.le_of_ble_eq_true rfl⟩ hl rfl (Nat.le_of_ble_eq_true rfl) dX11_write_49 (fun H locs Y => ?_)
          refine lv_istore (pc := 52) (lv' := [(4, .int r_49), (0, .ref (ad 0)), (1, .int v1), (2, .int v2), (3, .int v3)]) hx hb dX11_write_52 hl (by decide) rfl (fun ls hl => ?_)
          refine lv_iconst (pc := 54) (v := 0) hx hb dX11_write_54 (by decide) ?_
          refine lv_istore (pc := 55) (lv' := [(5, .int 0), (4, .int r_49), (0, .ref (ad 0)), (1, .int v1), (2, .int v2), (3, .int v3)]) hx hb dX11_write_55 hl (by decide) rfl (fun ls hl => ?_)
          refine lv_iconst (pc := 57) (v := 0) hx hb dX11_write_57 (by decide) ?_
          refine lv_istore (pc := 58) (lv' := [(6, .int 0), (5, .int 0), (4, .int r_49), (0, .ref (ad 0)), (1, .int v1), (2, .int v2), (3, .int v3)]) hx hb dX11_write_58 hl (by decide) rfl (fun ls hl => ?_)
          refine WL_X11_write_60 v1 v2 v3 r_49 X (fun v5_134 C_134 H locs ls Y hl h => ?_) FU 0 0 C H locs ls Y (lv_sub hl [3, 4, 5, 6, 2, 1, 0] rfl) h
          refine lv_iload (pc := 134) hx hb dX11_write_134 (lv_at hl 0 rfl) ?_
          obtain ⟨hr9, hm9⟩ := ret_e h
          exact fin_i (pc := 136) X rfl Y hr9 hm9 rfl dX11_write_136
        · have h := itp (b2i_t c_32) h
          refine lv_aload_n (pc := 35) hx hb dX11_write_35 rfl (lv_at hl 0 rfl) ?_
          refine gf_X11_85 (pc := 36) X Y dX11_write_36 ?_
          refine lv_iconst (pc := 39) (v := 1) hx hb dX11_write_39 (by decide) ?_
          obtain ⟨r_40, C_40, e_40, h⟩ := bnd2_s h
          refine call_vNi (pc := 40) (rest := []) [.int 1] X Y (c_X7_found 1 e_40) sw_X11_115 (rv_X7 X Y) rfl ⟨rfl, rfl, Nat.le_of_ble_eq_true rfl, Nat.le_of_ble_eq_true rfl⟩ hl rfl (Nat.le_of_ble_eq_true rfl) dX11_write_40 (fun H locs Y => ?_)
          obtain ⟨hr9, hm9⟩ := ret_e h
          exact fin_i (pc := 43) X rfl Y hr9 hm9 rfl dX11_write_43
      · have h := itn (b2i_f c_18) h
        refine lv_bipush (pc := 21) (v := (-2)) hx hb dX11_write_21 (by decide) ?_
        obtain ⟨hr9, hm9⟩ := ret_e h
        exact fin_i (pc := 23) X rfl Y hr9 hm9 rfl dX11_write_23
abbrev rm_X11_count : Room := { frames := 2, cells := 0, slots := 0, locals := 43 }
set_option maxHeartbeats 4000000 in
set_option maxRecDepth 100000 in
theorem c_X11_count {r9 : Int32} (v1 : Int32) (h : f_X11_count v1 C = some r9) : Ct l dC dI ad bd cI cZ yX11_count cX11_count 2 (some .int) rm_X11_count [.ref (ad 0), .int v1] C D (some (.int r9)) C D := by
  unfold f_X11_count at h
  refine Ct.intro (own := RX11) (by decide) rfl (Nat.le_of_ble_eq_true rfl) ?_
  intro p e s m args below meth c H locs ls X Y hl
  have hx := X.1
  have hb := X.2.1
  have hl : lv_has ls 2 [(0, .ref (ad 0)), (1, .int v1)] := hl
  refine lv_iload_n (pc := 0) hx hb dX11_count_0 rfl (lv_at hl 1 rfl) ?_
  by_cases c_1_0 : v1 = 0
  · have h := itp c_1_0 h
    refine lv_tableIn (pc := 1) (tgt := 52) hx hb dX11_count_1 (by rw [c_1_0]; decide) (by rw [c_1_0]; decide) (by first | (rw [c_1_0]; done) | (rw [c_1_0]; rfl)) (by decide) ?_
    refine lv_aload_n (pc := 52) hx hb dX11_count_52 rfl (lv_at hl 0 rfl) ?_
    refine gf_X11_12 (pc := 53) X Y dX11_count_53 ?_
    refine gf_X11_361 (pc := 56) X Y dX11_count_56 ?_
    have hr9 := ret_p h
    exact fin_i (pc := 59) X rfl Y hr9 rfl rfl dX11_count_59
  have h := itn c_1_0 h
  by_cases c_1_1 : v1 = 1
  · have h := itp c_1_1 h
    refine lv_tableIn (pc := 1) (tgt := 60) hx hb dX11_count_1 (by rw [c_1_1]; decide) (by rw [c_1_1]; decide) (by first | (rw [c_1_1]; done) | (rw [c_1_1]; rfl)) (by decide) ?_
    refine lv_aload_n (pc := 60) hx hb dX11_count_60 rfl (lv_at hl 0 rfl) ?_
    refine gf_X11_12 (pc := 61) X Y dX11_count_61 ?_
    obtain ⟨r_64, e_64, h⟩ := bnd_s h
    refine call_vNi (pc := 64) (rest := []) [] X Y (c_X4_howManyCount  e_64) sw_X11_371 (rv_X4 X Y) rfl ⟨rfl, rfl, Nat.le_of_ble_eq_true rfl, Nat.le_of_ble_eq_true rfl⟩ hl rfl (Nat.le_of_ble_eq_true rfl) dX11_count_64 (fun H locs Y => ?_)
    have hr9 := ret_p h
    exact fin_i (pc := 67) X rfl Y hr9 rfl rfl dX11_count_67
  have h := itn c_1_1 h
  by_cases c_1_2 : v1 = 2
  · have h := itp c_1_2 h
    refine lv_tableIn (pc := 1) (tgt := 68) hx hb dX11_count_1 (by rw [c_1_2]; decide) (by rw [c_1_2]; decide) (by first | (rw [c_1_2]; done) | (rw [c_1_2]; rfl)) (by decide) ?_
    refine lv_aload_n (pc := 68) hx hb dX11_count_68 rfl (lv_at hl 0 rfl) ?_
    refine gf_X11_29 (pc := 69) X Y dX11_count_69 ?_
    refine gf_X11_374 (pc := 72) X Y dX11_count_72 ?_
    have hr9 := ret_p h
    exact fin_i (pc := 75) X rfl Y hr9 rfl rfl dX11_count_75
  have h := itn c_1_2 h
  by_cases c_1_3 : v1 = 3
  · have h := itp c_1_3 h
    refine lv_tableIn (pc := 1) (tgt := 76) hx hb dX11_count_1 (by rw [c_1_3]; decide) (by rw [c_1_3]; decide) (by first | (rw [c_1_3]; done) | (rw [c_1_3]; rfl)) (by decide) ?_
    refine lv_aload_n (pc := 76) hx hb dX11_count_76 rfl (lv_at hl 0 rfl) ?_
    refine gf_X11_36 (pc := 77) X Y dX11_count_77 ?_
    refine gf_X11_375 (pc := 80) X Y dX11_count_80 ?_
    have hr9 := ret_p h
    exact fin_i (pc := 83) X rfl Y hr9 rfl rfl dX11_count_83
  have h := itn c_1_3 h
  by_cases c_1_4 : v1 = 4
  · have h := itp c_1_4 h
    refine lv_tableIn (pc := 1) (tgt := 84) hx hb dX11_count_1 (by rw [c_1_4]; decide) (by rw [c_1_4]; decide) (by first | (rw [c_1_4]; done) | (rw [c_1_4]; rfl)) (by decide) ?_
    refine lv_aload_n (pc := 84) hx hb dX11_count_84 rfl (lv_at hl 0 rfl) ?_
    refine gf_X11_43 (pc := 85) X Y dX11_count_85 ?_
    refine gf_X11_376 (pc := 88) X Y dX11_count_88 ?_
    have hr9 := ret_p h
    exact fin_i (pc := 91) X rfl Y hr9 rfl rfl dX11_count_91
  have h := itn c_1_4 h
  by_cases c_1_5 : v1 = 5
  · have h := itp c_1_5 h
    refine lv_tableIn (pc := 1) (tgt := 92) hx hb dX11_count_1 (by rw [c_1_5]; decide) (by rw [c_1_5]; decide) (by first | (rw [c_1_5]; done) | (rw [c_1_5]; rfl)) (by decide) ?_
    refine lv_aload_n (pc := 92) hx hb dX11_count_92 rfl (lv_at hl 0 rfl) ?_
    refine gf_X11_64 (pc := 93) X Y dX11_count_93 ?_
    refine gf_X11_286 (pc := 96) X Y dX11_count_96 ?_
    have hr9 := ret_p h
    exact fin_i (pc := 99) X rfl Y hr9 rfl rfl dX11_count_99
  have h := itn c_1_5 h
  by_cases c_1_6 : v1 = 6
  · have h := itp c_1_6 h
    refine lv_tableIn (pc := 1) (tgt := 100) hx hb dX11_count_1 (by rw [c_1_6]; decide) (by rw [c_1_6]; decide) (by first | (rw [c_1_6]; done) | (rw [c_1_6]; rfl)) (by decide) ?_
    refine lv_aload_n (pc := 100) hx hb dX11_count_100 rfl (lv_at hl 0 rfl) ?_
    refine gf_X11_78 (pc := 101) X Y dX11_count_101 ?_
    refine gf_X11_312 (pc := 104) X Y dX11_count_104 ?_
    have hr9 := ret_p h
    exact fin_i (pc := 107) X rfl Y hr9 rfl rfl dX11_count_107
  have h := itn c_1_6 h
  by_cases c_1_7 : v1 = 7
  · have h := itp c_1_7 h
    refine lv_tableIn (pc := 1) (tgt := 108) hx hb dX11_count_1 (by rw [c_1_7]; decide) (by rw [c_1_7]; decide) (by first | (rw [c_1_7]; done) | (rw [c_1_7]; rfl)) (by decide) ?_
    refine lv_aload_n (pc := 108) hx hb dX11_count_108 rfl (lv_at hl 0 rfl) ?_
    refine gf_X11_12 (pc := 109) X Y dX11_count_109 ?_
    refine gf_X11_138 (pc := 112) X Y dX11_count_112 ?_
    have hr9 := ret_p h
    exact fin_i (pc := 115) X rfl Y hr9 rfl rfl dX11_count_115
  have h := itn c_1_7 h
  by_cases c_1_8 : v1 = 8
  · have h := itp c_1_8 h
    refine lv_tableIn (pc := 1) (tgt := 116) hx hb dX11_count_1 (by rw [c_1_8]; decide) (by rw [c_1_8]; decide) (by first | (rw [c_1_8]; done) | (rw [c_1_8]; rfl)) (by decide) ?_
    refine lv_aload_n (pc := 116) hx hb dX11_count_116 rfl (lv_at hl 0 rfl) ?_
    refine gf_X11_85 (pc := 117) X Y dX11_count_117 ?_
    refine gf_X11_379 (pc := 120) X Y dX11_count_120 ?_
    have hr9 := ret_p h
    exact fin_i (pc := 123) X rfl Y hr9 rfl rfl dX11_count_123
  have h := itn c_1_8 h
  refine lv_tableOut (pc := 1) (tgt := 124) hx hb dX11_count_1 (by have z0 := lv_neT (a := 0) c_1_0 (by decide); have z1 := lv_neT (a := 1) c_1_1 (by decide); have z2 := lv_neT (a := 2) c_1_2 (by decide); have z3 := lv_neT (a := 3) c_1_3 (by decide); have z4 := lv_neT (a := 4) c_1_4 (by decide); have z5 := lv_neT (a := 5) c_1_5 (by decide); have z6 := lv_neT (a := 6) c_1_6 (by decide); have z7 := lv_neT (a := 7) c_1_7 (by decide); have z8 := lv_neT (a := 8) c_1_8 (by decide); omega) (by decide) ?_
  refine lv_bipush (pc := 124) (v := (-2)) hx hb dX11_count_124 (by decide) ?_
  have hr9 := ret_p h
  exact fin_i (pc := 126) X rfl Y hr9 rfl rfl dX11_count_126
abbrev rm_X11_mixPairs : Room := { frames := 4, cells := 0, slots := 0, locals := 90 }
set_option maxHeartbeats 4000000 in
set_option maxRecDepth 100000 in
theorem WL_X11_mixPairs_14 {r9 : Int64} {C9 : Mem} (v5 : Int32) (X : Cx p s m args meth c cX11_mixPairs RX11 7 (some .long) dC dI ad bd cI cZ) {kx : Int64 → Mem → Option (Int64 × Mem)} (hkx : ∀ (v3' : Int64) (C' : Mem) (H : Heap) (locs : List Loc) (ls : Array Slot), Ys s dC dI ad bd cI cZ C' D H locs → lv_has ls 7 [(0, .ref (ad 0)), (3, .long v3'), (5, .int v5)] → kx v3' C' = some (r9, C9) → W p l e rm_X11_mixPairs s m args below meth c H locs 0 0 (MQ below (QC (some (.long r9)) dC dI ad bd cI cZ C9 D) args s 0 0 (AD ad bd)) (F0 m 56 ls [])) : ∀ (n_ : Nat) (v3 : Int64) (v6 : Int32) (C : Mem) (H : Heap) (locs : List Loc) (ls : Array Slot), Ys s dC dI ad bd cI cZ C D H locs → lv_has ls 7 [(0, .ref (ad 0)), (3, .long v3), (5, .int v5), (6, .int v6)] → L_X11_mixPairs_14 v5 kx n_ v3 v6 C = some (r9, C9) → W p l e rm_X11_mixPairs s m args below meth c H locs 0 0 (MQ below (QC (some (.long r9)) dC dI ad bd cI cZ C9 D) args s 0 0 (AD ad bd)) (F0 m 14 ls []) := by
  have hx := X.1
  have hb := X.2.1
  intro n_
  induction n_ with
  | zero =>
    intro v3 v6 C H locs ls Y hl h
    cases h
  | succ n_ ih =>
    intro v3 v6 C H locs ls Y hl h
    unfold L_X11_mixPairs_14 at h
    refine lv_iload (pc := 14) hx hb dX11_mixPairs_14 (lv_at hl 3 rfl) ?_
    refine lv_iconst (pc := 16) (v := 4) hx hb dX11_mixPairs_16 (by decide) ?_
    refine lv_icmp_ge (pc := 17) (tgt := 56) hx hb dX11_mixPairs_17 (by decide) (fun c_17 => ?_) (fun c_17 => ?_)
    · have h := itp c_17 h
      exact hkx v3 C H locs ls Y (lv_sub hl [0, 1, 2] rfl) h
    · have h := itn c_17 h
      refine lv_lload_n (pc := 20) hx hb dX11_mixPairs_20 rfl (lv_at hl 1 rfl) ?_
      refine lv_aload_n (pc := 21) hx hb dX11_mixPairs_21 rfl (lv_at hl 0 rfl) ?_
      refine lv_iload (pc := 22) hx hb dX11_mixPairs_22 (lv_at hl 2 rfl) ?_
      refine lv_iload (pc := 24) hx hb dX11_mixPairs_24 (lv_at hl 3 rfl) ?_
      refine lv_iconst (pc := 26) (v := 0) hx hb dX11_mixPairs_26 (by decide) ?_
      obtain ⟨r_27, C_27, e_27, h⟩ := bnd2_s h
      refine call_vi (pc := 27) (rest := [.long v3]) [.int v5, .int v6, .int 0] X Y (c_X11_many v5 v6 0 e_27) sw_X11_413 (rv_X11 X Y) rfl ⟨rfl, rfl, Nat.le_of_ble_eq_true rfl, Nat.le_of_ble_eq_true rfl⟩ hl rfl (Nat.le_of_ble_eq_true rfl) dX11_mixPairs_27 (fun H locs Y => ?_)
      refine lv_i2l (pc := 30) hx hb dX11_mixPairs_30 rfl ?_
      refine call_sl (pc := 31) (rest := []) [.long v3, .long (r_27.toInt64)] X Y (c_X11_mix v3 (r_27.toInt64)) sw_X11_387 rfl ⟨rfl, rfl, Nat.le_of_ble_eq_true rfl, Nat.le_of_ble_eq_true rfl⟩ hl rfl (Nat.le_of_ble_eq_true rfl) dX11_mixPairs_31 (fun H locs Y => ?_)
      obtain ⟨v3_34, ev3_34, h⟩ := lt_s_ h
      refine top_l ev3_34 ?_
      refine lv_lstore_n (pc := 34) (lv' := [(3, .long v3_34), (0, .ref (ad 0)), (5, .int v5), (6, .int v6)]) hx hb dX11_mixPairs_34 rfl hl (by decide) rfl (fun ls hl => ?_)
      refine lv_lload_n (pc := 35) hx hb dX11_mixPairs_35 rfl (lv_at hl 0 rfl) ?_
      refine lv_aload_n (pc := 36) hx hb dX11_mixPairs_36 rfl (lv_at hl 1 rfl) ?_
      refine lv_iload (pc := 37) hx hb dX11_mixPairs_37 (lv_at hl 2 rfl) ?_
      refine lv_iload (pc := 39) hx hb dX11_mixPairs_39 (lv_at hl 3 rfl) ?_
      refine lv_iconst (pc := 41) (v := 1) hx hb dX11_mixPairs_41 (by decide) ?_
      obtain ⟨r_42, C_42, e_42, h⟩ := bnd2_s h
      refine call_vi (pc := 42) (rest := [.long v3_34]) [.int v5, .int v6, .int 1] X Y (c_X11_many v5 v6 1 e_42) sw_X11_413 (rv_X11 X Y) rfl ⟨rfl, rfl, Nat.le_of_ble_eq_true rfl, Nat.le_of_ble_eq_true rfl⟩ hl rfl (Nat.le_of_ble_eq_true rfl) dX11_mixPairs_42 (fun H locs Y => ?_)
      refine lv_i2l (pc := 45) hx hb dX11_mixPairs_45 rfl ?_
      refine call_sl (pc := 46) (rest := []) [.long v3_34, .long (r_42.toInt64)] X Y (c_X11_mix v3_34 (r_42.toInt64)) sw_X11_387 rfl ⟨rfl, rfl, Nat.le_of_ble_eq_true rfl, Nat.le_of_ble_eq_true rfl⟩ hl rfl (Nat.le_of_ble_eq_true rfl) dX11_mixPairs_46 (fun H locs Y => ?_)
      obtain ⟨v3_49, ev3_49, h⟩ := lt_s_ h
      refine top_l ev3_49 ?_
      refine lv_lstore_n (pc := 49) (lv' := [(3, .long v3_49), (0, .ref (ad 0)), (5, .int v5), (6, .int v6)]) hx hb dX11_mixPairs_49 rfl hl (by decide) rfl (fun ls hl => ?_)
      obtain ⟨v6_50, ev6_50, h⟩ := lt_s_ h
      refine lv_iinc (pc := 50) (v := v6_50) (lv' := [(6, .int v6_50), (3, .long v3_49), (0, .ref (ad 0)), (5, .int v5)]) hx hb dX11_mixPairs_50 hl (k := 3) rfl (by rw [ev6_50]; rfl) (by decide) rfl (fun ls hl => ?_)
      refine lv_goto (pc := 53) (tgt := 14) hx hb dX11_mixPairs_53 (by decide) ?_
      exact ih v3_49 v6_50 C_42 H locs ls Y (lv_sub hl [2, 1, 3, 0] rfl) h
set_option maxHeartbeats 4000000 in
set_option maxRecDepth 100000 in
theorem WL_X11_mixPairs_5 {r9 : Int64} {C9 : Mem} (X : Cx p s m args meth c cX11_mixPairs RX11 7 (some .long) dC dI ad bd cI cZ) {kx : Int64 → Mem → Option (Int64 × Mem)} (hkx : ∀ (v3' : Int64) (C' : Mem) (H : Heap) (locs : List Loc) (ls : Array Slot), Ys s dC dI ad bd cI cZ C' D H locs → lv_has ls 7 [(0, .ref (ad 0)), (3, .long v3')] → kx v3' C' = some (r9, C9) → W p l e rm_X11_mixPairs s m args below meth c H locs 0 0 (MQ below (QC (some (.long r9)) dC dI ad bd cI cZ C9 D) args s 0 0 (AD ad bd)) (F0 m 62 ls [])) : ∀ (n_ : Nat) (v3 : Int64) (v5 : Int32) (C : Mem) (H : Heap) (locs : List Loc) (ls : Array Slot), Ys s dC dI ad bd cI cZ C D H locs → lv_has ls 7 [(0, .ref (ad 0)), (3, .long v3), (5, .int v5)] → L_X11_mixPairs_5 kx n_ v3 v5 C = some (r9, C9) → W p l e rm_X11_mixPairs s m args below meth c H locs 0 0 (MQ below (QC (some (.long r9)) dC dI ad bd cI cZ C9 D) args s 0 0 (AD ad bd)) (F0 m 5 ls []) := by
  have hx := X.1
  have hb := X.2.1
  intro n_
  induction n_ with
  | zero =>
    intro v3 v5 C H locs ls Y hl h
    cases h
  | succ n_ ih =>
    intro v3 v5 C H locs ls Y hl h
    unfold L_X11_mixPairs_5 at h
    refine lv_iload (pc := 5) hx hb dX11_mixPairs_5 (lv_at hl 2 rfl) ?_
    refine lv_iconst (pc := 7) (v := 4) hx hb dX11_mixPairs_7 (by decide) ?_
    refine lv_icmp_ge (pc := 8) (tgt := 62) hx hb dX11_mixPairs_8 (by decide) (fun c_8 => ?_) (fun c_8 => ?_)
    · have h := itp c_8 h
      exact hkx v3 C H locs ls Y (lv_sub hl [0, 1] rfl) h
    · have h := itn c_8 h
      refine lv_iconst (pc := 11) (v := 0) hx hb dX11_mixPairs_11 (by decide) ?_
      refine lv_istore (pc := 12) (lv' := [(6, .int 0), (0, .ref (ad 0)), (3, .long v3), (5, .int v5)]) hx hb dX11_mixPairs_12 hl (by decide) rfl (fun ls hl => ?_)
      refine WL_X11_mixPairs_14 v5 X (fun v3_56 C_56 H locs ls Y hl h => ?_) FU v3 0 C H locs ls Y (lv_sub hl [1, 2, 3, 0] rfl) h
      obtain ⟨v5_56, ev5_56, h⟩ := lt_s_ h
      refine lv_iinc (pc := 56) (v := v5_56) (lv' := [(5, .int v5_56), (0, .ref (ad 0)), (3, .long v3_56)]) hx hb dX11_mixPairs_56 hl (k := 2) rfl (by rw [ev5_56]; rfl) (by decide) rfl (fun ls hl => ?_)
      refine lv_goto (pc := 59) (tgt := 5) hx hb dX11_mixPairs_59 (by decide) ?_
      exact ih v3_56 v5_56 C_56 H locs ls Y (lv_sub hl [1, 2, 0] rfl) h
set_option maxHeartbeats 4000000 in
set_option maxRecDepth 100000 in
theorem c_X11_mixPairs {r9 : Int64} {C9 : Mem} (v1 : Int64) (h : f_X11_mixPairs v1 C = some (r9, C9)) : Ct l dC dI ad bd cI cZ yX11_mixPairs cX11_mixPairs 7 (some .long) rm_X11_mixPairs [.ref (ad 0), .long v1] C D (some (.long r9)) C9 D := by
  unfold f_X11_mixPairs at h
  refine Ct.intro (own := RX11) (by decide) rfl (Nat.le_of_ble_eq_true rfl) ?_
  intro p e s m args below meth c H locs ls X Y hl
  have hx := X.1
  have hb := X.2.1
  have hl : lv_has ls 7 [(0, .ref (ad 0)), (1, .long v1)] := hl
  refine lv_lload_n (pc := 0) hx hb dX11_mixPairs_0 rfl (lv_at hl 1 rfl) ?_
  refine lv_lstore_n (pc := 1) (lv' := [(3, .long v1), (0, .ref (ad 0)), (1, .long v1)]) hx hb dX11_mixPairs_1 rfl hl (by decide) rfl (fun ls hl => ?_)
  refine lv_iconst (pc := 2) (v := (-1)) hx hb dX11_mixPairs_2 (by decide) ?_
  refine lv_istore (pc := 3) (lv' := [(5, .int (-1)), (3, .long v1), (0, .ref (ad 0)), (1, .long v1)]) hx hb dX11_mixPairs_3 hl (by decide) rfl (fun ls hl => ?_)
  refine WL_X11_mixPairs_5 X (fun v3_62 C_62 H locs ls Y hl h => ?_) FU v1 (-1) C H locs ls Y (lv_sub hl [2, 1, 0] rfl) h
  refine lv_lload_n (pc := 62) hx hb dX11_mixPairs_62 rfl (lv_at hl 1 rfl) ?_
  refine lv_aload_n (pc := 63) hx hb dX11_mixPairs_63 rfl (lv_at hl 0 rfl) ?_
  refine lv_iconst (pc := 64) (v := (-1)) hx hb dX11_mixPairs_64 (by decide) ?_
  refine lv_iconst (pc := 65) (v := 0) hx hb dX11_mixPairs_65 (by decide) ?_
  refine lv_iconst (pc := 66) (v := 0) hx hb dX11_mixPairs_66 (by decide) ?_
  obtain ⟨r_67, C_67, e_67, h⟩ := bnd2_s h
  refine call_vl (pc := 67) (rest := [.long v3_62]) [.int (-1), .int 0, .int 0] X Y (c_X11_mean (-1) 0 0 e_67) sw_X11_415 (rv_X11 X Y) rfl ⟨rfl, rfl, Nat.le_of_ble_eq_true rfl, Nat.le_of_ble_eq_true rfl⟩ hl rfl (Nat.le_of_ble_eq_true rfl) dX11_mixPairs_67 (fun H locs Y => ?_)
  refine call_sl (pc := 70) (rest := []) [.long v3_62, .long r_67] X Y (c_X11_mix v3_62 r_67) sw_X11_387 rfl ⟨rfl, rfl, Nat.le_of_ble_eq_true rfl, Nat.le_of_ble_eq_true rfl⟩ hl rfl (Nat.le_of_ble_eq_true rfl) dX11_mixPairs_70 (fun H locs Y => ?_)
  obtain ⟨v3_73, ev3_73, h⟩ := lt_s_ h
  refine top_l ev3_73 ?_
  refine lv_lstore_n (pc := 73) (lv' := [(3, .long v3_73), (0, .ref (ad 0))]) hx hb dX11_mixPairs_73 rfl hl (by decide) rfl (fun ls hl => ?_)
  refine lv_lload_n (pc := 74) hx hb dX11_mixPairs_74 rfl (lv_at hl 0 rfl) ?_
  refine lv_aload_n (pc := 75) hx hb dX11_mixPairs_75 rfl (lv_at hl 1 rfl) ?_
  refine lv_iconst (pc := 76) (v := (-1)) hx hb dX11_mixPairs_76 (by decide) ?_
  refine lv_iconst (pc := 77) (v := 0) hx hb dX11_mixPairs_77 (by decide) ?_
  refine lv_iconst (pc := 78) (v := 1) hx hb dX11_mixPairs_78 (by decide) ?_
  obtain ⟨r_79, C_79, e_79, h⟩ := bnd2_s h
  refine call_vl (pc := 79) (rest := [.long v3_73]) [.int (-1), .int 0, .int 1] X Y (c_X11_mean (-1) 0 1 e_79) sw_X11_415 (rv_X11 X Y) rfl ⟨rfl, rfl, Nat.le_of_ble_eq_true rfl, Nat.le_of_ble_eq_true rfl⟩ hl rfl (Nat.le_of_ble_eq_true rfl) dX11_mixPairs_79 (fun H locs Y => ?_)
  refine call_sl (pc := 82) (rest := []) [.long v3_73, .long r_79] X Y (c_X11_mix v3_73 r_79) sw_X11_387 rfl ⟨rfl, rfl, Nat.le_of_ble_eq_true rfl, Nat.le_of_ble_eq_true rfl⟩ hl rfl (Nat.le_of_ble_eq_true rfl) dX11_mixPairs_82 (fun H locs Y => ?_)
  obtain ⟨hr9, hm9⟩ := ret_e h
  exact fin_l (pc := 85) X rfl Y hr9 hm9 rfl dX11_mixPairs_85
abbrev rm_X11_mixRowsAndBeliefs : Room := { frames := 5, cells := 0, slots := 0, locals := 111 }
set_option maxHeartbeats 4000000 in
set_option maxRecDepth 100000 in
theorem WL_X11_mixRowsAndBeliefs_29 {r9 : Int64} {C9 : Mem} (v5 : Int32) (X : Cx p s m args meth c cX11_mixRowsAndBeliefs RX11 7 (some .long) dC dI ad bd cI cZ) {kx : Int64 → Mem → Option (Int64 × Mem)} (hkx : ∀ (v3' : Int64) (C' : Mem) (H : Heap) (locs : List Loc) (ls : Array Slot), Ys s dC dI ad bd cI cZ C' D H locs → lv_has ls 7 [(0, .ref (ad 0)), (3, .long v3'), (5, .int v5)] → kx v3' C' = some (r9, C9) → W p l e rm_X11_mixRowsAndBeliefs s m args below meth c H locs 0 0 (MQ below (QC (some (.long r9)) dC dI ad bd cI cZ C9 D) args s 0 0 (AD ad bd)) (F0 m 55 ls [])) : ∀ (n_ : Nat) (v3 : Int64) (v6 : Int32) (C : Mem) (H : Heap) (locs : List Loc) (ls : Array Slot), Ys s dC dI ad bd cI cZ C D H locs → lv_has ls 7 [(0, .ref (ad 0)), (3, .long v3), (5, .int v5), (6, .int v6)] → L_X11_mixRowsAndBeliefs_29 v5 kx n_ v3 v6 C = some (r9, C9) → W p l e rm_X11_mixRowsAndBeliefs s m args below meth c H locs 0 0 (MQ below (QC (some (.long r9)) dC dI ad bd cI cZ C9 D) args s 0 0 (AD ad bd)) (F0 m 29 ls []) := by
  have hx := X.1
  have hb := X.2.1
  intro n_
  induction n_ with
  | zero =>
    intro v3 v6 C H locs ls Y hl h
    cases h
  | succ n_ ih =>
    intro v3 v6 C H locs ls Y hl h
    unfold L_X11_mixRowsAndBeliefs_29 at h
    refine lv_iload (pc := 29) hx hb dX11_mixRowsAndBeliefs_29 (lv_at hl 3 rfl) ?_
    refine lv_iconst (pc := 31) (v := 2) hx hb dX11_mixRowsAndBeliefs_31 (by decide) ?_
    refine lv_icmp_gt (pc := 32) (tgt := 55) hx hb dX11_mixRowsAndBeliefs_32 (by decide) (fun c_32 => ?_) (fun c_32 => ?_)
    · have h := itp c_32 h
      exact hkx v3 C H locs ls Y (lv_sub hl [0, 1, 2] rfl) h
    · have h := itn c_32 h
      refine lv_lload_n (pc := 35) hx hb dX11_mixRowsAndBeliefs_35 rfl (lv_at hl 1 rfl) ?_
      refine lv_aload_n (pc := 36) hx hb dX11_mixRowsAndBeliefs_36 rfl (lv_at hl 0 rfl) ?_
      refine lv_iload (pc := 37) hx hb dX11_mixRowsAndBeliefs_37 (lv_at hl 2 rfl) ?_
      refine lv_iload (pc := 39) hx hb dX11_mixRowsAndBeliefs_39 (lv_at hl 3 rfl) ?_
      obtain ⟨r_41, C_41, e_41, h⟩ := bnd2_s h
      refine call_vi (pc := 41) (rest := [.long v3]) [.int v5, .int v6] X Y (c_X11_line v5 v6 e_41) sw_X11_422 (rv_X11 X Y) rfl ⟨rfl, rfl, Nat.le_of_ble_eq_true rfl, Nat.le_of_ble_eq_true rfl⟩ hl rfl (Nat.le_of_ble_eq_true rfl) dX11_mixRowsAndBeliefs_41 (fun H locs Y => ?_)
      refine lv_i2l (pc := 44) hx hb dX11_mixRowsAndBeliefs_44 rfl ?_
      refine call_sl (pc := 45) (rest := []) [.long v3, .long (r_41.toInt64)] X Y (c_X11_mix v3 (r_41.toInt64)) sw_X11_387 rfl ⟨rfl, rfl, Nat.le_of_ble_eq_true rfl, Nat.le_of_ble_eq_true rfl⟩ hl rfl (Nat.le_of_ble_eq_true rfl) dX11_mixRowsAndBeliefs_45 (fun H locs Y => ?_)
      obtain ⟨v3_48, ev3_48, h⟩ := lt_s_ h
      refine top_l ev3_48 ?_
      refine lv_lstore_n (pc := 48) (lv' := [(3, .long v3_48), (0, .ref (ad 0)), (5, .int v5), (6, .int v6)]) hx hb dX11_mixRowsAndBeliefs_48 rfl hl (by decide) rfl (fun ls hl => ?_)
      obtain ⟨v6_49, ev6_49, h⟩ := lt_s_ h
      refine lv_iinc (pc := 49) (v := v6_49) (lv' := [(6, .int v6_49), (3, .long v3_48), (0, .ref (ad 0)), (5, .int v5)]) hx hb dX11_mixRowsAndBeliefs_49 hl (k := 3) rfl (by rw [ev6_49]; rfl) (by decide) rfl (fun ls hl => ?_)
      refine lv_goto (pc := 52) (tgt := 29) hx hb dX11_mixRowsAndBeliefs_52 (by decide) ?_
      exact ih v3_48 v6_49 C_41 H locs ls Y (lv_sub hl [2, 1, 3, 0] rfl) h
set_option maxHeartbeats 4000000 in
set_option maxRecDepth 100000 in
theorem WL_X11_mixRowsAndBeliefs_14 {r9 : Int64} {C9 : Mem} (X : Cx p s m args meth c cX11_mixRowsAndBeliefs RX11 7 (some .long) dC dI ad bd cI cZ) {kx : Int64 → Mem → Option (Int64 × Mem)} (hkx : ∀ (v3' : Int64) (C' : Mem) (H : Heap) (locs : List Loc) (ls : Array Slot), Ys s dC dI ad bd cI cZ C' D H locs → lv_has ls 7 [(0, .ref (ad 0)), (3, .long v3')] → kx v3' C' = some (r9, C9) → W p l e rm_X11_mixRowsAndBeliefs s m args below meth c H locs 0 0 (MQ below (QC (some (.long r9)) dC dI ad bd cI cZ C9 D) args s 0 0 (AD ad bd)) (F0 m 61 ls [])) : ∀ (n_ : Nat) (v3 : Int64) (v5 : Int32) (C : Mem) (H : Heap) (locs : List Loc) (ls : Array Slot), Ys s dC dI ad bd cI cZ C D H locs → lv_has ls 7 [(0, .ref (ad 0)), (3, .long v3), (5, .int v5)] → L_X11_mixRowsAndBeliefs_14 kx n_ v3 v5 C = some (r9, C9) → W p l e rm_X11_mixRowsAndBeliefs s m args below meth c H locs 0 0 (MQ below (QC (some (.long r9)) dC dI ad bd cI cZ C9 D) args s 0 0 (AD ad bd)) (F0 m 14 ls []) := by
  have hx := X.1
  have hb := X.2.1
  intro n_
  induction n_ with
  | zero =>
    intro v3 v5 C H locs ls Y hl h
    cases h
  | succ n_ ih =>
    intro v3 v5 C H locs ls Y hl h
    unfold L_X11_mixRowsAndBeliefs_14 at h
    refine lv_iload (pc := 14) hx hb dX11_mixRowsAndBeliefs_14 (lv_at hl 2 rfl) ?_
    refine lv_aload_n (pc := 16) hx hb dX11_mixRowsAndBeliefs_16 rfl (lv_at hl 0 rfl) ?_
    refine gf_X11_29 (pc := 17) X Y dX11_mixRowsAndBeliefs_17 ?_
    refine gf_X11_374 (pc := 20) X Y dX11_mixRowsAndBeliefs_20 ?_
    refine lv_icmp_ge (pc := 23) (tgt := 61) hx hb dX11_mixRowsAndBeliefs_23 (by decide) (fun c_23 => ?_) (fun c_23 => ?_)
    · have h := itp c_23 h
      exact hkx v3 C H locs ls Y (lv_sub hl [0, 1] rfl) h
    · have h := itn c_23 h
      refine lv_iconst (pc := 26) (v := 0) hx hb dX11_mixRowsAndBeliefs_26 (by decide) ?_
      refine lv_istore (pc := 27) (lv' := [(6, .int 0), (0, .ref (ad 0)), (3, .long v3), (5, .int v5)]) hx hb dX11_mixRowsAndBeliefs_27 hl (by decide) rfl (fun ls hl => ?_)
      refine WL_X11_mixRowsAndBeliefs_29 v5 X (fun v3_55 C_55 H locs ls Y hl h => ?_) FU v3 0 C H locs ls Y (lv_sub hl [1, 2, 3, 0] rfl) h
      obtain ⟨v5_55, ev5_55, h⟩ := lt_s_ h
      refine lv_iinc (pc := 55) (v := v5_55) (lv' := [(5, .int v5_55), (0, .ref (ad 0)), (3, .long v3_55)]) hx hb dX11_mixRowsAndBeliefs_55 hl (k := 2) rfl (by rw [ev5_55]; rfl) (by decide) rfl (fun ls hl => ?_)
      refine lv_goto (pc := 58) (tgt := 14) hx hb dX11_mixRowsAndBeliefs_58 (by decide) ?_
      exact ih v3_55 v5_55 C_55 H locs ls Y (lv_sub hl [1, 2, 0] rfl) h
set_option maxHeartbeats 4000000 in
set_option maxRecDepth 100000 in
theorem WL_X11_mixRowsAndBeliefs_64 {r9 : Int64} {C9 : Mem} (X : Cx p s m args meth c cX11_mixRowsAndBeliefs RX11 7 (some .long) dC dI ad bd cI cZ) {kx : Int64 → Mem → Option (Int64 × Mem)} (hkx : ∀ (v3' : Int64) (C' : Mem) (H : Heap) (locs : List Loc) (ls : Array Slot), Ys s dC dI ad bd cI cZ C' D H locs → lv_has ls 7 [(3, .long v3')] → kx v3' C' = some (r9, C9) → W p l e rm_X11_mixRowsAndBeliefs s m args below meth c H locs 0 0 (MQ below (QC (some (.long r9)) dC dI ad bd cI cZ C9 D) args s 0 0 (AD ad bd)) (F0 m 94 ls [])) : ∀ (n_ : Nat) (v3 : Int64) (v5 : Int32) (C : Mem) (H : Heap) (locs : List Loc) (ls : Array Slot), Ys s dC dI ad bd cI cZ C D H locs → lv_has ls 7 [(0, .ref (ad 0)), (3, .long v3), (5, .int v5)] → L_X11_mixRowsAndBeliefs_64 kx n_ v3 v5 C = some (r9, C9) → W p l e rm_X11_mixRowsAndBeliefs s m args below meth c H locs 0 0 (MQ below (QC (some (.long r9)) dC dI ad bd cI cZ C9 D) args s 0 0 (AD ad bd)) (F0 m 64 ls []) := by
  have hx := X.1
  have hb := X.2.1
  intro n_
  induction n_ with
  | zero =>
    intro v3 v5 C H locs ls Y hl h
    cases h
  | succ n_ ih =>
    intro v3 v5 C H locs ls Y hl h
    unfold L_X11_mixRowsAndBeliefs_64 at h
    refine lv_iload (pc := 64) hx hb dX11_mixRowsAndBeliefs_64 (lv_at hl 2 rfl) ?_
    refine lv_aload_n (pc := 66) hx hb dX11_mixRowsAndBeliefs_66 rfl (lv_at hl 0 rfl) ?_
    refine gf_X11_36 (pc := 67) X Y dX11_mixRowsAndBeliefs_67 ?_
    refine gf_X11_375 (pc := 70) X Y dX11_mixRowsAndBeliefs_70 ?_
    refine lv_icmp_ge (pc := 73) (tgt := 94) hx hb dX11_mixRowsAndBeliefs_73 (by decide) (fun c_73 => ?_) (fun c_73 => ?_)
    · have h := itp c_73 h
      exact hkx v3 C H locs ls Y (lv_sub hl [1] rfl) h
    · have h := itn c_73 h
      refine lv_lload_n (pc := 76) hx hb dX11_mixRowsAndBeliefs_76 rfl (lv_at hl 1 rfl) ?_
      refine lv_aload_n (pc := 77) hx hb dX11_mixRowsAndBeliefs_77 rfl (lv_at hl 0 rfl) ?_
      refine lv_iload (pc := 78) hx hb dX11_mixRowsAndBeliefs_78 (lv_at hl 2 rfl) ?_
      obtain ⟨r_80, C_80, e_80, h⟩ := bnd2_s h
      refine call_vi (pc := 80) (rest := [.long v3]) [.int v5] X Y (c_X11_hisBest v5 e_80) sw_X11_425 (rv_X11 X Y) rfl ⟨rfl, rfl, Nat.le_of_ble_eq_true rfl, Nat.le_of_ble_eq_true rfl⟩ hl rfl (Nat.le_of_ble_eq_true rfl) dX11_mixRowsAndBeliefs_80 (fun H locs Y => ?_)
      refine lv_i2l (pc := 83) hx hb dX11_mixRowsAndBeliefs_83 rfl ?_
      refine call_sl (pc := 84) (rest := []) [.long v3, .long (r_80.toInt64)] X Y (c_X11_mix v3 (r_80.toInt64)) sw_X11_387 rfl ⟨rfl, rfl, Nat.le_of_ble_eq_true rfl, Nat.le_of_ble_eq_true rfl⟩ hl rfl (Nat.le_of_ble_eq_true rfl) dX11_mixRowsAndBeliefs_84 (fun H locs Y => ?_)
      obtain ⟨v3_87, ev3_87, h⟩ := lt_s_ h
      refine top_l ev3_87 ?_
      refine lv_lstore_n (pc := 87) (lv' := [(3, .long v3_87), (0, .ref (ad 0)), (5, .int v5)]) hx hb dX11_mixRowsAndBeliefs_87 rfl hl (by decide) rfl (fun ls hl => ?_)
      obtain ⟨v5_88, ev5_88, h⟩ := lt_s_ h
      refine lv_iinc (pc := 88) (v := v5_88) (lv' := [(5, .int v5_88), (3, .long v3_87), (0, .ref (ad 0))]) hx hb dX11_mixRowsAndBeliefs_88 hl (k := 2) rfl (by rw [ev5_88]; rfl) (by decide) rfl (fun ls hl => ?_)
      refine lv_goto (pc := 91) (tgt := 64) hx hb dX11_mixRowsAndBeliefs_91 (by decide) ?_
      exact ih v3_87 v5_88 C_80 H locs ls Y (lv_sub hl [2, 1, 0] rfl) h
set_option maxHeartbeats 4000000 in
set_option maxRecDepth 100000 in
theorem c_X11_mixRowsAndBeliefs {r9 : Int64} {C9 : Mem} (v1 : Int64) (h : f_X11_mixRowsAndBeliefs v1 C = some (r9, C9)) : Ct l dC dI ad bd cI cZ yX11_mixRowsAndBeliefs cX11_mixRowsAndBeliefs 7 (some .long) rm_X11_mixRowsAndBeliefs [.ref (ad 0), .long v1] C D (some (.long r9)) C9 D := by
  unfold f_X11_mixRowsAndBeliefs at h
  refine Ct.intro (own := RX11) (by decide) rfl (Nat.le_of_ble_eq_true rfl) ?_
  intro p e s m args below meth c H locs ls X Y hl
  have hx := X.1
  have hb := X.2.1
  have hl : lv_has ls 7 [(0, .ref (ad 0)), (1, .long v1)] := hl
  refine lv_lload_n (pc := 0) hx hb dX11_mixRowsAndBeliefs_0 rfl (lv_at hl 1 rfl) ?_
  refine lv_aload_n (pc := 1) hx hb dX11_mixRowsAndBeliefs_1 rfl (lv_at hl 0 rfl) ?_
  refine lv_iconst (pc := 2) (v := (-1)) hx hb dX11_mixRowsAndBeliefs_2 (by decide) ?_
  obtain ⟨r_3, C_3, e_3, h⟩ := bnd2_s h
  refine call_vi (pc := 3) (rest := [.long v1]) [.int (-1)] X Y (c_X11_best (-1) e_3) sw_X11_419 (rv_X11 X Y) rfl ⟨rfl, rfl, Nat.le_of_ble_eq_true rfl, Nat.le_of_ble_eq_true rfl⟩ hl rfl (Nat.le_of_ble_eq_true rfl) dX11_mixRowsAndBeliefs_3 (fun H locs Y => ?_)
  refine lv_i2l (pc := 6) hx hb dX11_mixRowsAndBeliefs_6 rfl ?_
  refine call_sl (pc := 7) (rest := []) [.long v1, .long (r_3.toInt64)] X Y (c_X11_mix v1 (r_3.toInt64)) sw_X11_387 rfl ⟨rfl, rfl, Nat.le_of_ble_eq_true rfl, Nat.le_of_ble_eq_true rfl⟩ hl rfl (Nat.le_of_ble_eq_true rfl) dX11_mixRowsAndBeliefs_7 (fun H locs Y => ?_)
  obtain ⟨v3_10, ev3_10, h⟩ := lt_s_ h
  refine top_l ev3_10 ?_
  refine lv_lstore_n (pc := 10) (lv' := [(3, .long v3_10), (0, .ref (ad 0)), (1, .long v1)]) hx hb dX11_mixRowsAndBeliefs_10 rfl hl (by decide) rfl (fun ls hl => ?_)
  refine lv_iconst (pc := 11) (v := 0) hx hb dX11_mixRowsAndBeliefs_11 (by decide) ?_
  refine lv_istore (pc := 12) (lv' := [(5, .int 0), (3, .long v3_10), (0, .ref (ad 0)), (1, .long v1)]) hx hb dX11_mixRowsAndBeliefs_12 hl (by decide) rfl (fun ls hl => ?_)
  refine WL_X11_mixRowsAndBeliefs_14 X (fun v3_61 C_61 H locs ls Y hl h => ?_) FU v3_10 0 C_3 H locs ls Y (lv_sub hl [2, 1, 0] rfl) h
  refine lv_iconst (pc := 61) (v := 0) hx hb dX11_mixRowsAndBeliefs_61 (by decide) ?_
  refine lv_istore (pc := 62) (lv' := [(5, .int 0), (0, .ref (ad 0)), (3, .long v3_61)]) hx hb dX11_mixRowsAndBeliefs_62 hl (by decide) rfl (fun ls hl => ?_)
  refine WL_X11_mixRowsAndBeliefs_64 X (fun v3_94 C_94 H locs ls Y hl h => ?_) FU v3_61 0 C_61 H locs ls Y (lv_sub hl [1, 2, 0] rfl) h
  refine lv_lload_n (pc := 94) hx hb dX11_mixRowsAndBeliefs_94 rfl (lv_at hl 0 rfl) ?_
  obtain ⟨hr9, hm9⟩ := ret_e h
  exact fin_l (pc := 95) X rfl Y hr9 hm9 rfl dX11_mixRowsAndBeliefs_95
abbrev rm_X11_mixGame : Room := { frames := 5, cells := 0, slots := 0, locals := 113 }
set_option maxHeartbeats 4000000 in
set_option maxRecDepth 100000 in
theorem WL_X11_mixGame_5 {r9 : Int64} {C9 : Mem} (X : Cx p s m args meth c cX11_mixGame RX11 6 (some .long) dC dI ad bd cI cZ) {kx : Int64 → Mem → Option (Int64 × Mem)} (hkx : ∀ (v3' : Int64) (C' : Mem) (H : Heap) (locs : List Loc) (ls : Array Slot), Ys s dC dI ad bd cI cZ C' D H locs → lv_has ls 6 [(0, .ref (ad 0)), (3, .long v3')] → kx v3' C' = some (r9, C9) → W p l e rm_X11_mixGame s m args below meth c H locs 0 0 (MQ below (QC (some (.long r9)) dC dI ad bd cI cZ C9 D) args s 0 0 (AD ad bd)) (F0 m 30 ls [])) : ∀ (n_ : Nat) (v3 : Int64) (v5 : Int32) (C : Mem) (H : Heap) (locs : List Loc) (ls : Array Slot), Ys s dC dI ad bd cI cZ C D H locs → lv_has ls 6 [(0, .ref (ad 0)), (3, .long v3), (5, .int v5)] → L_X11_mixGame_5 kx n_ v3 v5 C = some (r9, C9) → W p l e rm_X11_mixGame s m args below meth c H locs 0 0 (MQ below (QC (some (.long r9)) dC dI ad bd cI cZ C9 D) args s 0 0 (AD ad bd)) (F0 m 5 ls []) := by
  have hx := X.1
  have hb := X.2.1
  intro n_
  induction n_ with
  | zero =>
    intro v3 v5 C H locs ls Y hl h
    cases h
  | succ n_ ih =>
    intro v3 v5 C H locs ls Y hl h
    unfold L_X11_mixGame_5 at h
    refine lv_iload (pc := 5) hx hb dX11_mixGame_5 (lv_at hl 2 rfl) ?_
    refine lv_iconst (pc := 7) (v := 5) hx hb dX11_mixGame_7 (by decide) ?_
    refine lv_icmp_gt (pc := 8) (tgt := 30) hx hb dX11_mixGame_8 (by decide) (fun c_8 => ?_) (fun c_8 => ?_)
    · have h := itp c_8 h
      exact hkx v3 C H locs ls Y (lv_sub hl [0, 1] rfl) h
    · have h := itn c_8 h
      refine lv_lload_n (pc := 11) hx hb dX11_mixGame_11 rfl (lv_at hl 1 rfl) ?_
      refine lv_aload_n (pc := 12) hx hb dX11_mixGame_12 rfl (lv_at hl 0 rfl) ?_
      refine lv_iconst (pc := 13) (v := 0) hx hb dX11_mixGame_13 (by decide) ?_
      refine lv_iload (pc := 14) hx hb dX11_mixGame_14 (lv_at hl 2 rfl) ?_
      obtain ⟨r_16, C_16, e_16, h⟩ := bnd2_s h
      refine call_vi (pc := 16) (rest := [.long v3]) [.int 0, .int v5] X Y (c_X11_reckon 0 v5 e_16) sw_X11_428 (rv_X11 X Y) rfl ⟨rfl, rfl, Nat.le_of_ble_eq_true rfl, Nat.le_of_ble_eq_true rfl⟩ hl rfl (Nat.le_of_ble_eq_true rfl) dX11_mixGame_16 (fun H locs Y => ?_)
      refine lv_i2l (pc := 19) hx hb dX11_mixGame_19 rfl ?_
      refine call_sl (pc := 20) (rest := []) [.long v3, .long (r_16.toInt64)] X Y (c_X11_mix v3 (r_16.toInt64)) sw_X11_387 rfl ⟨rfl, rfl, Nat.le_of_ble_eq_true rfl, Nat.le_of_ble_eq_true rfl⟩ hl rfl (Nat.le_of_ble_eq_true rfl) dX11_mixGame_20 (fun H locs Y => ?_)
      obtain ⟨v3_23, ev3_23, h⟩ := lt_s_ h
      refine top_l ev3_23 ?_
      refine lv_lstore_n (pc := 23) (lv' := [(3, .long v3_23), (0, .ref (ad 0)), (5, .int v5)]) hx hb dX11_mixGame_23 rfl hl (by decide) rfl (fun ls hl => ?_)
      obtain ⟨v5_24, ev5_24, h⟩ := lt_s_ h
      refine lv_iinc (pc := 24) (v := v5_24) (lv' := [(5, .int v5_24), (3, .long v3_23), (0, .ref (ad 0))]) hx hb dX11_mixGame_24 hl (k := 2) rfl (by rw [ev5_24]; rfl) (by decide) rfl (fun ls hl => ?_)
      refine lv_goto (pc := 27) (tgt := 5) hx hb dX11_mixGame_27 (by decide) ?_
      exact ih v3_23 v5_24 C_16 H locs ls Y (lv_sub hl [2, 1, 0] rfl) h
set_option maxHeartbeats 4000000 in
set_option maxRecDepth 100000 in
theorem WL_X11_mixGame_33 {r9 : Int64} {C9 : Mem} (X : Cx p s m args meth c cX11_mixGame RX11 6 (some .long) dC dI ad bd cI cZ) {kx : Int64 → Mem → Option (Int64 × Mem)} (hkx : ∀ (v3' : Int64) (C' : Mem) (H : Heap) (locs : List Loc) (ls : Array Slot), Ys s dC dI ad bd cI cZ C' D H locs → lv_has ls 6 [(0, .ref (ad 0)), (3, .long v3')] → kx v3' C' = some (r9, C9) → W p l e rm_X11_mixGame s m args below meth c H locs 0 0 (MQ below (QC (some (.long r9)) dC dI ad bd cI cZ C9 D) args s 0 0 (AD ad bd)) (F0 m 58 ls [])) : ∀ (n_ : Nat) (v3 : Int64) (v5 : Int32) (C : Mem) (H : Heap) (locs : List Loc) (ls : Array Slot), Ys s dC dI ad bd cI cZ C D H locs → lv_has ls 6 [(0, .ref (ad 0)), (3, .long v3), (5, .int v5)] → L_X11_mixGame_33 kx n_ v3 v5 C = some (r9, C9) → W p l e rm_X11_mixGame s m args below meth c H locs 0 0 (MQ below (QC (some (.long r9)) dC dI ad bd cI cZ C9 D) args s 0 0 (AD ad bd)) (F0 m 33 ls []) := by
  have hx := X.1
  have hb := X.2.1
  intro n_
  induction n_ with
  | zero =>
    intro v3 v5 C H locs ls Y hl h
    cases h
  | succ n_ ih =>
    intro v3 v5 C H locs ls Y hl h
    unfold L_X11_mixGame_33 at h
    refine lv_iload (pc := 33) hx hb dX11_mixGame_33 (lv_at hl 2 rfl) ?_
    refine lv_iconst (pc := 35) (v := 2) hx hb dX11_mixGame_35 (by decide) ?_
    refine lv_icmp_gt (pc := 36) (tgt := 58) hx hb dX11_mixGame_36 (by decide) (fun c_36 => ?_) (fun c_36 => ?_)
    · have h := itp c_36 h
      exact hkx v3 C H locs ls Y (lv_sub hl [0, 1] rfl) h
    · have h := itn c_36 h
      refine lv_lload_n (pc := 39) hx hb dX11_mixGame_39 rfl (lv_at hl 1 rfl) ?_
      refine lv_aload_n (pc := 40) hx hb dX11_mixGame_40 rfl (lv_at hl 0 rfl) ?_
      refine lv_iconst (pc := 41) (v := 4) hx hb dX11_mixGame_41 (by decide) ?_
      refine lv_iload (pc := 42) hx hb dX11_mixGame_42 (lv_at hl 2 rfl) ?_
      obtain ⟨r_44, C_44, e_44, h⟩ := bnd2_s h
      refine call_vi (pc := 44) (rest := [.long v3]) [.int 4, .int v5] X Y (c_X11_reckon 4 v5 e_44) sw_X11_428 (rv_X11 X Y) rfl ⟨rfl, rfl, Nat.le_of_ble_eq_true rfl, Nat.le_of_ble_eq_true rfl⟩ hl rfl (Nat.le_of_ble_eq_true rfl) dX11_mixGame_44 (fun H locs Y => ?_)
      refine lv_i2l (pc := 47) hx hb dX11_mixGame_47 rfl ?_
      refine call_sl (pc := 48) (rest := []) [.long v3, .long (r_44.toInt64)] X Y (c_X11_mix v3 (r_44.toInt64)) sw_X11_387 rfl ⟨rfl, rfl, Nat.le_of_ble_eq_true rfl, Nat.le_of_ble_eq_true rfl⟩ hl rfl (Nat.le_of_ble_eq_true rfl) dX11_mixGame_48 (fun H locs Y => ?_)
      obtain ⟨v3_51, ev3_51, h⟩ := lt_s_ h
      refine top_l ev3_51 ?_
      refine lv_lstore_n (pc := 51) (lv' := [(3, .long v3_51), (0, .ref (ad 0)), (5, .int v5)]) hx hb dX11_mixGame_51 rfl hl (by decide) rfl (fun ls hl => ?_)
      obtain ⟨v5_52, ev5_52, h⟩ := lt_s_ h
      refine lv_iinc (pc := 52) (v := v5_52) (lv' := [(5, .int v5_52), (3, .long v3_51), (0, .ref (ad 0))]) hx hb dX11_mixGame_52 hl (k := 2) rfl (by rw [ev5_52]; rfl) (by decide) rfl (fun ls hl => ?_)
      refine lv_goto (pc := 55) (tgt := 33) hx hb dX11_mixGame_55 (by decide) ?_
      exact ih v3_51 v5_52 C_44 H locs ls Y (lv_sub hl [2, 1, 0] rfl) h
set_option maxHeartbeats 4000000 in
set_option maxRecDepth 100000 in
theorem c_X11_mixGame {r9 : Int64} {C9 : Mem} (v1 : Int64) (h : f_X11_mixGame v1 C = some (r9, C9)) : Ct l dC dI ad bd cI cZ yX11_mixGame cX11_mixGame 6 (some .long) rm_X11_mixGame [.ref (ad 0), .long v1] C D (some (.long r9)) C9 D := by
  unfold f_X11_mixGame at h
  refine Ct.intro (own := RX11) (by decide) rfl (Nat.le_of_ble_eq_true rfl) ?_
  intro p e s m args below meth c H locs ls X Y hl
  have hx := X.1
  have hb := X.2.1
  have hl : lv_has ls 6 [(0, .ref (ad 0)), (1, .long v1)] := hl
  refine lv_lload_n (pc := 0) hx hb dX11_mixGame_0 rfl (lv_at hl 1 rfl) ?_
  refine lv_lstore_n (pc := 1) (lv' := [(3, .long v1), (0, .ref (ad 0)), (1, .long v1)]) hx hb dX11_mixGame_1 rfl hl (by decide) rfl (fun ls hl => ?_)
  refine lv_iconst (pc := 2) (v := 0) hx hb dX11_mixGame_2 (by decide) ?_
  refine lv_istore (pc := 3) (lv' := [(5, .int 0), (3, .long v1), (0, .ref (ad 0)), (1, .long v1)]) hx hb dX11_mixGame_3 hl (by decide) rfl (fun ls hl => ?_)
  refine WL_X11_mixGame_5 X (fun v3_30 C_30 H locs ls Y hl h => ?_) FU v1 0 C H locs ls Y (lv_sub hl [2, 1, 0] rfl) h
  refine lv_iconst (pc := 30) (v := 0) hx hb dX11_mixGame_30 (by decide) ?_
  refine lv_istore (pc := 31) (lv' := [(5, .int 0), (0, .ref (ad 0)), (3, .long v3_30)]) hx hb dX11_mixGame_31 hl (by decide) rfl (fun ls hl => ?_)
  refine WL_X11_mixGame_33 X (fun v3_58 C_58 H locs ls Y hl h => ?_) FU v3_30 0 C_30 H locs ls Y (lv_sub hl [1, 2, 0] rfl) h
  refine lv_lload_n (pc := 58) hx hb dX11_mixGame_58 rfl (lv_at hl 1 rfl) ?_
  refine lv_aload_n (pc := 59) hx hb dX11_mixGame_59 rfl (lv_at hl 0 rfl) ?_
  obtain ⟨r_60, C_60, e_60, h⟩ := bnd2_s h
  refine call_vi (pc := 60) (rest := [.long v3_58]) [] X Y (c_X11_temper  e_60) sw_X11_431 (rv_X11 X Y) rfl ⟨rfl, rfl, Nat.le_of_ble_eq_true rfl, Nat.le_of_ble_eq_true rfl⟩ hl rfl (Nat.le_of_ble_eq_true rfl) dX11_mixGame_60 (fun H locs Y => ?_)
  refine lv_i2l (pc := 63) hx hb dX11_mixGame_63 rfl ?_
  refine call_sl (pc := 64) (rest := []) [.long v3_58, .long (r_60.toInt64)] X Y (c_X11_mix v3_58 (r_60.toInt64)) sw_X11_387 rfl ⟨rfl, rfl, Nat.le_of_ble_eq_true rfl, Nat.le_of_ble_eq_true rfl⟩ hl rfl (Nat.le_of_ble_eq_true rfl) dX11_mixGame_64 (fun H locs Y => ?_)
  obtain ⟨hr9, hm9⟩ := ret_e h
  exact fin_l (pc := 67) X rfl Y hr9 hm9 rfl dX11_mixGame_67
abbrev rm_X11_digest : Room := { frames := 6, cells := 0, slots := 0, locals := 138 }
set_option maxHeartbeats 4000000 in
set_option maxRecDepth 100000 in
theorem WL_X11_digest_6 {r9 : Int64} {C9 : Mem} (C : Mem) (X : Cx p s m args meth c cX11_digest RX11 4 (some .long) dC dI ad bd cI cZ) {kx : Int64 → Option (Int64 × Mem)} (hkx : ∀ (v1' : Int64) (H : Heap) (locs : List Loc) (ls : Array Slot), Ys s dC dI ad bd cI cZ C D H locs → lv_has ls 4 [(0, .ref (ad 0)), (1, .long v1')] → kx v1' = some (r9, C9) → W p l e rm_X11_digest s m args below meth c H locs 0 0 (MQ below (QC (some (.long r9)) dC dI ad bd cI cZ C9 D) args s 0 0 (AD ad bd)) (F0 m 29 ls [])) : ∀ (n_ : Nat) (v1 : Int64) (v3 : Int32) (H : Heap) (locs : List Loc) (ls : Array Slot), Ys s dC dI ad bd cI cZ C D H locs → lv_has ls 4 [(0, .ref (ad 0)), (1, .long v1), (3, .int v3)] → L_X11_digest_6 C kx n_ v1 v3 = some (r9, C9) → W p l e rm_X11_digest s m args below meth c H locs 0 0 (MQ below (QC (some (.long r9)) dC dI ad bd cI cZ C9 D) args s 0 0 (AD ad bd)) (F0 m 6 ls []) := by
  have hx := X.1
  have hb := X.2.1
  intro n_
  induction n_ with
  | zero =>
    intro v1 v3 H locs ls Y hl h
    cases h
  | succ n_ ih =>
    intro v1 v3 H locs ls Y hl h
    unfold L_X11_digest_6 at h
    refine lv_iload_n (pc := 6) hx hb dX11_digest_6 rfl (lv_at hl 2 rfl) ?_
    refine lv_bipush (pc := 7) (v := 7) hx hb dX11_digest_7 (by decide) ?_
    refine lv_icmp_gt (pc := 9) (tgt := 29) hx hb dX11_digest_9 (by decide) (fun c_9 => ?_) (fun c_9 => ?_)
    · have h := itp c_9 h
      exact hkx v1 H locs ls Y (lv_sub hl [0, 1] rfl) h
    · have h := itn c_9 h
      refine lv_lload_n (pc := 12) hx hb dX11_digest_12 rfl (lv_at hl 1 rfl) ?_
      refine lv_aload_n (pc := 13) hx hb dX11_digest_13 rfl (lv_at hl 0 rfl) ?_
      refine lv_iload_n (pc := 14) hx hb dX11_digest_14 rfl (lv_at hl 2 rfl) ?_
      obtain ⟨r_15, e_15, h⟩ := bnd_s h
      refine call_vi (pc := 15) (rest := [.long v1]) [.int v3] X Y (c_X11_count v3 e_15) sw_X11_384 (rv_X11 X Y) rfl ⟨rfl, rfl, Nat.le_of_ble_eq_true rfl, Nat.le_of_ble_eq_true rfl⟩ hl rfl (Nat.le_of_ble_eq_true rfl) dX11_digest_15 (fun H locs Y => ?_)
      refine lv_i2l (pc := 18) hx hb dX11_digest_18 rfl ?_
      refine call_sl (pc := 19) (rest := []) [.long v1, .long (r_15.toInt64)] X Y (c_X11_mix v1 (r_15.toInt64)) sw_X11_387 rfl ⟨rfl, rfl, Nat.le_of_ble_eq_true rfl, Nat.le_of_ble_eq_true rfl⟩ hl rfl (Nat.le_of_ble_eq_true rfl) dX11_digest_19 (fun H locs Y => ?_)
      obtain ⟨v1_22, ev1_22, h⟩ := lt_s_ h
      refine top_l ev1_22 ?_
      refine lv_lstore_n (pc := 22) (lv' := [(1, .long v1_22), (0, .ref (ad 0)), (3, .int v3)]) hx hb dX11_digest_22 rfl hl (by decide) rfl (fun ls hl => ?_)
      obtain ⟨v3_23, ev3_23, h⟩ := lt_s_ h
      refine lv_iinc (pc := 23) (v := v3_23) (lv' := [(3, .int v3_23), (1, .long v1_22), (0, .ref (ad 0))]) hx hb dX11_digest_23 hl (k := 2) rfl (by rw [ev3_23]; rfl) (by decide) rfl (fun ls hl => ?_)
      refine lv_goto (pc := 26) (tgt := 6) hx hb dX11_digest_26 (by decide) ?_
      exact ih v1_22 v3_23 H locs ls Y (lv_sub hl [2, 1, 0] rfl) h
set_option maxHeartbeats 4000000 in
set_option maxRecDepth 100000 in
theorem WL_X11_digest_59 {r9 : Int64} {C9 : Mem} (X : Cx p s m args meth c cX11_digest RX11 4 (some .long) dC dI ad bd cI cZ) {kx : Int64 → Mem → Option (Int64 × Mem)} (hkx : ∀ (v1' : Int64) (C' : Mem) (H : Heap) (locs : List Loc) (ls : Array Slot), Ys s dC dI ad bd cI cZ C' D H locs → lv_has ls 4 [(0, .ref (ad 0)), (1, .long v1')] → kx v1' C' = some (r9, C9) → W p l e rm_X11_digest s m args below meth c H locs 0 0 (MQ below (QC (some (.long r9)) dC dI ad bd cI cZ C9 D) args s 0 0 (AD ad bd)) (F0 m 87 ls [])) : ∀ (n_ : Nat) (v1 : Int64) (v3 : Int32) (C : Mem) (H : Heap) (locs : List Loc) (ls : Array Slot), Ys s dC dI ad bd cI cZ C D H locs → lv_has ls 4 [(0, .ref (ad 0)), (1, .long v1), (3, .int v3)] → L_X11_digest_59 kx n_ v1 v3 C = some (r9, C9) → W p l e rm_X11_digest s m args below meth c H locs 0 0 (MQ below (QC (some (.long r9)) dC dI ad bd cI cZ C9 D) args s 0 0 (AD ad bd)) (F0 m 59 ls []) := by
  have hx := X.1
  have hb := X.2.1
  intro n_
  induction n_ with
  | zero =>
    intro v1 v3 C H locs ls Y hl h
    cases h
  | succ n_ ih =>
    intro v1 v3 C H locs ls Y hl h
    unfold L_X11_digest_59 at h
    refine lv_iload_n (pc := 59) hx hb dX11_digest_59 rfl (lv_at hl 2 rfl) ?_
    refine lv_aload_n (pc := 60) hx hb dX11_digest_60 rfl (lv_at hl 0 rfl) ?_
    refine gf_X11_64 (pc := 61) X Y dX11_digest_61 ?_
    refine gf_X11_286 (pc := 64) X Y dX11_digest_64 ?_
    refine lv_icmp_ge (pc := 67) (tgt := 87) hx hb dX11_digest_67 (by decide) (fun c_67 => ?_) (fun c_67 => ?_)
    · have h := itp c_67 h
      exact hkx v1 C H locs ls Y (lv_sub hl [0, 1] rfl) h
    · have h := itn c_67 h
      refine lv_lload_n (pc := 70) hx hb dX11_digest_70 rfl (lv_at hl 1 rfl) ?_
      refine lv_aload_n (pc := 71) hx hb dX11_digest_71 rfl (lv_at hl 0 rfl) ?_
      refine lv_iload_n (pc := 72) hx hb dX11_digest_72 rfl (lv_at hl 2 rfl) ?_
      obtain ⟨r_73, C_73, e_73, h⟩ := bnd2_s h
      refine call_vi (pc := 73) (rest := [.long v1]) [.int v3] X Y (c_X11_goes v3 e_73) sw_X11_404 (rv_X11 X Y) rfl ⟨rfl, rfl, Nat.le_of_ble_eq_true rfl, Nat.le_of_ble_eq_true rfl⟩ hl rfl (Nat.le_of_ble_eq_true rfl) dX11_digest_73 (fun H locs Y => ?_)
      refine lv_i2l (pc := 76) hx hb dX11_digest_76 rfl ?_
      refine call_sl (pc := 77) (rest := []) [.long v1, .long (r_73.toInt64)] X Y (c_X11_mix v1 (r_73.toInt64)) sw_X11_387 rfl ⟨rfl, rfl, Nat.le_of_ble_eq_true rfl, Nat.le_of_ble_eq_true rfl⟩ hl rfl (Nat.le_of_ble_eq_true rfl) dX11_digest_77 (fun H locs Y => ?_)
      obtain ⟨v1_80, ev1_80, h⟩ := lt_s_ h
      refine top_l ev1_80 ?_
      refine lv_lstore_n (pc := 80) (lv' := [(1, .long v1_80), (0, .ref (ad 0)), (3, .int v3)]) hx hb dX11_digest_80 rfl hl (by decide) rfl (fun ls hl => ?_)
      obtain ⟨v3_81, ev3_81, h⟩ := lt_s_ h
      refine lv_iinc (pc := 81) (v := v3_81) (lv' := [(3, .int v3_81), (1, .long v1_80), (0, .ref (ad 0))]) hx hb dX11_digest_81 hl (k := 2) rfl (by rw [ev3_81]; rfl) (by decide) rfl (fun ls hl => ?_)
      refine lv_goto (pc := 84) (tgt := 59) hx hb dX11_digest_84 (by decide) ?_
      exact ih v1_80 v3_81 C_73 H locs ls Y (lv_sub hl [2, 1, 0] rfl) h
set_option maxHeartbeats 4000000 in
set_option maxRecDepth 100000 in
theorem WL_X11_digest_99 {r9 : Int64} {C9 : Mem} (X : Cx p s m args meth c cX11_digest RX11 4 (some .long) dC dI ad bd cI cZ) {kx : Int64 → Mem → Option (Int64 × Mem)} (hkx : ∀ (v1' : Int64) (C' : Mem) (H : Heap) (locs : List Loc) (ls : Array Slot), Ys s dC dI ad bd cI cZ C' D H locs → lv_has ls 4 [(1, .long v1')] → kx v1' C' = some (r9, C9) → W p l e rm_X11_digest s m args below meth c H locs 0 0 (MQ below (QC (some (.long r9)) dC dI ad bd cI cZ C9 D) args s 0 0 (AD ad bd)) (F0 m 121 ls [])) : ∀ (n_ : Nat) (v1 : Int64) (v3 : Int32) (C : Mem) (H : Heap) (locs : List Loc) (ls : Array Slot), Ys s dC dI ad bd cI cZ C D H locs → lv_has ls 4 [(0, .ref (ad 0)), (1, .long v1), (3, .int v3)] → L_X11_digest_99 kx n_ v1 v3 C = some (r9, C9) → W p l e rm_X11_digest s m args below meth c H locs 0 0 (MQ below (QC (some (.long r9)) dC dI ad bd cI cZ C9 D) args s 0 0 (AD ad bd)) (F0 m 99 ls []) := by
  have hx := X.1
  have hb := X.2.1
  intro n_
  induction n_ with
  | zero =>
    intro v1 v3 C H locs ls Y hl h
    cases h
  | succ n_ ih =>
    intro v1 v3 C H locs ls Y hl h
    unfold L_X11_digest_99 at h
    refine lv_iload_n (pc := 99) hx hb dX11_digest_99 rfl (lv_at hl 2 rfl) ?_
    refine lv_iconst (pc := 100) (v := 4) hx hb dX11_digest_100 (by decide) ?_
    refine lv_icmp_gt (pc := 101) (tgt := 121) hx hb dX11_digest_101 (by decide) (fun c_101 => ?_) (fun c_101 => ?_)
    · have h := itp c_101 h
      exact hkx v1 C H locs ls Y (lv_sub hl [1] rfl) h
    · have h := itn c_101 h
      refine lv_lload_n (pc := 104) hx hb dX11_digest_104 rfl (lv_at hl 1 rfl) ?_
      refine lv_aload_n (pc := 105) hx hb dX11_digest_105 rfl (lv_at hl 0 rfl) ?_
      refine lv_iload_n (pc := 106) hx hb dX11_digest_106 rfl (lv_at hl 2 rfl) ?_
      obtain ⟨r_107, C_107, e_107, h⟩ := bnd2_s h
      refine call_vi (pc := 107) (rest := [.long v1]) [.int v3] X Y (c_X11_learnt v3 e_107) sw_X11_410 (rv_X11 X Y) rfl ⟨rfl, rfl, Nat.le_of_ble_eq_true rfl, Nat.le_of_ble_eq_true rfl⟩ hl rfl (Nat.le_of_ble_eq_true rfl) dX11_digest_107 (fun H locs Y => ?_)
      refine lv_i2l (pc := 110) hx hb dX11_digest_110 rfl ?_
      refine call_sl (pc := 111) (rest := []) [.long v1, .long (r_107.toInt64)] X Y (c_X11_mix v1 (r_107.toInt64)) sw_X11_387 rfl ⟨rfl, rfl, Nat.le_of_ble_eq_true rfl, Nat.le_of_ble_eq_true rfl⟩ hl rfl (Nat.le_of_ble_eq_true rfl) dX11_digest_111 (fun H locs Y => ?_)
      obtain ⟨v1_114, ev1_114, h⟩ := lt_s_ h
      refine top_l ev1_114 ?_
      refine lv_lstore_n (pc := 114) (lv' := [(1, .long v1_114), (0, .ref (ad 0)), (3, .int v3)]) hx hb dX11_digest_114 rfl hl (by decide) rfl (fun ls hl => ?_)
      obtain ⟨v3_115, ev3_115, h⟩ := lt_s_ h
      refine lv_iinc (pc := 115) (v := v3_115) (lv' := [(3, .int v3_115), (1, .long v1_114), (0, .ref (ad 0))]) hx hb dX11_digest_115 hl (k := 2) rfl (by rw [ev3_115]; rfl) (by decide) rfl (fun ls hl => ?_)
      refine lv_goto (pc := 118) (tgt := 99) hx hb dX11_digest_118 (by decide) ?_
      exact ih v1_114 v3_115 C_107 H locs ls Y (lv_sub hl [2, 1, 0] rfl) h
set_option maxHeartbeats 4000000 in
set_option maxRecDepth 100000 in
theorem c_X11_digest {r9 : Int64} {C9 : Mem} (h : f_X11_digest C = some (r9, C9)) : Ct l dC dI ad bd cI cZ yX11_digest cX11_digest 4 (some .long) rm_X11_digest [.ref (ad 0)] C D (some (.long r9)) C9 D := by
  unfold f_X11_digest at h
  refine Ct.intro (own := RX11) (by decide) rfl (Nat.le_of_ble_eq_true rfl) ?_
  intro p e s m args below meth c H locs ls X Y hl
  have hx := X.1
  have hb := X.2.1
  have hl : lv_has ls 4 [(0, .ref (ad 0))] := hl
  refine lv_ldc2 (pc := 0) (v := 17) hx hb X.2.2.2.1 (X.2.2.2.2.1 _ w_d20843cb1b) dX11_digest_0 ?_
  refine lv_lstore_n (pc := 3) (lv' := [(1, .long 17), (0, .ref (ad 0))]) hx hb dX11_digest_3 rfl hl (by decide) rfl (fun ls hl => ?_)
  refine lv_iconst (pc := 4) (v := 0) hx hb dX11_digest_4 (by decide) ?_
  refine lv_istore_n (pc := 5) (lv' := [(3, .int 0), (1, .long 17), (0, .ref (ad 0))]) hx hb dX11_digest_5 rfl hl (by decide) rfl (fun ls hl => ?_)
  refine WL_X11_digest_6 C X (fun v1_29 H locs ls Y hl h => ?_) FU 17 0 H locs ls Y (lv_sub hl [2, 1, 0] rfl) h
  refine lv_lload_n (pc := 29) hx hb dX11_digest_29 rfl (lv_at hl 1 rfl) ?_
  refine lv_aload_n (pc := 30) hx hb dX11_digest_30 rfl (lv_at hl 0 rfl) ?_
  refine call_vi (pc := 31) (rest := [.long v1_29]) [] X Y (c_X11_fault ) sw_X11_391 (rv_X11 X Y) rfl ⟨rfl, rfl, Nat.le_of_ble_eq_true rfl, Nat.le_of_ble_eq_true rfl⟩ hl rfl (Nat.le_of_ble_eq_true rfl) dX11_digest_31 (fun H locs Y => ?_)
  refine lv_i2l (pc := 34) hx hb dX11_digest_34 rfl ?_
  refine call_sl (pc := 35) (rest := []) [.long v1_29, .long ((f_X11_fault C).toInt64)] X Y (c_X11_mix v1_29 ((f_X11_fault C).toInt64)) sw_X11_387 rfl ⟨rfl, rfl, Nat.le_of_ble_eq_true rfl, Nat.le_of_ble_eq_true rfl⟩ hl rfl (Nat.le_of_ble_eq_true rfl) dX11_digest_35 (fun H locs Y => ?_)
  obtain ⟨v1_38, ev1_38, h⟩ := lt_s_ h
  refine top_l ev1_38 ?_
  refine lv_lstore_n (pc := 38) (lv' := [(1, .long v1_38), (0, .ref (ad 0))]) hx hb dX11_digest_38 rfl hl (by decide) rfl (fun ls hl => ?_)
  refine lv_aload_n (pc := 39) hx hb dX11_digest_39 rfl (lv_at hl 1 rfl) ?_
  refine lv_lload_n (pc := 40) hx hb dX11_digest_40 rfl (lv_at hl 0 rfl) ?_
  obtain ⟨r_41, C_41, e_41, h⟩ := bnd2_s h
  refine call_vl (pc := 41) (rest := []) [.long v1_38] X Y (c_X11_mixPairs v1_38 e_41) sw_X11_394 (rv_X11 X Y) rfl ⟨rfl, rfl, Nat.le_of_ble_eq_true rfl, Nat.le_of_ble_eq_true rfl⟩ hl rfl (Nat.le_of_ble_eq_true rfl) dX11_digest_41 (fun H locs Y => ?_)
  refine lv_lstore_n (pc := 44) (lv' := [(1, .long r_41), (0, .ref (ad 0))]) hx hb dX11_digest_44 rfl hl (by decide) rfl (fun ls hl => ?_)
  refine lv_aload_n (pc := 45) hx hb dX11_digest_45 rfl (lv_at hl 1 rfl) ?_
  refine lv_lload_n (pc := 46) hx hb dX11_digest_46 rfl (lv_at hl 0 rfl) ?_
  obtain ⟨r_47, C_47, e_47, h⟩ := bnd2_s h
  refine call_vl (pc := 47) (rest := []) [.long r_41] X Y (c_X11_mixRowsAndBeliefs r_41 e_47) sw_X11_398 (rv_X11 X Y) rfl ⟨rfl, rfl, Nat.le_of_ble_eq_true rfl, Nat.le_of_ble_eq_true rfl⟩ hl rfl (Nat.le_of_ble_eq_true rfl) dX11_digest_47 (fun H locs Y => ?_)
  refine lv_lstore_n (pc := 50) (lv' := [(1, .long r_47), (0, .ref (ad 0))]) hx hb dX11_digest_50 rfl hl (by decide) rfl (fun ls hl => ?_)
  refine lv_aload_n (pc := 51) hx hb dX11_digest_51 rfl (lv_at hl 1 rfl) ?_
  refine lv_lload_n (pc := 52) hx hb dX11_digest_52 rfl (lv_at hl 0 rfl) ?_
  obtain ⟨r_53, C_53, e_53, h⟩ := bnd2_s h
  refine call_vl (pc := 53) (rest := []) [.long r_47] X Y (c_X11_mixGame r_47 e_53) sw_X11_401 (rv_X11 X Y) rfl ⟨rfl, rfl, Nat.le_of_ble_eq_true rfl, Nat.le_of_ble_eq_true rfl⟩ hl rfl (Nat.le_of_ble_eq_true rfl) dX11_digest_53 (fun H locs Y => ?_)
  refine lv_lstore_n (pc := 56) (lv' := [(1, .long r_53), (0, .ref (ad 0))]) hx hb dX11_digest_56 rfl hl (by decide) rfl (fun ls hl => ?_)
  refine lv_iconst (pc := 57) (v := 0) hx hb dX11_digest_57 (by decide) ?_
  refine lv_istore_n (pc := 58) (lv' := [(3, .int 0), (1, .long r_53), (0, .ref (ad 0))]) hx hb dX11_digest_58 rfl hl (by decide) rfl (fun ls hl => ?_)
  refine WL_X11_digest_59 X (fun v1_87 C_87 H locs ls Y hl h => ?_) FU r_53 0 C_53 H locs ls Y (lv_sub hl [2, 1, 0] rfl) h
  refine lv_lload_n (pc := 87) hx hb dX11_digest_87 rfl (lv_at hl 1 rfl) ?_
  refine lv_aload_n (pc := 88) hx hb dX11_digest_88 rfl (lv_at hl 0 rfl) ?_
  obtain ⟨r_89, C_89, e_89, h⟩ := bnd2_s h
  refine call_vi (pc := 89) (rest := [.long v1_87]) [] X Y (c_X11_looked  e_89) sw_X11_407 (rv_X11 X Y) rfl ⟨rfl, rfl, Nat.le_of_ble_eq_true rfl, Nat.le_of_ble_eq_true rfl⟩ hl rfl (Nat.le_of_ble_eq_true rfl) dX11_digest_89 (fun H locs Y => ?_)
  refine lv_i2l (pc := 92) hx hb dX11_digest_92 rfl ?_
  refine call_sl (pc := 93) (rest := []) [.long v1_87, .long (r_89.toInt64)] X Y (c_X11_mix v1_87 (r_89.toInt64)) sw_X11_387 rfl ⟨rfl, rfl, Nat.le_of_ble_eq_true rfl, Nat.le_of_ble_eq_true rfl⟩ hl rfl (Nat.le_of_ble_eq_true rfl) dX11_digest_93 (fun H locs Y => ?_)
  obtain ⟨v1_96, ev1_96, h⟩ := lt_s_ h
  refine top_l ev1_96 ?_
  refine lv_lstore_n (pc := 96) (lv' := [(1, .long v1_96), (0, .ref (ad 0))]) hx hb dX11_digest_96 rfl hl (by decide) rfl (fun ls hl => ?_)
  refine lv_iconst (pc := 97) (v := 0) hx hb dX11_digest_97 (by decide) ?_
  refine lv_istore_n (pc := 98) (lv' := [(3, .int 0), (1, .long v1_96), (0, .ref (ad 0))]) hx hb dX11_digest_98 rfl hl (by decide) rfl (fun ls hl => ?_)
  refine WL_X11_digest_99 X (fun v1_121 C_121 H locs ls Y hl h => ?_) FU v1_96 0 C_89 H locs ls Y (lv_sub hl [2, 1, 0] rfl) h
  refine lv_lload_n (pc := 121) hx hb dX11_digest_121 rfl (lv_at hl 0 rfl) ?_
  obtain ⟨hr9, hm9⟩ := ret_e h
  exact fin_l (pc := 122) X rfl Y hr9 hm9 rfl dX11_digest_122
end walk
