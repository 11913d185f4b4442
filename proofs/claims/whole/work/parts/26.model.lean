section walk
variable {p : Program} {l : Launch} {e : Env} {R : Room} {s : State} {m : MethodId} {args : Array Value} {below : List Frame} {meth : Method} {c : Code} {H : Heap} {locs : List Loc} {Q : State → Prop} {cc : ByteArray} {own : String} {nL : Nat} {ret : Option FieldType} {dC : Nat → ClassId} {dI : Nat → Nat → Nat} {ad bd : Nat → Nat} {cI cZ : ClassId} {C D C' D' : Mem} {pc : Nat} {ls : Array Slot} {rest : List Value}
abbrev rm_X12_byteAt : Room := { frames := 0, cells := 0, slots := 0, locals := 0 }
set_option maxHeartbeats 4000000 in
set_option maxRecDepth 100000 in
theorem c_X12_byteAt {r9 : Int32} (v1 : Int32) (h : f_X12_byteAt v1 D = some r9) : Ct l dC dI ad bd cI cZ yX12_byteAt cX12_byteAt 2 (some .int) rm_X12_byteAt [.ref (bd 0), .int v1] C D (some (.int r9)) C D := by
  unfold f_X12_byteAt at h
  refine Ct.intro (own := RX12) (by decide) rfl (Nat.le_of_ble_eq_true rfl) ?_
  intro p e s m args below meth c H locs ls X Y hl
  have hx := X.1
  have hb := X.2.1
  have hl : lv_has ls 2 [(0, .ref (bd 0)), (1, .int v1)] := hl
  refine lv_iload_n (pc := 0) hx hb dX12_byteAt_0 rfl (lv_at hl 1 rfl) ?_
  refine lv_aload_n (pc := 1) hx hb dX12_byteAt_1 rfl (lv_at hl 0 rfl) ?_
  refine gf_X12_209 (pc := 2) X Y dX12_byteAt_2 ?_
  refine lv_icmp_ge (pc := 5) (tgt := 17) hx hb dX12_byteAt_5 (by decide) (fun c_5 => ?_) (fun c_5 => ?_)
  · have h := itp c_5 h
    refine lv_iconst (pc := 17) (v := (-1)) hx hb dX12_byteAt_17 (by decide) ?_
    have hr9 := ret_p h
    exact fin_i (pc := 18) X rfl Y hr9 rfl rfl dX12_byteAt_18
  · have h := itn c_5 h
    refine lv_aload_n (pc := 8) hx hb dX12_byteAt_8 rfl (lv_at hl 0 rfl) ?_
    refine gf_X12_44 (pc := 9) X Y dX12_byteAt_9 ?_
    refine lv_iload_n (pc := 12) hx hb dX12_byteAt_12 rfl (lv_at hl 1 rfl) ?_
    obtain ⟨g_13, h⟩ := gd_s h
    refine r_ialdm (pc := 13) X Y (cm_11 bd cI cZ) g_13 dX12_byteAt_13 ?_
    refine lv_goto (pc := 14) (tgt := 18) hx hb dX12_byteAt_14 (by decide) ?_
    have hr9 := ret_p h
    exact fin_i (pc := 18) X rfl Y hr9 rfl rfl dX12_byteAt_18
abbrev rm_X12_nodeMore : Room := { frames := 0, cells := 0, slots := 0, locals := 0 }
set_option maxHeartbeats 4000000 in
set_option maxRecDepth 100000 in
theorem WB_X12_nodeMore_69 {D9 : Mem} (D : Mem) (X : Cx p s m args meth c cX12_nodeMore RX12 3 (none) dC dI ad bd cI cZ) {H : Heap} {locs : List Loc} {ls : Array Slot} (Y : Ys s dC dI ad bd cI cZ C D H locs) (hl : lv_has ls 3 [(0, .ref (bd 0))]) (h : B_X12_nodeMore_69 D = some D9) : W p l e rm_X12_nodeMore s m args below meth c H locs 0 0 (MQ below (QC (none) dC dI ad bd cI cZ C D9) args s 0 0 (AD ad bd)) (F0 m 69 ls []) := by
  have hx := X.1
  have hb := X.2.1
  unfold B_X12_nodeMore_69 at h
  refine lv_aload_n (pc := 69) hx hb dX12_nodeMore_69 rfl (lv_at hl 0 rfl) ?_
  refine lv_dup (pc := 70) hx hb dX12_nodeMore_70 rfl ?_
  refine gf_X12_212 (pc := 71) X Y dX12_nodeMore_71 ?_
  refine lv_iconst (pc := 74) (v := 1) hx hb dX12_nodeMore_74 (by decide) ?_
  refine lv_iadd (pc := 75) hx hb dX12_nodeMore_75 ?_
  obtain ⟨D_76, hD_76, h⟩ := sto_s h
  refine pf_X12_212 (pc := 76) X Y hD_76 dX12_nodeMore_76 (fun H locs Y => ?_)
  have hm9 := ret_v h
  exact fin_v (pc := 79) X rfl Y rfl hm9 dX12_nodeMore_79
set_option maxHeartbeats 4000000 in
set_option maxRecDepth 100000 in
theorem WB_X12_nodeMore_53 {D9 : Mem} (x1 : Int32) (x2 : Int32) (v2 : Int32) (D : Mem) (X : Cx p s m args meth c cX12_nodeMore RX12 3 (none) dC dI ad bd cI cZ) {H : Heap} {locs : List Loc} {ls : Array Slot} (Y : Ys s dC dI ad bd cI cZ C D H locs) (hl : lv_has ls 3 [(0, .ref (bd 0)), (2, .int v2)]) (h : B_X12_nodeMore_53 x1 x2 v2 D = some D9) : W p l e rm_X12_nodeMore s m args below meth c H locs 0 0 (MQ below (QC (none) dC dI ad bd cI cZ C D9) args s 0 0 (AD ad bd)) (F0 m 53 ls [.int x2, .int x1, .ref (bd 14)]) := by
  have hx := X.1
  have hb := X.2.1
  unfold B_X12_nodeMore_53 at h
  obtain ⟨g_53, h⟩ := gd_s h
  obtain ⟨D_53, hD_53, h⟩ := sto_s h
  refine r_iastm (pc := 53) X Y (cm_14 bd cI cZ) g_53 hD_53 dX12_nodeMore_53 (fun H locs Y => ?_)
  refine lv_iload_n (pc := 54) hx hb dX12_nodeMore_54 rfl (lv_at hl 1 rfl) ?_
  refine lv_iconst (pc := 55) (v := (-1)) hx hb dX12_nodeMore_55 (by decide) ?_
  refine lv_icmp_eq (pc := 56) (tgt := 69) hx hb dX12_nodeMore_56 (by decide) (fun c_56 => ?_) (fun c_56 => ?_)
  · have h := itp c_56 h
    exact WB_X12_nodeMore_69  D_53 X Y (lv_sub hl [0] rfl) h
  · have h := itn c_56 h
    refine lv_aload_n (pc := 59) hx hb dX12_nodeMore_59 rfl (lv_at hl 0 rfl) ?_
    refine gf_X12_56 (pc := 60) X Y dX12_nodeMore_60 ?_
    refine lv_iload_n (pc := 63) hx hb dX12_nodeMore_63 rfl (lv_at hl 1 rfl) ?_
    refine lv_dup2_11 (pc := 64) hx hb dX12_nodeMore_64 rfl rfl ?_
    obtain ⟨g_65, h⟩ := gd_s h
    refine r_ialdm (pc := 65) X Y (cm_15 bd cI cZ) g_65 dX12_nodeMore_65 ?_
    refine lv_iconst (pc := 66) (v := 1) hx hb dX12_nodeMore_66 (by decide) ?_
    refine lv_iadd (pc := 67) hx hb dX12_nodeMore_67 ?_
    obtain ⟨g_68, h⟩ := gd_s h
    obtain ⟨D_68, hD_68, h⟩ := sto_s h
    refine r_iastm (pc := 68) X Y (cm_15 bd cI cZ) g_68 hD_68 dX12_nodeMore_68 (fun H locs Y => ?_)
    exact WB_X12_nodeMore_69  D_68 X Y (lv_sub hl [0] rfl) h
set_option maxHeartbeats 4000000 in
set_option maxRecDepth 100000 in
theorem c_X12_nodeMore {D9 : Mem} (v1 : Int32) (v2 : Int32) (h : f_X12_nodeMore v1 v2 D = some D9) : Ct l dC dI ad bd cI cZ yX12_nodeMore cX12_nodeMore 3 (none) rm_X12_nodeMore [.ref (bd 0), .int v1, .int v2] C D (none) C D9 := by
  unfold f_X12_nodeMore at h
  refine Ct.intro (own := RX12) (by decide) rfl (Nat.le_of_ble_eq_true rfl) ?_
  intro p e s m args below meth c H locs ls X Y hl
  have hx := X.1
  have hb := X.2.1
  have hl : lv_has ls 3 [(0, .ref (bd 0)), (1, .int v1), (2, .int v2)] := hl
  refine lv_aload_n (pc := 0) hx hb dX12_nodeMore_0 rfl (lv_at hl 0 rfl) ?_
  refine gf_X12_47 (pc := 1) X Y dX12_nodeMore_1 ?_
  refine lv_aload_n (pc := 4) hx hb dX12_nodeMore_4 rfl (lv_at hl 0 rfl) ?_
  refine gf_X12_212 (pc := 5) X Y dX12_nodeMore_5 ?_
  refine lv_iload_n (pc := 8) hx hb dX12_nodeMore_8 rfl (lv_at hl 1 rfl) ?_
  obtain ⟨g_9, h⟩ := gd_s h
  obtain ⟨D_9, hD_9, h⟩ := sto_s h
  refine r_iastm (pc := 9) X Y (cm_12 bd cI cZ) g_9 hD_9 dX12_nodeMore_9 (fun H locs Y => ?_)
  refine lv_aload_n (pc := 10) hx hb dX12_nodeMore_10 rfl (lv_at hl 0 rfl) ?_
  refine gf_X12_50 (pc := 11) X Y dX12_nodeMore_11 ?_
  refine lv_aload_n (pc := 14) hx hb dX12_nodeMore_14 rfl (lv_at hl 0 rfl) ?_
  refine gf_X12_212 (pc := 15) X Y dX12_nodeMore_15 ?_
  refine lv_iload_n (pc := 18) hx hb dX12_nodeMore_18 rfl (lv_at hl 2 rfl) ?_
  obtain ⟨g_19, h⟩ := gd_s h
  obtain ⟨D_19, hD_19, h⟩ := sto_s h
  refine r_iastm (pc := 19) X Y (cm_13 bd cI cZ) g_19 hD_19 dX12_nodeMore_19 (fun H locs Y => ?_)
  refine lv_aload_n (pc := 20) hx hb dX12_nodeMore_20 rfl (lv_at hl 0 rfl) ?_
  refine gf_X12_56 (pc := 21) X Y dX12_nodeMore_21 ?_
  refine lv_aload_n (pc := 24) hx hb dX12_nodeMore_24 rfl (lv_at hl 0 rfl) ?_
  refine gf_X12_212 (pc := 25) X Y dX12_nodeMore_25 ?_
  refine lv_iconst (pc := 28) (v := 0) hx hb dX12_nodeMore_28 (by decide) ?_
  obtain ⟨g_29, h⟩ := gd_s h
  obtain ⟨D_29, hD_29, h⟩ := sto_s h
  refine r_iastm (pc := 29) X Y (cm_15 bd cI cZ) g_29 hD_29 dX12_nodeMore_29 (fun H locs Y => ?_)
  refine lv_aload_n (pc := 30) hx hb dX12_nodeMore_30 rfl (lv_at hl 0 rfl) ?_
  refine gf_X12_53 (pc := 31) X Y dX12_nodeMore_31 ?_
  refine lv_aload_n (pc := 34) hx hb dX12_nodeMore_34 rfl (lv_at hl 0 rfl) ?_
  refine gf_X12_212 (pc := 35) X Y dX12_nodeMore_35 ?_
  refine lv_iload_n (pc := 38) hx hb dX12_nodeMore_38 rfl (lv_at hl 2 rfl) ?_
  refine lv_iconst (pc := 39) (v := (-1)) hx hb dX12_nodeMore_39 (by decide) ?_
  refine lv_icmp_ne (pc := 40) (tgt := 47) hx hb dX12_nodeMore_40 (by decide) (fun c_40 => ?_) (fun c_40 => ?_)
  · have h := itn c_40 h
    refine lv_aload_n (pc := 47) hx hb dX12_nodeMore_47 rfl (lv_at hl 0 rfl) ?_
    refine gf_X12_56 (pc := 48) X Y dX12_nodeMore_48 ?_
    refine lv_iload_n (pc := 51) hx hb dX12_nodeMore_51 rfl (lv_at hl 2 rfl) ?_
    obtain ⟨g_52, h⟩ := gd_s h
    refine r_ialdm (pc := 52) X Y (cm_15 bd cI cZ) g_52 dX12_nodeMore_52 ?_
    exact WB_X12_nodeMore_53 (D_29 0 17) (D_29 15 v2.toNatClampNeg) v2 D_29 X Y (lv_sub hl [0, 2] rfl) h
  · have h := itp c_40 h
    refine lv_iconst (pc := 43) (v := 0) hx hb dX12_nodeMore_43 (by decide) ?_
    refine lv_goto (pc := 44) (tgt := 53) hx hb dX12_nodeMore_44 (by decide) ?_
    exact WB_X12_nodeMore_53 (D_29 0 17) 0 v2 D_29 X Y (lv_sub hl [0, 2] rfl) h
abbrev rm_X12_faultNow : Room := { frames := 1, cells := 0, slots := 0, locals := 22 }
set_option maxHeartbeats 4000000 in
set_option maxRecDepth 100000 in
theorem WL_X12_faultNow_98 {r9 : Int32} {D9 : Mem} (v2 : Int32) (X : Cx p s m args meth c cX12_faultNow RX12 6 (some .int) dC dI ad bd cI cZ) {kx : Int32 → Mem → Option (Int32 × Mem)} (hkx : ∀ (v1' : Int32) (D' : Mem) (H : Heap) (locs : List Loc) (ls : Array Slot), Ys s dC dI ad bd cI cZ C D' H locs → lv_has ls 6 [(0, .ref (bd 0)), (1, .int v1'), (2, .int v2)] → kx v1' D' = some (r9, D9) → W p l e rm_X12_faultNow s m args below meth c H locs 0 0 (MQ below (QC (some (.int r9)) dC dI ad bd cI cZ C D9) args s 0 0 (AD ad bd)) (F0 m 154 ls [])) : ∀ (n_ : Nat) (v1 : Int32) (v5 : Int32) (D : Mem) (H : Heap) (locs : List Loc) (ls : Array Slot), Ys s dC dI ad bd cI cZ C D H locs → lv_has ls 6 [(0, .ref (bd 0)), (1, .int v1), (2, .int v2), (5, .int v5)] → L_X12_faultNow_98 kx n_ v1 v5 D = some (r9, D9) → W p l e rm_X12_faultNow s m args below meth c H locs 0 0 (MQ below (QC (some (.int r9)) dC dI ad bd cI cZ C D9) args s 0 0 (AD ad bd)) (F0 m 98 ls []) := by
  have hx := X.1
  have hb := X.2.1
  intro n_
  induction n_ with
  | zero =>
    intro v1 v5 D H locs ls Y hl h
    cases h
  | succ n_ ih =>
    intro v1 v5 D H locs ls Y hl h
    unfold L_X12_faultNow_98 at h
    refine lv_iload (pc := 98) hx hb dX12_faultNow_98 (lv_at hl 3 rfl) ?_
    refine lv_iconst (pc := 100) (v := 3) hx hb dX12_faultNow_100 (by decide) ?_
    refine lv_icmp_ge (pc := 101) (tgt := 154) hx hb dX12_faultNow_101 (by decide) (fun c_101 => ?_) (fun c_101 => ?_)
    · have h := itp c_101 h
      exact hkx v1 D H locs ls Y (lv_sub hl [0, 1, 2] rfl) h
    · have h := itn c_101 h
      refine lv_aload_n (pc := 104) hx hb dX12_faultNow_104 rfl (lv_at hl 0 rfl) ?_
      refine lv_iload_n (pc := 105) hx hb dX12_faultNow_105 rfl (lv_at hl 1 rfl) ?_
      obtain ⟨r_106, e_106, h⟩ := bnd_s h
      refine call_vi (pc := 106) (rest := []) [.int v1] X Y (c_X12_byteAt v1 e_106) sw_X12_215 (rv_X12 X Y) rfl ⟨rfl, rfl, Nat.le_of_ble_eq_true rfl, Nat.le_of_ble_eq_true rfl⟩ hl rfl (Nat.le_of_ble_eq_true rfl) dX12_faultNow_106 (fun H locs Y => ?_)
      refine lv_bipush (pc := 109) (v := 48) hx hb dX12_faultNow_109 (by decide) ?_
      refine lv_bipush (pc := 111) (v := 57) hx hb dX12_faultNow_111 (by decide) ?_
      refine call_si (pc := 113) (rest := []) [.int r_106, .int 48, .int 57] X Y (c_X12_in r_106 48 57) sw_X12_107 rfl ⟨rfl, rfl, Nat.le_of_ble_eq_true rfl, Nat.le_of_ble_eq_true rfl⟩ hl rfl (Nat.le_of_ble_eq_true rfl) dX12_faultNow_113 (fun H locs Y => ?_)
      refine lv_if_ne (pc := 116) (tgt := 121) hx hb dX12_faultNow_116 (by decide) (fun c_116 => ?_) (fun c_116 => ?_)
      · have h := itp (b2i_t c_116) h
        refine lv_aload_n (pc := 121) hx hb dX12_faultNow_121 rfl (lv_at hl 0 rfl) ?_
        refine gf_X12_65 (pc := 122) X Y dX12_faultNow_122 ?_
        refine lv_iconst (pc := 125) (v := 3) hx hb dX12_faultNow_125 (by decide) ?_
        refine lv_aload_n (pc := 126) hx hb dX12_faultNow_126 rfl (lv_at hl 0 rfl) ?_
        refine gf_X12_212 (pc := 127) X Y dX12_faultNow_127 ?_
        refine lv_iconst (pc := 130) (v := 1) hx hb dX12_faultNow_130 (by decide) ?_
        refine lv_isub (pc := 131) hx hb dX12_faultNow_131 ?_
        refine lv_imul (pc := 132) hx hb dX12_faultNow_132 ?_
        refine lv_iload (pc := 133) hx hb dX12_faultNow_133 (lv_at hl 3 rfl) ?_
        refine lv_iadd (pc := 135) hx hb dX12_faultNow_135 ?_
        refine lv_aload_n (pc := 136) hx hb dX12_faultNow_136 rfl (lv_at hl 0 rfl) ?_
        refine lv_iload_n (pc := 137) hx hb dX12_faultNow_137 rfl (lv_at hl 1 rfl) ?_
        obtain ⟨r_138, e_138, h⟩ := bnd_s h
        refine call_vi (pc := 138) (rest := [.int ((3 * ((D 0 17) - 1)) + v5), .ref (bd 18)]) [.int v1] X Y (c_X12_byteAt v1 e_138) sw_X12_215 (rv_X12 X Y) rfl ⟨rfl, rfl, Nat.le_of_ble_eq_true rfl, Nat.le_of_ble_eq_true rfl⟩ hl rfl (Nat.le_of_ble_eq_true rfl) dX12_faultNow_138 (fun H locs Y => ?_)
        refine lv_bipush (pc := 141) (v := 48) hx hb dX12_faultNow_141 (by decide) ?_
        refine lv_isub (pc := 143) hx hb dX12_faultNow_143 ?_
        obtain ⟨g_144, h⟩ := gd_s h
        obtain ⟨D_144, hD_144, h⟩ := sto_s h
        refine r_iastm (pc := 144) X Y (cm_18 bd cI cZ) g_144 hD_144 dX12_faultNow_144 (fun H locs Y => ?_)
        obtain ⟨v1_145, ev1_145, h⟩ := lt_s_ h
        refine lv_iinc (pc := 145) (v := v1_145) (lv' := [(1, .int v1_145), (0, .ref (bd 0)), (2, .int v2), (5, .int v5)]) hx hb dX12_faultNow_145 hl (k := 1) rfl (by rw [ev1_145]; rfl) (by decide) rfl (fun ls hl => ?_)
        obtain ⟨v5_148, ev5_148, h⟩ := lt_s_ h
        refine lv_iinc (pc := 148) (v := v5_148) (lv' := [(5, .int v5_148), (1, .int v1_145), (0, .ref (bd 0)), (2, .int v2)]) hx hb dX12_faultNow_148 hl (k := 3) rfl (by rw [ev5_148]; rfl) (by decide) rfl (fun ls hl => ?_)
        refine lv_goto (pc := 151) (tgt := 98) hx hb dX12_faultNow_151 (by decide) ?_
        exact ih v1_145 v5_148 D_144 H locs ls Y (lv_sub hl [2, 1, 3, 0] rfl) h
      · have h := itn (b2i_f c_116) h
        refine lv_iload_n (pc := 119) hx hb dX12_faultNow_119 rfl (lv_at hl 1 rfl) ?_
        obtain ⟨hr9, hm9⟩ := ret_e h
        exact fin_i (pc := 120) X rfl Y hr9 rfl hm9 dX12_faultNow_120
set_option maxHeartbeats 4000000 in
set_option maxRecDepth 100000 in
theorem WL_X12_faultNow_154 {r9 : Int32} {D9 : Mem} (D : Mem) (X : Cx p s m args meth c cX12_faultNow RX12 6 (some .int) dC dI ad bd cI cZ) {kx : Int32 → Int32 → Option (Int32 × Mem)} (hkx : ∀ (v1' : Int32) (v2' : Int32) (H : Heap) (locs : List Loc) (ls : Array Slot), Ys s dC dI ad bd cI cZ C D H locs → lv_has ls 6 [(0, .ref (bd 0)), (1, .int v1'), (2, .int v2')] → kx v1' v2' = some (r9, D9) → W p l e rm_X12_faultNow s m args below meth c H locs 0 0 (MQ below (QC (some (.int r9)) dC dI ad bd cI cZ C D9) args s 0 0 (AD ad bd)) (F0 m 182 ls [])) : ∀ (n_ : Nat) (v1 : Int32) (v2 : Int32) (H : Heap) (locs : List Loc) (ls : Array Slot), Ys s dC dI ad bd cI cZ C D H locs → lv_has ls 6 [(0, .ref (bd 0)), (1, .int v1), (2, .int v2)] → L_X12_faultNow_154 D kx n_ v1 v2 = some (r9, D9) → W p l e rm_X12_faultNow s m args below meth c H locs 0 0 (MQ below (QC (some (.int r9)) dC dI ad bd cI cZ C D9) args s 0 0 (AD ad bd)) (F0 m 154 ls []) := by
  have hx := X.1
  have hb := X.2.1
  intro n_
  induction n_ with
  | zero =>
    intro v1 v2 H locs ls Y hl h
    cases h
  | succ n_ ih =>
    intro v1 v2 H locs ls Y hl h
    unfold L_X12_faultNow_154 at h
    refine lv_iload_n (pc := 154) hx hb dX12_faultNow_154 rfl (lv_at hl 2 rfl) ?_
    refine lv_iconst (pc := 155) (v := (-1)) hx hb dX12_faultNow_155 (by decide) ?_
    refine lv_icmp_eq (pc := 156) (tgt := 182) hx hb dX12_faultNow_156 (by decide) (fun c_156 => ?_) (fun c_156 => ?_)
    · have h := itp c_156 h
      exact hkx v1 v2 H locs ls Y (lv_sub hl [0, 1, 2] rfl) h
    · have h := itn c_156 h
      refine lv_aload_n (pc := 159) hx hb dX12_faultNow_159 rfl (lv_at hl 0 rfl) ?_
      refine lv_iload_n (pc := 160) hx hb dX12_faultNow_160 rfl (lv_at hl 1 rfl) ?_
      obtain ⟨r_161, e_161, h⟩ := bnd_s h
      refine call_vi (pc := 161) (rest := []) [.int v1] X Y (c_X12_byteAt v1 e_161) sw_X12_215 (rv_X12 X Y) rfl ⟨rfl, rfl, Nat.le_of_ble_eq_true rfl, Nat.le_of_ble_eq_true rfl⟩ hl rfl (Nat.le_of_ble_eq_true rfl) dX12_faultNow_161 (fun H locs Y => ?_)
      refine lv_bipush (pc := 164) (v := 41) hx hb dX12_faultNow_164 (by decide) ?_
      refine lv_icmp_ne (pc := 166) (tgt := 182) hx hb dX12_faultNow_166 (by decide) (fun c_166 => ?_) (fun c_166 => ?_)
      · have h := itn c_166 h
        exact hkx v1 v2 H locs ls Y (lv_sub hl [0, 1, 2] rfl) h
      · have h := itp c_166 h
        refine lv_aload_n (pc := 169) hx hb dX12_faultNow_169 rfl (lv_at hl 0 rfl) ?_
        refine gf_X12_50 (pc := 170) X Y dX12_faultNow_170 ?_
        refine lv_iload_n (pc := 173) hx hb dX12_faultNow_173 rfl (lv_at hl 2 rfl) ?_
        obtain ⟨g_174, h⟩ := gd_s h
        refine r_ialdm (pc := 174) X Y (cm_13 bd cI cZ) g_174 dX12_faultNow_174 ?_
        obtain ⟨v2_175, ev2_175, h⟩ := lt_s_ h
        refine top_i ev2_175 ?_
        refine lv_istore_n (pc := 175) (lv' := [(2, .int v2_175), (0, .ref (bd 0)), (1, .int v1)]) hx hb dX12_faultNow_175 rfl hl (by decide) rfl (fun ls hl => ?_)
        obtain ⟨v1_176, ev1_176, h⟩ := lt_s_ h
        refine lv_iinc (pc := 176) (v := v1_176) (lv' := [(1, .int v1_176), (2, .int v2_175), (0, .ref (bd 0))]) hx hb dX12_faultNow_176 hl (k := 2) rfl (by rw [ev1_176]; rfl) (by decide) rfl (fun ls hl => ?_)
        refine lv_goto (pc := 179) (tgt := 154) hx hb dX12_faultNow_179 (by decide) ?_
        exact ih v1_176 v2_175 H locs ls Y (lv_sub hl [2, 0, 1] rfl) h
set_option maxHeartbeats 4000000 in
set_option maxRecDepth 100000 in
theorem WB_X12_faultNow_226 {r9 : Int32} {D9 : Mem} (v1 : Int32) (v2 : Int32) (D : Mem) (X : Cx p s m args meth c cX12_faultNow RX12 6 (some .int) dC dI ad bd cI cZ) {kb : Int32 → Int32 → Mem → Option (Int32 × Mem)} (hkb : ∀ (v1' : Int32) (v2' : Int32) (D' : Mem) (H : Heap) (locs : List Loc) (ls : Array Slot), Ys s dC dI ad bd cI cZ C D' H locs → lv_has ls 6 [(0, .ref (bd 0)), (1, .int v1'), (2, .int v2')] → kb v1' v2' D' = some (r9, D9) → W p l e rm_X12_faultNow s m args below meth c H locs 0 0 (MQ below (QC (some (.int r9)) dC dI ad bd cI cZ C D9) args s 0 0 (AD ad bd)) (F0 m 9 ls [])) {H : Heap} {locs : List Loc} {ls : Array Slot} (Y : Ys s dC dI ad bd cI cZ C D H locs) (hl : lv_has ls 6 [(0, .ref (bd 0)), (1, .int v1), (2, .int v2)]) (h : B_X12_faultNow_226 v1 v2 D kb = some (r9, D9)) : W p l e rm_X12_faultNow s m args below meth c H locs 0 0 (MQ below (QC (some (.int r9)) dC dI ad bd cI cZ C D9) args s 0 0 (AD ad bd)) (F0 m 226 ls []) := by
  have hx := X.1
  have hb := X.2.1
  unfold B_X12_faultNow_226 at h
  refine lv_goto (pc := 226) (tgt := 9) hx hb dX12_faultNow_226 (by decide) ?_
  exact hkb v1 v2 D H locs ls Y (lv_sub hl [0, 1, 2] rfl) h
set_option maxHeartbeats 4000000 in
set_option maxRecDepth 100000 in
theorem WB_X12_faultNow_46 {r9 : Int32} {D9 : Mem} (x0 : Int32) (v1 : Int32) (v2 : Int32) (D : Mem) (X : Cx p s m args meth c cX12_faultNow RX12 6 (some .int) dC dI ad bd cI cZ) {kb : Int32 → Int32 → Mem → Option (Int32 × Mem)} (hkb : ∀ (v1' : Int32) (v2' : Int32) (D' : Mem) (H : Heap) (locs : List Loc) (ls : Array Slot), Ys s dC dI ad bd cI cZ C D' H locs → lv_has ls 6 [(0, .ref (bd 0)), (1, .int v1'), (2, .int v2')] → kb v1' v2' D' = some (r9, D9) → W p l e rm_X12_faultNow s m args below meth c H locs 0 0 (MQ below (QC (some (.int r9)) dC dI ad bd cI cZ C D9) args s 0 0 (AD ad bd)) (F0 m 9 ls [])) {H : Heap} {locs : List Loc} {ls : Array Slot} (Y : Ys s dC dI ad bd cI cZ C D H locs) (hl : lv_has ls 6 [(0, .ref (bd 0)), (1, .int v1), (2, .int v2)]) (h : B_X12_faultNow_46 x0 v1 v2 D kb = some (r9, D9)) : W p l e rm_X12_faultNow s m args below meth c H locs 0 0 (MQ below (QC (some (.int r9)) dC dI ad bd cI cZ C D9) args s 0 0 (AD ad bd)) (F0 m 46 ls [.int x0]) := by
  have hx := X.1
  have hb := X.2.1
  unfold B_X12_faultNow_46 at h
  refine lv_istore (pc := 46) (lv' := [(4, .int x0), (0, .ref (bd 0)), (1, .int v1), (2, .int v2)]) hx hb dX12_faultNow_46 hl (by decide) rfl (fun ls hl => ?_)
  refine lv_iload (pc := 48) hx hb dX12_faultNow_48 (lv_at hl 0 rfl) ?_
  refine lv_iconst (pc := 50) (v := 3) hx hb dX12_faultNow_50 (by decide) ?_
  refine lv_icmp_ge (pc := 51) (tgt := 89) hx hb dX12_faultNow_51 (by decide) (fun c_51 => ?_) (fun c_51 => ?_)
  · have h := itp c_51 h
    refine lv_aload_n (pc := 89) hx hb dX12_faultNow_89 rfl (lv_at hl 1 rfl) ?_
    refine lv_iconst (pc := 90) (v := 3) hx hb dX12_faultNow_90 (by decide) ?_
    refine lv_iload_n (pc := 91) hx hb dX12_faultNow_91 rfl (lv_at hl 3 rfl) ?_
    obtain ⟨D_92, e_92, h⟩ := bnd_s h
    refine call_vv (pc := 92) (rest := []) [.int 3, .int v2] X Y (c_X12_nodeMore 3 v2 e_92) sw_X12_218 (rv_X12 X Y) rfl ⟨rfl, rfl, Nat.le_of_ble_eq_true rfl, Nat.le_of_ble_eq_true rfl⟩ hl rfl (Nat.le_of_ble_eq_true rfl) dX12_faultNow_92 (fun H locs Y => ?_)
    refine lv_iconst (pc := 95) (v := 0) hx hb dX12_faultNow_95 (by decide) ?_
    refine lv_istore (pc := 96) (lv' := [(5, .int 0), (4, .int x0), (0, .ref (bd 0)), (1, .int v1), (2, .int v2)]) hx hb dX12_faultNow_96 hl (by decide) rfl (fun ls hl => ?_)
    refine WL_X12_faultNow_98 v2 X (fun v1_154 D_154 H locs ls Y hl h => ?_) FU v1 0 D_92 H locs ls Y (lv_sub hl [2, 3, 4, 0] rfl) h
    refine WL_X12_faultNow_154 D_154 X (fun v1_182 v2_182 H locs ls Y hl h => ?_) FU v1_154 v2 H locs ls Y (lv_sub hl [0, 1, 2] rfl) h
    refine lv_iload_n (pc := 182) hx hb dX12_faultNow_182 rfl (lv_at hl 2 rfl) ?_
    refine lv_iconst (pc := 183) (v := (-1)) hx hb dX12_faultNow_183 (by decide) ?_
    refine lv_icmp_ne (pc := 184) (tgt := 201) hx hb dX12_faultNow_184 (by decide) (fun c_184 => ?_) (fun c_184 => ?_)
    · have h := itn c_184 h
      refine lv_aload_n (pc := 201) hx hb dX12_faultNow_201 rfl (lv_at hl 0 rfl) ?_
      refine lv_iload_n (pc := 202) hx hb dX12_faultNow_202 rfl (lv_at hl 1 rfl) ?_
      obtain ⟨r_203, e_203, h⟩ := bnd_s h
      refine call_vi (pc := 203) (rest := []) [.int v1_182] X Y (c_X12_byteAt v1_182 e_203) sw_X12_215 (rv_X12 X Y) rfl ⟨rfl, rfl, Nat.le_of_ble_eq_true rfl, Nat.le_of_ble_eq_true rfl⟩ hl rfl (Nat.le_of_ble_eq_true rfl) dX12_faultNow_203 (fun H locs Y => ?_)
      refine lv_bipush (pc := 206) (v := 44) hx hb dX12_faultNow_206 (by decide) ?_
      refine lv_icmp_ne (pc := 208) (tgt := 221) hx hb dX12_faultNow_208 (by decide) (fun c_208 => ?_) (fun c_208 => ?_)
      · have h := itn c_208 h
        refine lv_iload_n (pc := 221) hx hb dX12_faultNow_221 rfl (lv_at hl 1 rfl) ?_
        obtain ⟨hr9, hm9⟩ := ret_e h
        exact fin_i (pc := 222) X rfl Y hr9 rfl hm9 dX12_faultNow_222
      · have h := itp c_208 h
        refine lv_aload_n (pc := 211) hx hb dX12_faultNow_211 rfl (lv_at hl 0 rfl) ?_
        refine gf_X12_56 (pc := 212) X Y dX12_faultNow_212 ?_
        refine lv_iload_n (pc := 215) hx hb dX12_faultNow_215 rfl (lv_at hl 2 rfl) ?_
        obtain ⟨g_216, h⟩ := gd_s h
        refine r_ialdm (pc := 216) X Y (cm_15 bd cI cZ) g_216 dX12_faultNow_216 ?_
        refine lv_iconst (pc := 217) (v := 4) hx hb dX12_faultNow_217 (by decide) ?_
        refine lv_icmp_ne (pc := 218) (tgt := 223) hx hb dX12_faultNow_218 (by decide) (fun c_218 => ?_) (fun c_218 => ?_)
        · have h := itn c_218 h
          obtain ⟨v1_223, ev1_223, h⟩ := lt_s_ h
          refine lv_iinc (pc := 223) (v := v1_223) (lv' := [(1, .int v1_223), (0, .ref (bd 0)), (2, .int v2_182)]) hx hb dX12_faultNow_223 hl (k := 1) rfl (by rw [ev1_223]; rfl) (by decide) rfl (fun ls hl => ?_)
          exact WB_X12_faultNow_226 v1_223 v2_182 D_154 X (kb := kb) hkb Y (lv_sub hl [1, 0, 2] rfl) h
        · have h := itp c_218 h
          refine lv_iload_n (pc := 221) hx hb dX12_faultNow_221 rfl (lv_at hl 1 rfl) ?_
          obtain ⟨hr9, hm9⟩ := ret_e h
          exact fin_i (pc := 222) X rfl Y hr9 rfl hm9 dX12_faultNow_222
    · have h := itp c_184 h
      refine lv_iload_n (pc := 187) hx hb dX12_faultNow_187 rfl (lv_at hl 1 rfl) ?_
      refine lv_aload_n (pc := 188) hx hb dX12_faultNow_188 rfl (lv_at hl 0 rfl) ?_
      refine gf_X12_209 (pc := 189) X Y dX12_faultNow_189 ?_
      refine lv_icmp_ge (pc := 192) (tgt := 199) hx hb dX12_faultNow_192 (by decide) (fun c_192 => ?_) (fun c_192 => ?_)
      · have h := itp c_192 h
        refine lv_iconst (pc := 199) (v := (-1)) hx hb dX12_faultNow_199 (by decide) ?_
        obtain ⟨hr9, hm9⟩ := ret_e h
        exact fin_i (pc := 200) X rfl Y hr9 rfl hm9 dX12_faultNow_200
      · have h := itn c_192 h
        refine lv_iload_n (pc := 195) hx hb dX12_faultNow_195 rfl (lv_at hl 1 rfl) ?_
        refine lv_goto (pc := 196) (tgt := 200) hx hb dX12_faultNow_196 (by decide) ?_
        obtain ⟨hr9, hm9⟩ := ret_e h
        exact fin_i (pc := 200) X rfl Y hr9 rfl hm9 dX12_faultNow_200
  · have h := itn c_51 h
    refine lv_aload_n (pc := 54) hx hb dX12_faultNow_54 rfl (lv_at hl 1 rfl) ?_
    refine lv_iload (pc := 55) hx hb dX12_faultNow_55 (lv_at hl 0 rfl) ?_
    refine lv_iload_n (pc := 57) hx hb dX12_faultNow_57 rfl (lv_at hl 3 rfl) ?_
    obtain ⟨D_58, e_58, h⟩ := bnd_s h
    refine call_vv (pc := 58) (rest := []) [.int x0, .int v2] X Y (c_X12_nodeMore x0 v2 e_58) sw_X12_218 (rv_X12 X Y) rfl ⟨rfl, rfl, Nat.le_of_ble_eq_true rfl, Nat.le_of_ble_eq_true rfl⟩ hl rfl (Nat.le_of_ble_eq_true rfl) dX12_faultNow_58 (fun H locs Y => ?_)
    obtain ⟨v1_61, ev1_61, h⟩ := lt_s_ h
    refine lv_iinc (pc := 61) (v := v1_61) (lv' := [(1, .int v1_61), (4, .int x0), (0, .ref (bd 0)), (2, .int v2)]) hx hb dX12_faultNow_61 hl (k := 2) rfl (by rw [ev1_61]; rfl) (by decide) rfl (fun ls hl => ?_)
    refine lv_aload_n (pc := 64) hx hb dX12_faultNow_64 rfl (lv_at hl 2 rfl) ?_
    refine lv_iload_n (pc := 65) hx hb dX12_faultNow_65 rfl (lv_at hl 0 rfl) ?_
    obtain ⟨r_66, e_66, h⟩ := bnd_s h
    refine call_vi (pc := 66) (rest := []) [.int v1_61] X Y (c_X12_byteAt v1_61 e_66) sw_X12_215 (rv_X12 X Y) rfl ⟨rfl, rfl, Nat.le_of_ble_eq_true rfl, Nat.le_of_ble_eq_true rfl⟩ hl rfl (Nat.le_of_ble_eq_true rfl) dX12_faultNow_66 (fun H locs Y => ?_)
    refine lv_bipush (pc := 69) (v := 40) hx hb dX12_faultNow_69 (by decide) ?_
    refine lv_icmp_eq (pc := 71) (tgt := 76) hx hb dX12_faultNow_71 (by decide) (fun c_71 => ?_) (fun c_71 => ?_)
    · have h := itp c_71 h
      obtain ⟨v1_76, ev1_76, h⟩ := lt_s_ h
      refine lv_iinc (pc := 76) (v := v1_76) (lv' := [(1, .int v1_76), (4, .int x0), (0, .ref (bd 0)), (2, .int v2)]) hx hb dX12_faultNow_76 hl (k := 0) rfl (by rw [ev1_76]; rfl) (by decide) rfl (fun ls hl => ?_)
      refine lv_aload_n (pc := 79) hx hb dX12_faultNow_79 rfl (lv_at hl 2 rfl) ?_
      refine gf_X12_212 (pc := 80) X Y dX12_faultNow_80 ?_
      refine lv_iconst (pc := 83) (v := 1) hx hb dX12_faultNow_83 (by decide) ?_
      refine lv_isub (pc := 84) hx hb dX12_faultNow_84 ?_
      obtain ⟨v2_85, ev2_85, h⟩ := lt_s_ h
      refine top_i ev2_85 ?_
      refine lv_istore_n (pc := 85) (lv' := [(2, .int v2_85), (1, .int v1_76), (4, .int x0), (0, .ref (bd 0))]) hx hb dX12_faultNow_85 rfl hl (by decide) rfl (fun ls hl => ?_)
      refine lv_goto (pc := 86) (tgt := 226) hx hb dX12_faultNow_86 (by decide) ?_
      exact WB_X12_faultNow_226 v1_76 v2_85 D_58 X (kb := kb) hkb Y (lv_sub hl [3, 1, 0] rfl) h
    · have h := itn c_71 h
      refine lv_iload_n (pc := 74) hx hb dX12_faultNow_74 rfl (lv_at hl 0 rfl) ?_
      obtain ⟨hr9, hm9⟩ := ret_e h
      exact fin_i (pc := 75) X rfl Y hr9 rfl hm9 dX12_faultNow_75
set_option maxHeartbeats 4000000 in
set_option maxRecDepth 100000 in
theorem WL_X12_faultNow_9 {r9 : Int32} {D9 : Mem} (X : Cx p s m args meth c cX12_faultNow RX12 6 (some .int) dC dI ad bd cI cZ) : ∀ (n_ : Nat) (v1 : Int32) (v2 : Int32) (D : Mem) (H : Heap) (locs : List Loc) (ls : Array Slot), Ys s dC dI ad bd cI cZ C D H locs → lv_has ls 6 [(0, .ref (bd 0)), (1, .int v1), (2, .int v2)] → L_X12_faultNow_9 n_ v1 v2 D = some (r9, D9) → W p l e rm_X12_faultNow s m args below meth c H locs 0 0 (MQ below (QC (some (.int r9)) dC dI ad bd cI cZ C D9) args s 0 0 (AD ad bd)) (F0 m 9 ls []) := by
  have hx := X.1
  have hb := X.2.1
  intro n_
  induction n_ with
  | zero =>
    intro v1 v2 D H locs ls Y hl h
    cases h
  | succ n_ ih =>
    intro v1 v2 D H locs ls Y hl h
    unfold L_X12_faultNow_9 at h
    refine lv_aload_n (pc := 9) hx hb dX12_faultNow_9 rfl (lv_at hl 0 rfl) ?_
    refine lv_iload_n (pc := 10) hx hb dX12_faultNow_10 rfl (lv_at hl 1 rfl) ?_
    obtain ⟨r_11, e_11, h⟩ := bnd_s h
    refine call_vi (pc := 11) (rest := []) [.int v1] X Y (c_X12_byteAt v1 e_11) sw_X12_215 (rv_X12 X Y) rfl ⟨rfl, rfl, Nat.le_of_ble_eq_true rfl, Nat.le_of_ble_eq_true rfl⟩ hl rfl (Nat.le_of_ble_eq_true rfl) dX12_faultNow_11 (fun H locs Y => ?_)
    refine lv_istore_n (pc := 14) (lv' := [(3, .int r_11), (0, .ref (bd 0)), (1, .int v1), (2, .int v2)]) hx hb dX12_faultNow_14 rfl hl (by decide) rfl (fun ls hl => ?_)
    refine lv_iload_n (pc := 15) hx hb dX12_faultNow_15 rfl (lv_at hl 0 rfl) ?_
    refine lv_bipush (pc := 16) (v := 103) hx hb dX12_faultNow_16 (by decide) ?_
    refine lv_icmp_ne (pc := 18) (tgt := 25) hx hb dX12_faultNow_18 (by decide) (fun c_18 => ?_) (fun c_18 => ?_)
    · have h := itn c_18 h
      refine lv_iload_n (pc := 25) hx hb dX12_faultNow_25 rfl (lv_at hl 0 rfl) ?_
      refine lv_bipush (pc := 26) (v := 97) hx hb dX12_faultNow_26 (by decide) ?_
      refine lv_icmp_ne (pc := 28) (tgt := 35) hx hb dX12_faultNow_28 (by decide) (fun c_28 => ?_) (fun c_28 => ?_)
      · have h := itn c_28 h
        refine lv_iload_n (pc := 35) hx hb dX12_faultNow_35 rfl (lv_at hl 0 rfl) ?_
        refine lv_bipush (pc := 36) (v := 116) hx hb dX12_faultNow_36 (by decide) ?_
        refine lv_icmp_ne (pc := 38) (tgt := 45) hx hb dX12_faultNow_38 (by decide) (fun c_38 => ?_) (fun c_38 => ?_)
        · have h := itn c_38 h
          refine lv_iconst (pc := 45) (v := 3) hx hb dX12_faultNow_45 (by decide) ?_
          exact WB_X12_faultNow_46 3 v1 v2 D X (kb := (L_X12_faultNow_9 n_)) ih Y (lv_sub hl [1, 2, 3] rfl) h
        · have h := itp c_38 h
          refine lv_iconst (pc := 41) (v := 2) hx hb dX12_faultNow_41 (by decide) ?_
          refine lv_goto (pc := 42) (tgt := 46) hx hb dX12_faultNow_42 (by decide) ?_
          exact WB_X12_faultNow_46 2 v1 v2 D X (kb := (L_X12_faultNow_9 n_)) ih Y (lv_sub hl [1, 2, 3] rfl) h
      · have h := itp c_28 h
        refine lv_iconst (pc := 31) (v := 1) hx hb dX12_faultNow_31 (by decide) ?_
        refine lv_goto (pc := 32) (tgt := 46) hx hb dX12_faultNow_32 (by decide) ?_
        exact WB_X12_faultNow_46 1 v1 v2 D X (kb := (L_X12_faultNow_9 n_)) ih Y (lv_sub hl [1, 2, 3] rfl) h
    · have h := itp c_18 h
      refine lv_iconst (pc := 21) (v := 0) hx hb dX12_faultNow_21 (by decide) ?_
      refine lv_goto (pc := 22) (tgt := 46) hx hb dX12_faultNow_22 (by decide) ?_
      exact WB_X12_faultNow_46 0 v1 v2 D X (kb := (L_X12_faultNow_9 n_)) ih Y (lv_sub hl [1, 2, 3] rfl) h
set_option maxHeartbeats 4000000 in
set_option maxRecDepth 100000 in
theorem c_X12_faultNow {r9 : Int32} {D9 : Mem} (h : f_X12_faultNow D = some (r9, D9)) : Ct l dC dI ad bd cI cZ yX12_faultNow cX12_faultNow 6 (some .int) rm_X12_faultNow [.ref (bd 0)] C D (some (.int r9)) C D9 := by
  unfold f_X12_faultNow at h
  refine Ct.intro (own := RX12) (by decide) rfl (Nat.le_of_ble_eq_true rfl) ?_
  intro p e s m args below meth c H locs ls X Y hl
  have hx := X.1
  have hb := X.2.1
  have hl : lv_has ls 6 [(0, .ref (bd 0))] := hl
  refine lv_aload_n (pc := 0) hx hb dX12_faultNow_0 rfl (lv_at hl 0 rfl) ?_
  refine lv_iconst (pc := 1) (v := 0) hx hb dX12_faultNow_1 (by decide) ?_
  obtain ⟨D_2, hD_2, h⟩ := sto_s h
  refine pf_X12_212 (pc := 2) X Y hD_2 dX12_faultNow_2 (fun H locs Y => ?_)
  refine lv_iconst (pc := 5) (v := 0) hx hb dX12_faultNow_5 (by decide) ?_
  refine lv_istore_n (pc := 6) (lv' := [(1, .int 0), (0, .ref (bd 0))]) hx hb dX12_faultNow_6 rfl hl (by decide) rfl (fun ls hl => ?_)
  refine lv_iconst (pc := 7) (v := (-1)) hx hb dX12_faultNow_7 (by decide) ?_
  refine lv_istore_n (pc := 8) (lv' := [(2, .int (-1)), (1, .int 0), (0, .ref (bd 0))]) hx hb dX12_faultNow_8 rfl hl (by decide) rfl (fun ls hl => ?_)
  refine WL_X12_faultNow_9 X FU 0 (-1) D_2 H locs ls Y (lv_sub hl [2, 1, 0] rfl) h
abbrev rm_X12_fault : Room := { frames := 2, cells := 0, slots := 0, locals := 47 }
set_option maxHeartbeats 4000000 in
set_option maxRecDepth 100000 in
theorem c_X12_fault {r9 : Int32} {D9 : Mem} (h : f_X12_fault D = some (r9, D9)) : Ct l dC dI ad bd cI cZ yX12_fault cX12_fault 1 (some .int) rm_X12_fault [.ref (bd 0)] C D (some (.int r9)) C D9 := by
  unfold f_X12_fault at h
  refine Ct.intro (own := RX12) (by decide) rfl (Nat.le_of_ble_eq_true rfl) ?_
  intro p e s m args below meth c H locs ls X Y hl
  have hx := X.1
  have hb := X.2.1
  have hl : lv_has ls 1 [(0, .ref (bd 0))] := hl
  refine lv_aload_n (pc := 0) hx hb dX12_fault_0 rfl (lv_at hl 0 rfl) ?_
  obtain ⟨r_1, D_1, e_1, h⟩ := bnd2_s h
  refine call_vi (pc := 1) (rest := []) [] X Y (c_X12_faultNow  e_1) sw_X12_222 (rv_X12 X Y) rfl ⟨rfl, rfl, Nat.le_of_ble_eq_true rfl, Nat.le_of_ble_eq_true rfl⟩ hl rfl (Nat.le_of_ble_eq_true rfl) dX12_fault_1 (fun H locs Y => ?_)
  obtain ⟨hr9, hm9⟩ := ret_e h
  exact fin_i (pc := 4) X rfl Y hr9 rfl hm9 dX12_fault_4
abbrev rm_X12_worth : Room := { frames := 0, cells := 0, slots := 0, locals := 0 }
set_option maxHeartbeats 4000000 in
set_option maxRecDepth 100000 in
theorem WB_X12_worth_62 {r9 : Int32} (x0 : Int32) (v1 : Int32) (v2 : Int32) (v3 : Int32) (v4 : Int32) (v6 : Int32) (D : Mem) (X : Cx p s m args meth c cX12_worth RX12 7 (some .int) dC dI ad bd cI cZ) {kb : Int32 → Int32 → Option Int32} (hkb : ∀ (v5' : Int32) (v6' : Int32) (H : Heap) (locs : List Loc) (ls : Array Slot), Ys s dC dI ad bd cI cZ C D H locs → lv_has ls 7 [(0, .ref (bd 0)), (1, .int v1), (2, .int v2), (3, .int v3), (4, .int v4), (5, .int v5'), (6, .int v6')] → kb v5' v6' = some r9 → W p l e rm_X12_worth s m args below meth c H locs 0 0 (MQ below (QC (some (.int r9)) dC dI ad bd cI cZ C D) args s 0 0 (AD ad bd)) (F0 m 18 ls [])) {H : Heap} {locs : List Loc} {ls : Array Slot} (Y : Ys s dC dI ad bd cI cZ C D H locs) (hl : lv_has ls 7 [(0, .ref (bd 0)), (1, .int v1), (2, .int v2), (3, .int v3), (4, .int v4), (6, .int v6)]) (h : B_X12_worth_62 x0 v6 kb = some r9) : W p l e rm_X12_worth s m args below meth c H locs 0 0 (MQ below (QC (some (.int r9)) dC dI ad bd cI cZ C D) args s 0 0 (AD ad bd)) (F0 m 62 ls [.int x0]) := by
  have hx := X.1
  have hb := X.2.1
  unfold B_X12_worth_62 at h
  refine lv_istore (pc := 62) (lv' := [(5, .int x0), (0, .ref (bd 0)), (1, .int v1), (2, .int v2), (3, .int v3), (4, .int v4), (6, .int v6)]) hx hb dX12_worth_62 hl (by decide) rfl (fun ls hl => ?_)
  obtain ⟨v6_64, ev6_64, h⟩ := lt_s_ h
  refine lv_iinc (pc := 64) (v := v6_64) (lv' := [(6, .int v6_64), (5, .int x0), (0, .ref (bd 0)), (1, .int v1), (2, .int v2), (3, .int v3), (4, .int v4)]) hx hb dX12_worth_64 hl (k := 6) rfl (by rw [ev6_64]; rfl) (by decide) rfl (fun ls hl => ?_)
  refine lv_goto (pc := 67) (tgt := 18) hx hb dX12_worth_67 (by decide) ?_
  exact hkb x0 v6_64 H locs ls Y (lv_sub hl [2, 3, 4, 5, 6, 1, 0] rfl) h
set_option maxHeartbeats 4000000 in
set_option maxRecDepth 100000 in
theorem WB_X12_worth_60 {r9 : Int32} (v1 : Int32) (v2 : Int32) (v3 : Int32) (v4 : Int32) (v5 : Int32) (v6 : Int32) (D : Mem) (X : Cx p s m args meth c cX12_worth RX12 7 (some .int) dC dI ad bd cI cZ) {kb : Int32 → Int32 → Option Int32} (hkb : ∀ (v5' : Int32) (v6' : Int32) (H : Heap) (locs : List Loc) (ls : Array Slot), Ys s dC dI ad bd cI cZ C D H locs → lv_has ls 7 [(0, .ref (bd 0)), (1, .int v1), (2, .int v2), (3, .int v3), (4, .int v4), (5, .int v5'), (6, .int v6')] → kb v5' v6' = some r9 → W p l e rm_X12_worth s m args below meth c H locs 0 0 (MQ below (QC (some (.int r9)) dC dI ad bd cI cZ C D) args s 0 0 (AD ad bd)) (F0 m 18 ls [])) {H : Heap} {locs : List Loc} {ls : Array Slot} (Y : Ys s dC dI ad bd cI cZ C D H locs) (hl : lv_has ls 7 [(0, .ref (bd 0)), (1, .int v1), (2, .int v2), (3, .int v3), (4, .int v4), (5, .int v5), (6, .int v6)]) (h : B_X12_worth_60 v5 v6 kb = some r9) : W p l e rm_X12_worth s m args below meth c H locs 0 0 (MQ below (QC (some (.int r9)) dC dI ad bd cI cZ C D) args s 0 0 (AD ad bd)) (F0 m 60 ls []) := by
  have hx := X.1
  have hb := X.2.1
  unfold B_X12_worth_60 at h
  refine lv_iload (pc := 60) hx hb dX12_worth_60 (lv_at hl 5 rfl) ?_
  exact WB_X12_worth_62 v5 v1 v2 v3 v4 v6 D X (kb := kb) hkb Y (lv_sub hl [0, 1, 2, 3, 4, 6] rfl) h
set_option maxHeartbeats 4000000 in
set_option maxRecDepth 100000 in
theorem WL_X12_worth_18 {r9 : Int32} (v1 : Int32) (v2 : Int32) (v3 : Int32) (v4 : Int32) (D : Mem) (X : Cx p s m args meth c cX12_worth RX12 7 (some .int) dC dI ad bd cI cZ) {kx : Int32 → Option Int32} (hkx : ∀ (v5' : Int32) (H : Heap) (locs : List Loc) (ls : Array Slot), Ys s dC dI ad bd cI cZ C D H locs → lv_has ls 7 [(3, .int v3), (4, .int v4), (5, .int v5')] → kx v5' = some r9 → W p l e rm_X12_worth s m args below meth c H locs 0 0 (MQ below (QC (some (.int r9)) dC dI ad bd cI cZ C D) args s 0 0 (AD ad bd)) (F0 m 70 ls [])) : ∀ (n_ : Nat) (v5 : Int32) (v6 : Int32) (H : Heap) (locs : List Loc) (ls : Array Slot), Ys s dC dI ad bd cI cZ C D H locs → lv_has ls 7 [(0, .ref (bd 0)), (1, .int v1), (2, .int v2), (3, .int v3), (4, .int v4), (5, .int v5), (6, .int v6)] → L_X12_worth_18 v1 v2 D kx n_ v5 v6 = some r9 → W p l e rm_X12_worth s m args below meth c H locs 0 0 (MQ below (QC (some (.int r9)) dC dI ad bd cI cZ C D) args s 0 0 (AD ad bd)) (F0 m 18 ls []) := by
  have hx := X.1
  have hb := X.2.1
  intro n_
  induction n_ with
  | zero =>
    intro v5 v6 H locs ls Y hl h
    cases h
  | succ n_ ih =>
    intro v5 v6 H locs ls Y hl h
    unfold L_X12_worth_18 at h
    refine lv_iload (pc := 18) hx hb dX12_worth_18 (lv_at hl 6 rfl) ?_
    refine lv_iconst (pc := 20) (v := 3) hx hb dX12_worth_20 (by decide) ?_
    refine lv_icmp_ge (pc := 21) (tgt := 70) hx hb dX12_worth_21 (by decide) (fun c_21 => ?_) (fun c_21 => ?_)
    · have h := itp c_21 h
      exact hkx v5 H locs ls Y (lv_sub hl [3, 4, 5] rfl) h
    · have h := itn c_21 h
      refine lv_iload (pc := 24) hx hb dX12_worth_24 (lv_at hl 6 rfl) ?_
      refine lv_iload_n (pc := 26) hx hb dX12_worth_26 rfl (lv_at hl 2 rfl) ?_
      refine lv_icmp_eq (pc := 27) (tgt := 60) hx hb dX12_worth_27 (by decide) (fun c_27 => ?_) (fun c_27 => ?_)
      · have h := itp c_27 h
        exact WB_X12_worth_60 v1 v2 v3 v4 v5 v6 D X (kb := (L_X12_worth_18 v1 v2 D kx n_)) ih Y (lv_sub hl [0, 1, 2, 3, 4, 5, 6] rfl) h
      · have h := itn c_27 h
        refine lv_aload_n (pc := 30) hx hb dX12_worth_30 rfl (lv_at hl 0 rfl) ?_
        refine gf_X12_65 (pc := 31) X Y dX12_worth_31 ?_
        refine lv_iconst (pc := 34) (v := 3) hx hb dX12_worth_34 (by decide) ?_
        refine lv_iload_n (pc := 35) hx hb dX12_worth_35 rfl (lv_at hl 1 rfl) ?_
        refine lv_imul (pc := 36) hx hb dX12_worth_36 ?_
        refine lv_iload (pc := 37) hx hb dX12_worth_37 (lv_at hl 6 rfl) ?_
        refine lv_iadd (pc := 39) hx hb dX12_worth_39 ?_
        obtain ⟨g_40, h⟩ := gd_s h
        refine r_ialdm (pc := 40) X Y (cm_18 bd cI cZ) g_40 dX12_worth_40 ?_
        refine lv_iload (pc := 41) hx hb dX12_worth_41 (lv_at hl 5 rfl) ?_
        refine lv_icmp_le (pc := 43) (tgt := 60) hx hb dX12_worth_43 (by decide) (fun c_43 => ?_) (fun c_43 => ?_)
        · have h := itp c_43 h
          exact WB_X12_worth_60 v1 v2 v3 v4 v5 v6 D X (kb := (L_X12_worth_18 v1 v2 D kx n_)) ih Y (lv_sub hl [0, 1, 2, 3, 4, 5, 6] rfl) h
        · have h := itn c_43 h
          refine lv_aload_n (pc := 46) hx hb dX12_worth_46 rfl (lv_at hl 0 rfl) ?_
          refine gf_X12_65 (pc := 47) X Y dX12_worth_47 ?_
          refine lv_iconst (pc := 50) (v := 3) hx hb dX12_worth_50 (by decide) ?_
          refine lv_iload_n (pc := 51) hx hb dX12_worth_51 rfl (lv_at hl 1 rfl) ?_
          refine lv_imul (pc := 52) hx hb dX12_worth_52 ?_
          refine lv_iload (pc := 53) hx hb dX12_worth_53 (lv_at hl 6 rfl) ?_
          refine lv_iadd (pc := 55) hx hb dX12_worth_55 ?_
          obtain ⟨g_56, h⟩ := gd_s h
          refine r_ialdm (pc := 56) X Y (cm_18 bd cI cZ) g_56 dX12_worth_56 ?_
          refine lv_goto (pc := 57) (tgt := 62) hx hb dX12_worth_57 (by decide) ?_
          exact WB_X12_worth_62 (D 18 ((3 * v1) + v6).toNatClampNeg) v1 v2 v3 v4 v6 D X (kb := (L_X12_worth_18 v1 v2 D kx n_)) ih Y (lv_sub hl [0, 1, 2, 3, 4, 6] rfl) h
set_option maxHeartbeats 4000000 in
set_option maxRecDepth 100000 in
theorem c_X12_worth {r9 : Int32} (v1 : Int32) (v2 : Int32) (v3 : Int32) (h : f_X12_worth v1 v2 v3 D = some r9) : Ct l dC dI ad bd cI cZ yX12_worth cX12_worth 7 (some .int) rm_X12_worth [.ref (bd 0), .int v1, .int v2, .int v3] C D (some (.int r9)) C D := by
  unfold f_X12_worth at h
  refine Ct.intro (own := RX12) (by decide) rfl (Nat.le_of_ble_eq_true rfl) ?_
  intro p e s m args below meth c H locs ls X Y hl
  have hx := X.1
  have hb := X.2.1
  have hl : lv_has ls 7 [(0, .ref (bd 0)), (1, .int v1), (2, .int v2), (3, .int v3)] := hl
  refine lv_aload_n (pc := 0) hx hb dX12_worth_0 rfl (lv_at hl 0 rfl) ?_
  refine gf_X12_65 (pc := 1) X Y dX12_worth_1 ?_
  refine lv_iconst (pc := 4) (v := 3) hx hb dX12_worth_4 (by decide) ?_
  refine lv_iload_n (pc := 5) hx hb dX12_worth_5 rfl (lv_at hl 1 rfl) ?_
  refine lv_imul (pc := 6) hx hb dX12_worth_6 ?_
  refine lv_iload_n (pc := 7) hx hb dX12_worth_7 rfl (lv_at hl 2 rfl) ?_
  refine lv_iadd (pc := 8) hx hb dX12_worth_8 ?_
  obtain ⟨g_9, h⟩ := gd_s h
  refine r_ialdm (pc := 9) X Y (cm_18 bd cI cZ) g_9 dX12_worth_9 ?_
  obtain ⟨v4_10, ev4_10, h⟩ := lt_s_ h
  refine top_i ev4_10 ?_
  refine lv_istore (pc := 10) (lv' := [(4, .int v4_10), (0, .ref (bd 0)), (1, .int v1), (2, .int v2), (3, .int v3)]) hx hb dX12_worth_10 hl (by decide) rfl (fun ls hl => ?_)
  refine lv_iconst (pc := 12) (v := 0) hx hb dX12_worth_12 (by decide) ?_
  refine lv_istore (pc := 13) (lv' := [(5, .int 0), (4, .int v4_10), (0, .ref (bd 0)), (1, .int v1), (2, .int v2), (3, .int v3)]) hx hb dX12_worth_13 hl (by decide) rfl (fun ls hl => ?_)
  refine lv_iconst (pc := 15) (v := 0) hx hb dX12_worth_15 (by decide) ?_
  refine lv_istore (pc := 16) (lv' := [(6, .int 0), (5, .int 0), (4, .int v4_10), (0, .ref (bd 0)), (1, .int v1), (2, .int v2), (3, .int v3)]) hx hb dX12_worth_16 hl (by decide) rfl (fun ls hl => ?_)
  refine WL_X12_worth_18 v1 v2 v3 v4_10 D X (fun v5_70 H locs ls Y hl h => ?_) FU 0 0 H locs ls Y (lv_sub hl [3, 4, 5, 6, 2, 1, 0] rfl) h
  refine lv_iconst (pc := 70) (v := 4) hx hb dX12_worth_70 (by decide) ?_
  refine lv_iload (pc := 71) hx hb dX12_worth_71 (lv_at hl 1 rfl) ?_
  refine lv_imul (pc := 73) hx hb dX12_worth_73 ?_
  refine lv_iload (pc := 74) hx hb dX12_worth_74 (lv_at hl 2 rfl) ?_
  refine lv_iload (pc := 76) hx hb dX12_worth_76 (lv_at hl 1 rfl) ?_
  refine lv_icmp_le (pc := 78) (tgt := 91) hx hb dX12_worth_78 (by decide) (fun c_78 => ?_) (fun c_78 => ?_)
  · have h := itp c_78 h
    refine lv_iconst (pc := 91) (v := 0) hx hb dX12_worth_91 (by decide) ?_
    refine lv_isub (pc := 92) hx hb dX12_worth_92 ?_
    have hr9 := ret_p h
    exact fin_i (pc := 93) X rfl Y hr9 rfl rfl dX12_worth_93
  · have h := itn c_78 h
    refine lv_iload_n (pc := 81) hx hb dX12_worth_81 rfl (lv_at hl 0 rfl) ?_
    refine lv_iload (pc := 82) hx hb dX12_worth_82 (lv_at hl 2 rfl) ?_
    refine lv_iload (pc := 84) hx hb dX12_worth_84 (lv_at hl 1 rfl) ?_
    refine lv_isub (pc := 86) hx hb dX12_worth_86 ?_
    refine lv_imul (pc := 87) hx hb dX12_worth_87 ?_
    refine lv_goto (pc := 88) (tgt := 92) hx hb dX12_worth_88 (by decide) ?_
    refine lv_isub (pc := 92) hx hb dX12_worth_92 ?_
    have hr9 := ret_p h
    exact fin_i (pc := 93) X rfl Y hr9 rfl rfl dX12_worth_93
abbrev rm_X12_reckons : Room := { frames := 1, cells := 0, slots := 0, locals := 26 }
set_option maxHeartbeats 4000000 in
set_option maxRecDepth 100000 in
theorem WB_X12_reckons_130 {D9 : Mem} (v1 : Int32) (v2 : Int32) (v3 : Int32) (D : Mem) (X : Cx p s m args meth c cX12_reckons RX12 4 (none) dC dI ad bd cI cZ) {kb : Int32 → Mem → Option Mem} (hkb : ∀ (v3' : Int32) (D' : Mem) (H : Heap) (locs : List Loc) (ls : Array Slot), Ys s dC dI ad bd cI cZ C D' H locs → lv_has ls 4 [(0, .ref (bd 0)), (1, .int v1), (2, .int v2), (3, .int v3')] → kb v3' D' = some D9 → W p l e rm_X12_reckons s m args below meth c H locs 0 0 (MQ below (QC (none) dC dI ad bd cI cZ C D9) args s 0 0 (AD ad bd)) (F0 m 43 ls [])) {H : Heap} {locs : List Loc} {ls : Array Slot} (Y : Ys s dC dI ad bd cI cZ C D H locs) (hl : lv_has ls 4 [(0, .ref (bd 0)), (1, .int v1), (2, .int v2), (3, .int v3)]) (h : B_X12_reckons_130 v3 D kb = some D9) : W p l e rm_X12_reckons s m args below meth c H locs 0 0 (MQ below (QC (none) dC dI ad bd cI cZ C D9) args s 0 0 (AD ad bd)) (F0 m 130 ls []) := by
  have hx := X.1
  have hb := X.2.1
  unfold B_X12_reckons_130 at h
  obtain ⟨v3_130, ev3_130, h⟩ := lt_s_ h
  refine lv_iinc (pc := 130) (v := v3_130) (lv' := [(3, .int v3_130), (0, .ref (bd 0)), (1, .int v1), (2, .int v2)]) hx hb dX12_reckons_130 hl (k := 3) rfl (by rw [ev3_130]; rfl) (by decide) rfl (fun ls hl => ?_)
  refine lv_goto (pc := 133) (tgt := 43) hx hb dX12_reckons_133 (by decide) ?_
  exact hkb v3_130 D H locs ls Y (lv_sub hl [1, 2, 3, 0] rfl) h
set_option maxHeartbeats 4000000 in
set_option maxRecDepth 100000 in
theorem WB_X12_reckons_123 {D9 : Mem} (v1 : Int32) (v2 : Int32) (v3 : Int32) (D : Mem) (X : Cx p s m args meth c cX12_reckons RX12 4 (none) dC dI ad bd cI cZ) {kb : Int32 → Mem → Option Mem} (hkb : ∀ (v3' : Int32) (D' : Mem) (H : Heap) (locs : List Loc) (ls : Array Slot), Ys s dC dI ad bd cI cZ C D' H locs → lv_has ls 4 [(0, .ref (bd 0)), (1, .int v1), (2, .int v2), (3, .int v3')] → kb v3' D' = some D9 → W p l e rm_X12_reckons s m args below meth c H locs 0 0 (MQ below (QC (none) dC dI ad bd cI cZ C D9) args s 0 0 (AD ad bd)) (F0 m 43 ls [])) {H : Heap} {locs : List Loc} {ls : Array Slot} (Y : Ys s dC dI ad bd cI cZ C D H locs) (hl : lv_has ls 4 [(0, .ref (bd 0)), (1, .int v1), (2, .int v2), (3, .int v3)]) (h : B_X12_reckons_123 v2 v3 D kb = some D9) : W p l e rm_X12_reckons s m args below meth c H locs 0 0 (MQ below (QC (none) dC dI ad bd cI cZ C D9) args s 0 0 (AD ad bd)) (F0 m 123 ls []) := by
  have hx := X.1
  have hb := X.2.1
  unfold B_X12_reckons_123 at h
  refine lv_aload_n (pc := 123) hx hb dX12_reckons_123 rfl (lv_at hl 0 rfl) ?_
  refine gf_X12_62 (pc := 124) X Y dX12_reckons_124 ?_
  refine lv_iload_n (pc := 127) hx hb dX12_reckons_127 rfl (lv_at hl 2 rfl) ?_
  refine lv_iload_n (pc := 128) hx hb dX12_reckons_128 rfl (lv_at hl 3 rfl) ?_
  obtain ⟨g_129, h⟩ := gd_s h
  obtain ⟨D_129, hD_129, h⟩ := sto_s h
  refine r_iastm (pc := 129) X Y (cm_17 bd cI cZ) g_129 hD_129 dX12_reckons_129 (fun H locs Y => ?_)
  exact WB_X12_reckons_130 v1 v2 v3 D_129 X (kb := kb) hkb Y (lv_sub hl [0, 1, 2, 3] rfl) h
set_option maxHeartbeats 4000000 in
set_option maxRecDepth 100000 in
theorem WL_X12_reckons_43 {D9 : Mem} (v1 : Int32) (v2 : Int32) (X : Cx p s m args meth c cX12_reckons RX12 4 (none) dC dI ad bd cI cZ) {kx : Mem → Option Mem} (hkx : ∀ (D' : Mem) (H : Heap) (locs : List Loc) (ls : Array Slot), Ys s dC dI ad bd cI cZ C D' H locs → lv_has ls 4 [(0, .ref (bd 0)), (1, .int v1), (2, .int v2)] → kx D' = some D9 → W p l e rm_X12_reckons s m args below meth c H locs 0 0 (MQ below (QC (none) dC dI ad bd cI cZ C D9) args s 0 0 (AD ad bd)) (F0 m 136 ls [])) : ∀ (n_ : Nat) (v3 : Int32) (D : Mem) (H : Heap) (locs : List Loc) (ls : Array Slot), Ys s dC dI ad bd cI cZ C D H locs → lv_has ls 4 [(0, .ref (bd 0)), (1, .int v1), (2, .int v2), (3, .int v3)] → L_X12_reckons_43 v1 v2 kx n_ v3 D = some D9 → W p l e rm_X12_reckons s m args below meth c H locs 0 0 (MQ below (QC (none) dC dI ad bd cI cZ C D9) args s 0 0 (AD ad bd)) (F0 m 43 ls []) := by
  have hx := X.1
  have hb := X.2.1
  intro n_
  induction n_ with
  | zero =>
    intro v3 D H locs ls Y hl h
    cases h
  | succ n_ ih =>
    intro v3 D H locs ls Y hl h
    unfold L_X12_reckons_43 at h
    refine lv_iload_n (pc := 43) hx hb dX12_reckons_43 rfl (lv_at hl 3 rfl) ?_
    refine lv_aload_n (pc := 44) hx hb dX12_reckons_44 rfl (lv_at hl 0 rfl) ?_
    refine gf_X12_212 (pc := 45) X Y dX12_reckons_45 ?_
    refine lv_icmp_ge (pc := 48) (tgt := 136) hx hb dX12_reckons_48 (by decide) (fun c_48 => ?_) (fun c_48 => ?_)
    · have h := itp c_48 h
      exact hkx D H locs ls Y (lv_sub hl [0, 1, 2] rfl) h
    · have h := itn c_48 h
      refine lv_aload_n (pc := 51) hx hb dX12_reckons_51 rfl (lv_at hl 0 rfl) ?_
      refine gf_X12_47 (pc := 52) X Y dX12_reckons_52 ?_
      refine lv_iload_n (pc := 55) hx hb dX12_reckons_55 rfl (lv_at hl 2 rfl) ?_
      obtain ⟨g_56, h⟩ := gd_s h
      refine r_ialdm (pc := 56) X Y (cm_12 bd cI cZ) g_56 dX12_reckons_56 ?_
      refine lv_iconst (pc := 57) (v := 3) hx hb dX12_reckons_57 (by decide) ?_
      refine lv_icmp_ge (pc := 58) (tgt := 136) hx hb dX12_reckons_58 (by decide) (fun c_58 => ?_) (fun c_58 => ?_)
      · have h := itp c_58 h
        exact hkx D H locs ls Y (lv_sub hl [0, 1, 2] rfl) h
      · have h := itn c_58 h
        refine lv_aload_n (pc := 61) hx hb dX12_reckons_61 rfl (lv_at hl 0 rfl) ?_
        refine gf_X12_50 (pc := 62) X Y dX12_reckons_62 ?_
        refine lv_iload_n (pc := 65) hx hb dX12_reckons_65 rfl (lv_at hl 3 rfl) ?_
        obtain ⟨g_66, h⟩ := gd_s h
        refine r_ialdm (pc := 66) X Y (cm_13 bd cI cZ) g_66 dX12_reckons_66 ?_
        refine lv_iload_n (pc := 67) hx hb dX12_reckons_67 rfl (lv_at hl 2 rfl) ?_
        refine lv_icmp_ne (pc := 68) (tgt := 130) hx hb dX12_reckons_68 (by decide) (fun c_68 => ?_) (fun c_68 => ?_)
        · have h := itn c_68 h
          exact WB_X12_reckons_130 v1 v2 v3 D X (kb := (L_X12_reckons_43 v1 v2 kx n_)) ih Y (lv_sub hl [0, 1, 2, 3] rfl) h
        · have h := itp c_68 h
          refine lv_aload_n (pc := 71) hx hb dX12_reckons_71 rfl (lv_at hl 0 rfl) ?_
          refine gf_X12_62 (pc := 72) X Y dX12_reckons_72 ?_
          refine lv_iload_n (pc := 75) hx hb dX12_reckons_75 rfl (lv_at hl 2 rfl) ?_
          obtain ⟨g_76, h⟩ := gd_s h
          refine r_ialdm (pc := 76) X Y (cm_17 bd cI cZ) g_76 dX12_reckons_76 ?_
          refine lv_iconst (pc := 77) (v := (-1)) hx hb dX12_reckons_77 (by decide) ?_
          refine lv_icmp_eq (pc := 78) (tgt := 123) hx hb dX12_reckons_78 (by decide) (fun c_78 => ?_) (fun c_78 => ?_)
          · have h := itp c_78 h
            exact WB_X12_reckons_123 v1 v2 v3 D X (kb := (L_X12_reckons_43 v1 v2 kx n_)) ih Y (lv_sub hl [0, 1, 2, 3] rfl) h
          · have h := itn c_78 h
            refine lv_aload_n (pc := 81) hx hb dX12_reckons_81 rfl (lv_at hl 0 rfl) ?_
            refine lv_aload_n (pc := 82) hx hb dX12_reckons_82 rfl (lv_at hl 0 rfl) ?_
            refine gf_X12_59 (pc := 83) X Y dX12_reckons_83 ?_
            refine lv_iload_n (pc := 86) hx hb dX12_reckons_86 rfl (lv_at hl 3 rfl) ?_
            obtain ⟨g_87, h⟩ := gd_s h
            refine r_ialdm (pc := 87) X Y (cm_16 bd cI cZ) g_87 dX12_reckons_87 ?_
            refine lv_aload_n (pc := 88) hx hb dX12_reckons_88 rfl (lv_at hl 0 rfl) ?_
            refine gf_X12_47 (pc := 89) X Y dX12_reckons_89 ?_
            refine lv_iload_n (pc := 92) hx hb dX12_reckons_92 rfl (lv_at hl 2 rfl) ?_
            obtain ⟨g_93, h⟩ := gd_s h
            refine r_ialdm (pc := 93) X Y (cm_12 bd cI cZ) g_93 dX12_reckons_93 ?_
            refine lv_iload_n (pc := 94) hx hb dX12_reckons_94 rfl (lv_at hl 1 rfl) ?_
            obtain ⟨r_95, e_95, h⟩ := bnd_s h
            refine call_vi (pc := 95) (rest := []) [.int (D 16 v3.toNatClampNeg), .int (D 12 v2.toNatClampNeg), .int v1] X Y (c_X12_worth (D 16 v3.toNatClampNeg) (D 12 v2.toNatClampNeg) v1 e_95) sw_X12_226 (rv_X12 X Y) rfl ⟨rfl, rfl, Nat.le_of_ble_eq_true rfl, Nat.le_of_ble_eq_true rfl⟩ hl rfl (Nat.le_of_ble_eq_true rfl) dX12_reckons_95 (fun H locs Y => ?_)
            refine lv_aload_n (pc := 98) hx hb dX12_reckons_98 rfl (lv_at hl 0 rfl) ?_
            refine lv_aload_n (pc := 99) hx hb dX12_reckons_99 rfl (lv_at hl 0 rfl) ?_
            refine gf_X12_59 (pc := 100) X Y dX12_reckons_100 ?_
            refine lv_aload_n (pc := 103) hx hb dX12_reckons_103 rfl (lv_at hl 0 rfl) ?_
            refine gf_X12_62 (pc := 104) X Y dX12_reckons_104 ?_
            refine lv_iload_n (pc := 107) hx hb dX12_reckons_107 rfl (lv_at hl 2 rfl) ?_
            obtain ⟨g_108, h⟩ := gd_s h
            refine r_ialdm (pc := 108) X Y (cm_17 bd cI cZ) g_108 dX12_reckons_108 ?_
            obtain ⟨g_109, h⟩ := gd_s h
            refine r_ialdm (pc := 109) X Y (cm_16 bd cI cZ) g_109 dX12_reckons_109 ?_
            refine lv_aload_n (pc := 110) hx hb dX12_reckons_110 rfl (lv_at hl 0 rfl) ?_
            refine gf_X12_47 (pc := 111) X Y dX12_reckons_111 ?_
            refine lv_iload_n (pc := 114) hx hb dX12_reckons_114 rfl (lv_at hl 2 rfl) ?_
            obtain ⟨g_115, h⟩ := gd_s h
            refine r_ialdm (pc := 115) X Y (cm_12 bd cI cZ) g_115 dX12_reckons_115 ?_
            refine lv_iload_n (pc := 116) hx hb dX12_reckons_116 rfl (lv_at hl 1 rfl) ?_
            obtain ⟨r_117, e_117, h⟩ := bnd_s h
            refine call_vi (pc := 117) (rest := [.int r_95]) [.int (D 16 (D 17 v2.toNatClampNeg).toNatClampNeg), .int (D 12 v2.toNatClampNeg), .int v1] X Y (c_X12_worth (D 16 (D 17 v2.toNatClampNeg).toNatClampNeg) (D 12 v2.toNatClampNeg) v1 e_117) sw_X12_226 (rv_X12 X Y) rfl ⟨rfl, rfl, Nat.le_of_ble_eq_true rfl, Nat.le_of_ble_eq_true rfl⟩ hl rfl (Nat.le_of_ble_eq_true rfl) dX12_reckons_117 (fun H locs Y => ?_)
            refine lv_icmp_le (pc := 120) (tgt := 130) hx hb dX12_reckons_120 (by decide) (fun c_120 => ?_) (fun c_120 => ?_)
            · have h := itp c_120 h
              exact WB_X12_reckons_130 v1 v2 v3 D X (kb := (L_X12_reckons_43 v1 v2 kx n_)) ih Y (lv_sub hl [0, 1, 2, 3] rfl) h
            · have h := itn c_120 h
              exact WB_X12_reckons_123 v1 v2 v3 D X (kb := (L_X12_reckons_43 v1 v2 kx n_)) ih Y (lv_sub hl [0, 1, 2, 3] rfl) h
set_option maxHeartbeats 4000000 in
set_option maxRecDepth 100000 in
theorem WB_X12_reckons_171 {D9 : Mem} (x1 : Int32) (x2 : Int32) (v1 : Int32) (v2 : Int32) (D : Mem) (X : Cx p s m args meth c cX12_reckons RX12 4 (none) dC dI ad bd cI cZ) {kb : Int32 → Mem → Option Mem} (hkb : ∀ (v2' : Int32) (D' : Mem) (H : Heap) (locs : List Loc) (ls : Array Slot), Ys s dC dI ad bd cI cZ C D' H locs → lv_has ls 4 [(0, .ref (bd 0)), (1, .int v1), (2, .int v2')] → kb v2' D' = some D9 → W p l e rm_X12_reckons s m args below meth c H locs 0 0 (MQ below (QC (none) dC dI ad bd cI cZ C D9) args s 0 0 (AD ad bd)) (F0 m 7 ls [])) {H : Heap} {locs : List Loc} {ls : Array Slot} (Y : Ys s dC dI ad bd cI cZ C D H locs) (hl : lv_has ls 4 [(0, .ref (bd 0)), (1, .int v1), (2, .int v2)]) (h : B_X12_reckons_171 x1 x2 v2 D kb = some D9) : W p l e rm_X12_reckons s m args below meth c H locs 0 0 (MQ below (QC (none) dC dI ad bd cI cZ C D9) args s 0 0 (AD ad bd)) (F0 m 171 ls [.int x2, .int x1, .ref (bd 16)]) := by
  have hx := X.1
  have hb := X.2.1
  unfold B_X12_reckons_171 at h
  obtain ⟨g_171, h⟩ := gd_s h
  obtain ⟨D_171, hD_171, h⟩ := sto_s h
  refine r_iastm (pc := 171) X Y (cm_16 bd cI cZ) g_171 hD_171 dX12_reckons_171 (fun H locs Y => ?_)
  obtain ⟨v2_172, ev2_172, h⟩ := lt_s_ h
  refine lv_iinc (pc := 172) (v := v2_172) (lv' := [(2, .int v2_172), (0, .ref (bd 0)), (1, .int v1)]) hx hb dX12_reckons_172 hl (k := 2) rfl (by rw [ev2_172]; rfl) (by decide) rfl (fun ls hl => ?_)
  refine lv_goto (pc := 175) (tgt := 7) hx hb dX12_reckons_175 (by decide) ?_
  exact hkb v2_172 D_171 H locs ls Y (lv_sub hl [1, 2, 0] rfl) h
set_option maxHeartbeats 4000000 in
set_option maxRecDepth 100000 in
theorem WB_X12_reckons_38 {D9 : Mem} (x1 : Int32) (x2 : Int32) (v1 : Int32) (v2 : Int32) (D : Mem) (X : Cx p s m args meth c cX12_reckons RX12 4 (none) dC dI ad bd cI cZ) {kb : Int32 → Mem → Option Mem} (hkb : ∀ (v2' : Int32) (D' : Mem) (H : Heap) (locs : List Loc) (ls : Array Slot), Ys s dC dI ad bd cI cZ C D' H locs → lv_has ls 4 [(0, .ref (bd 0)), (1, .int v1), (2, .int v2')] → kb v2' D' = some D9 → W p l e rm_X12_reckons s m args below meth c H locs 0 0 (MQ below (QC (none) dC dI ad bd cI cZ C D9) args s 0 0 (AD ad bd)) (F0 m 7 ls [])) {H : Heap} {locs : List Loc} {ls : Array Slot} (Y : Ys s dC dI ad bd cI cZ C D H locs) (hl : lv_has ls 4 [(0, .ref (bd 0)), (1, .int v1), (2, .int v2)]) (h : B_X12_reckons_38 x1 x2 v1 v2 D kb = some D9) : W p l e rm_X12_reckons s m args below meth c H locs 0 0 (MQ below (QC (none) dC dI ad bd cI cZ C D9) args s 0 0 (AD ad bd)) (F0 m 38 ls [.int x2, .int x1, .ref (bd 16)]) := by
  have hx := X.1
  have hb := X.2.1
  unfold B_X12_reckons_38 at h
  obtain ⟨g_38, h⟩ := gd_s h
  obtain ⟨D_38, hD_38, h⟩ := sto_s h
  refine r_iastm (pc := 38) X Y (cm_16 bd cI cZ) g_38 hD_38 dX12_reckons_38 (fun H locs Y => ?_)
  refine lv_iload_n (pc := 39) hx hb dX12_reckons_39 rfl (lv_at hl 2 rfl) ?_
  refine lv_iconst (pc := 40) (v := 1) hx hb dX12_reckons_40 (by decide) ?_
  refine lv_iadd (pc := 41) hx hb dX12_reckons_41 ?_
  obtain ⟨v3_42, ev3_42, h⟩ := lt_s_ h
  refine top_i ev3_42 ?_
  refine lv_istore_n (pc := 42) (lv' := [(3, .int v3_42), (0, .ref (bd 0)), (1, .int v1), (2, .int v2)]) hx hb dX12_reckons_42 rfl hl (by decide) rfl (fun ls hl => ?_)
  refine WL_X12_reckons_43 v1 v2 X (fun D_136 H locs ls Y hl h => ?_) FU v3_42 D_38 H locs ls Y (lv_sub hl [1, 2, 3, 0] rfl) h
  refine lv_aload_n (pc := 136) hx hb dX12_reckons_136 rfl (lv_at hl 0 rfl) ?_
  refine gf_X12_59 (pc := 137) X Y dX12_reckons_137 ?_
  refine lv_iload_n (pc := 140) hx hb dX12_reckons_140 rfl (lv_at hl 2 rfl) ?_
  refine lv_aload_n (pc := 141) hx hb dX12_reckons_141 rfl (lv_at hl 0 rfl) ?_
  refine gf_X12_62 (pc := 142) X Y dX12_reckons_142 ?_
  refine lv_iload_n (pc := 145) hx hb dX12_reckons_145 rfl (lv_at hl 2 rfl) ?_
  obtain ⟨g_146, h⟩ := gd_s h
  refine r_ialdm (pc := 146) X Y (cm_17 bd cI cZ) g_146 dX12_reckons_146 ?_
  refine lv_iconst (pc := 147) (v := (-1)) hx hb dX12_reckons_147 (by decide) ?_
  refine lv_icmp_ne (pc := 148) (tgt := 160) hx hb dX12_reckons_148 (by decide) (fun c_148 => ?_) (fun c_148 => ?_)
  · have h := itn c_148 h
    refine lv_aload_n (pc := 160) hx hb dX12_reckons_160 rfl (lv_at hl 0 rfl) ?_
    refine gf_X12_59 (pc := 161) X Y dX12_reckons_161 ?_
    refine lv_aload_n (pc := 164) hx hb dX12_reckons_164 rfl (lv_at hl 0 rfl) ?_
    refine gf_X12_62 (pc := 165) X Y dX12_reckons_165 ?_
    refine lv_iload_n (pc := 168) hx hb dX12_reckons_168 rfl (lv_at hl 2 rfl) ?_
    obtain ⟨g_169, h⟩ := gd_s h
    refine r_ialdm (pc := 169) X Y (cm_17 bd cI cZ) g_169 dX12_reckons_169 ?_
    obtain ⟨g_170, h⟩ := gd_s h
    refine r_ialdm (pc := 170) X Y (cm_16 bd cI cZ) g_170 dX12_reckons_170 ?_
    exact WB_X12_reckons_171 v2 (D_136 16 (D_136 17 v2.toNatClampNeg).toNatClampNeg) v1 v2 D_136 X (kb := kb) hkb Y (lv_sub hl [0, 1, 2] rfl) h
  · have h := itp c_148 h
    refine lv_aload_n (pc := 151) hx hb dX12_reckons_151 rfl (lv_at hl 0 rfl) ?_
    refine gf_X12_59 (pc := 152) X Y dX12_reckons_152 ?_
    refine lv_iload_n (pc := 155) hx hb dX12_reckons_155 rfl (lv_at hl 2 rfl) ?_
    obtain ⟨g_156, h⟩ := gd_s h
    refine r_ialdm (pc := 156) X Y (cm_16 bd cI cZ) g_156 dX12_reckons_156 ?_
    refine lv_goto (pc := 157) (tgt := 171) hx hb dX12_reckons_157 (by decide) ?_
    exact WB_X12_reckons_171 v2 (D_136 16 v2.toNatClampNeg) v1 v2 D_136 X (kb := kb) hkb Y (lv_sub hl [0, 1, 2] rfl) h
set_option maxHeartbeats 4000000 in
set_option maxRecDepth 100000 in
theorem WL_X12_reckons_7 {D9 : Mem} (v1 : Int32) (X : Cx p s m args meth c cX12_reckons RX12 4 (none) dC dI ad bd cI cZ) {kx : Mem → Option Mem} (hkx : ∀ (D' : Mem) (H : Heap) (locs : List Loc) (ls : Array Slot), Ys s dC dI ad bd cI cZ C D' H locs → lv_has ls 4 [] → kx D' = some D9 → W p l e rm_X12_reckons s m args below meth c H locs 0 0 (MQ below (QC (none) dC dI ad bd cI cZ C D9) args s 0 0 (AD ad bd)) (F0 m 178 ls [])) : ∀ (n_ : Nat) (v2 : Int32) (D : Mem) (H : Heap) (locs : List Loc) (ls : Array Slot), Ys s dC dI ad bd cI cZ C D H locs → lv_has ls 4 [(0, .ref (bd 0)), (1, .int v1), (2, .int v2)] → L_X12_reckons_7 v1 kx n_ v2 D = some D9 → W p l e rm_X12_reckons s m args below meth c H locs 0 0 (MQ below (QC (none) dC dI ad bd cI cZ C D9) args s 0 0 (AD ad bd)) (F0 m 7 ls []) := by
  have hx := X.1
  have hb := X.2.1
  intro n_
  induction n_ with
  | zero =>
    intro v2 D H locs ls Y hl h
    cases h
  | succ n_ ih =>
    intro v2 D H locs ls Y hl h
    unfold L_X12_reckons_7 at h
    refine lv_iload_n (pc := 7) hx hb dX12_reckons_7 rfl (lv_at hl 2 rfl) ?_
    refine lv_if_lt (pc := 8) (tgt := 178) hx hb dX12_reckons_8 (by decide) (fun c_8 => ?_) (fun c_8 => ?_)
    · have h := itp c_8 h
      exact hkx D H locs ls Y (lv_sub hl [] rfl) h
    · have h := itn c_8 h
      refine lv_aload_n (pc := 11) hx hb dX12_reckons_11 rfl (lv_at hl 0 rfl) ?_
      refine gf_X12_62 (pc := 12) X Y dX12_reckons_12 ?_
      refine lv_iload_n (pc := 15) hx hb dX12_reckons_15 rfl (lv_at hl 2 rfl) ?_
      refine lv_iconst (pc := 16) (v := (-1)) hx hb dX12_reckons_16 (by decide) ?_
      obtain ⟨g_17, h⟩ := gd_s h
      obtain ⟨D_17, hD_17, h⟩ := sto_s h
      refine r_iastm (pc := 17) X Y (cm_17 bd cI cZ) g_17 hD_17 dX12_reckons_17 (fun H locs Y => ?_)
      refine lv_aload_n (pc := 18) hx hb dX12_reckons_18 rfl (lv_at hl 0 rfl) ?_
      refine gf_X12_59 (pc := 19) X Y dX12_reckons_19 ?_
      refine lv_iload_n (pc := 22) hx hb dX12_reckons_22 rfl (lv_at hl 2 rfl) ?_
      refine lv_aload_n (pc := 23) hx hb dX12_reckons_23 rfl (lv_at hl 0 rfl) ?_
      refine gf_X12_47 (pc := 24) X Y dX12_reckons_24 ?_
      refine lv_iload_n (pc := 27) hx hb dX12_reckons_27 rfl (lv_at hl 2 rfl) ?_
      obtain ⟨g_28, h⟩ := gd_s h
      refine r_ialdm (pc := 28) X Y (cm_12 bd cI cZ) g_28 dX12_reckons_28 ?_
      refine lv_iconst (pc := 29) (v := 3) hx hb dX12_reckons_29 (by decide) ?_
      refine lv_icmp_ne (pc := 30) (tgt := 37) hx hb dX12_reckons_30 (by decide) (fun c_30 => ?_) (fun c_30 => ?_)
      · have h := itn c_30 h
        refine lv_iconst (pc := 37) (v := (-1)) hx hb dX12_reckons_37 (by decide) ?_
        exact WB_X12_reckons_38 v2 (-1) v1 v2 D_17 X (kb := (L_X12_reckons_7 v1 kx n_)) ih Y (lv_sub hl [0, 1, 2] rfl) h
      · have h := itp c_30 h
        refine lv_iload_n (pc := 33) hx hb dX12_reckons_33 rfl (lv_at hl 2 rfl) ?_
        refine lv_goto (pc := 34) (tgt := 38) hx hb dX12_reckons_34 (by decide) ?_
        exact WB_X12_reckons_38 v2 v2 v1 v2 D_17 X (kb := (L_X12_reckons_7 v1 kx n_)) ih Y (lv_sub hl [0, 1, 2] rfl) h
set_option maxHeartbeats 4000000 in
set_option maxRecDepth 100000 in
theorem c_X12_reckons {D9 : Mem} (v1 : Int32) (h : f_X12_reckons v1 D = some D9) : Ct l dC dI ad bd cI cZ yX12_reckons cX12_reckons 4 (none) rm_X12_reckons [.ref (bd 0), .int v1] C D (none) C D9 := by
  unfold f_X12_reckons at h
  refine Ct.intro (own := RX12) (by decide) rfl (Nat.le_of_ble_eq_true rfl) ?_
  intro p e s m args below meth c H locs ls X Y hl
  have hx := X.1
  have hb := X.2.1
  have hl : lv_has ls 4 [(0, .ref (bd 0)), (1, .int v1)] := hl
  refine lv_aload_n (pc := 0) hx hb dX12_reckons_0 rfl (lv_at hl 0 rfl) ?_
  refine gf_X12_212 (pc := 1) X Y dX12_reckons_1 ?_
  refine lv_iconst (pc := 4) (v := 1) hx hb dX12_reckons_4 (by decide) ?_
  refine lv_isub (pc := 5) hx hb dX12_reckons_5 ?_
  obtain ⟨v2_6, ev2_6, h⟩ := lt_s_ h
  refine top_i ev2_6 ?_
  refine lv_istore_n (pc := 6) (lv' := [(2, .int v2_6), (0, .ref (bd 0)), (1, .int v1)]) hx hb dX12_reckons_6 rfl hl (by decide) rfl (fun ls hl => ?_)
  refine WL_X12_reckons_7 v1 X (fun D_178 H locs ls Y hl h => ?_) FU v2_6 D H locs ls Y (lv_sub hl [1, 2, 0] rfl) h
  have hm9 := ret_v h
  exact fin_v (pc := 178) X rfl Y rfl hm9 dX12_reckons_178
abbrev rm_X12_lettersOf : Room := { frames := 0, cells := 0, slots := 0, locals := 0 }
set_option maxHeartbeats 4000000 in
set_option maxRecDepth 100000 in
theorem WB_X12_lettersOf_37 {r9 : Int32} (x0 : Int32) (x1 : Int32) (v1 : Int32) (v3 : Int32) (D : Mem) (X : Cx p s m args meth c cX12_lettersOf RX12 4 (some .int) dC dI ad bd cI cZ) {kb : Int32 → Int32 → Option Int32} (hkb : ∀ (v2' : Int32) (v3' : Int32) (H : Heap) (locs : List Loc) (ls : Array Slot), Ys s dC dI ad bd cI cZ C D H locs → lv_has ls 4 [(0, .ref (bd 0)), (1, .int v1), (2, .int v2'), (3, .int v3')] → kb v2' v3' = some r9 → W p l e rm_X12_lettersOf s m args below meth c H locs 0 0 (MQ below (QC (some (.int r9)) dC dI ad bd cI cZ C D) args s 0 0 (AD ad bd)) (F0 m 4 ls [])) {H : Heap} {locs : List Loc} {ls : Array Slot} (Y : Ys s dC dI ad bd cI cZ C D H locs) (hl : lv_has ls 4 [(0, .ref (bd 0)), (1, .int v1), (3, .int v3)]) (h : B_X12_lettersOf_37 x0 x1 v3 kb = some r9) : W p l e rm_X12_lettersOf s m args below meth c H locs 0 0 (MQ below (QC (some (.int r9)) dC dI ad bd cI cZ C D) args s 0 0 (AD ad bd)) (F0 m 37 ls [.int x1, .int x0]) := by
  have hx := X.1
  have hb := X.2.1
  unfold B_X12_lettersOf_37 at h
  refine lv_iadd (pc := 37) hx hb dX12_lettersOf_37 ?_
  obtain ⟨v2_38, ev2_38, h⟩ := lt_s_ h
  refine top_i ev2_38 ?_
  refine lv_istore_n (pc := 38) (lv' := [(2, .int v2_38), (0, .ref (bd 0)), (1, .int v1), (3, .int v3)]) hx hb dX12_lettersOf_38 rfl hl (by decide) rfl (fun ls hl => ?_)
  obtain ⟨v3_39, ev3_39, h⟩ := lt_s_ h
  refine lv_iinc (pc := 39) (v := v3_39) (lv' := [(3, .int v3_39), (2, .int v2_38), (0, .ref (bd 0)), (1, .int v1)]) hx hb dX12_lettersOf_39 hl (k := 3) rfl (by rw [ev3_39]; rfl) (by decide) rfl (fun ls hl => ?_)
  refine lv_goto (pc := 42) (tgt := 4) hx hb dX12_lettersOf_42 (by decide) ?_
  exact hkb v2_38 v3_39 H locs ls Y (lv_sub hl [2, 3, 1, 0] rfl) h
set_option maxHeartbeats 4000000 in
set_option maxRecDepth 100000 in
theorem WB_X12_lettersOf_28 {r9 : Int32} (x0 : Int32) (x1 : Int32) (v1 : Int32) (v3 : Int32) (D : Mem) (X : Cx p s m args meth c cX12_lettersOf RX12 4 (some .int) dC dI ad bd cI cZ) {kb : Int32 → Int32 → Option Int32} (hkb : ∀ (v2' : Int32) (v3' : Int32) (H : Heap) (locs : List Loc) (ls : Array Slot), Ys s dC dI ad bd cI cZ C D H locs → lv_has ls 4 [(0, .ref (bd 0)), (1, .int v1), (2, .int v2'), (3, .int v3')] → kb v2' v3' = some r9 → W p l e rm_X12_lettersOf s m args below meth c H locs 0 0 (MQ below (QC (some (.int r9)) dC dI ad bd cI cZ C D) args s 0 0 (AD ad bd)) (F0 m 4 ls [])) {H : Heap} {locs : List Loc} {ls : Array Slot} (Y : Ys s dC dI ad bd cI cZ C D H locs) (hl : lv_has ls 4 [(0, .ref (bd 0)), (1, .int v1), (3, .int v3)]) (h : B_X12_lettersOf_28 x0 x1 v1 v3 kb = some r9) : W p l e rm_X12_lettersOf s m args below meth c H locs 0 0 (MQ below (QC (some (.int r9)) dC dI ad bd cI cZ C D) args s 0 0 (AD ad bd)) (F0 m 28 ls [.int x1, .int x0]) := by
  have hx := X.1
  have hb := X.2.1
  unfold B_X12_lettersOf_28 at h
  refine lv_iload_n (pc := 28) hx hb dX12_lettersOf_28 rfl (lv_at hl 1 rfl) ?_
  refine lv_icmp_ne (pc := 29) (tgt := 36) hx hb dX12_lettersOf_29 (by decide) (fun c_29 => ?_) (fun c_29 => ?_)
  · have h := itn c_29 h
    refine lv_iconst (pc := 36) (v := 0) hx hb dX12_lettersOf_36 (by decide) ?_
    exact WB_X12_lettersOf_37 x0 0 v1 v3 D X (kb := kb) hkb Y (lv_sub hl [0, 1, 2] rfl) h
  · have h := itp c_29 h
    refine lv_iconst (pc := 32) (v := 1) hx hb dX12_lettersOf_32 (by decide) ?_
    refine lv_goto (pc := 33) (tgt := 37) hx hb dX12_lettersOf_33 (by decide) ?_
    exact WB_X12_lettersOf_37 x0 1 v1 v3 D X (kb := kb) hkb Y (lv_sub hl [0, 1, 2] rfl) h
set_option maxHeartbeats 4000000 in
set_option maxRecDepth 100000 in
theorem WL_X12_lettersOf_4 {r9 : Int32} (v1 : Int32) (D : Mem) (X : Cx p s m args meth c cX12_lettersOf RX12 4 (some .int) dC dI ad bd cI cZ) {kx : Int32 → Option Int32} (hkx : ∀ (v2' : Int32) (H : Heap) (locs : List Loc) (ls : Array Slot), Ys s dC dI ad bd cI cZ C D H locs → lv_has ls 4 [(2, .int v2')] → kx v2' = some r9 → W p l e rm_X12_lettersOf s m args below meth c H locs 0 0 (MQ below (QC (some (.int r9)) dC dI ad bd cI cZ C D) args s 0 0 (AD ad bd)) (F0 m 45 ls [])) : ∀ (n_ : Nat) (v2 : Int32) (v3 : Int32) (H : Heap) (locs : List Loc) (ls : Array Slot), Ys s dC dI ad bd cI cZ C D H locs → lv_has ls 4 [(0, .ref (bd 0)), (1, .int v1), (2, .int v2), (3, .int v3)] → L_X12_lettersOf_4 v1 D kx n_ v2 v3 = some r9 → W p l e rm_X12_lettersOf s m args below meth c H locs 0 0 (MQ below (QC (some (.int r9)) dC dI ad bd cI cZ C D) args s 0 0 (AD ad bd)) (F0 m 4 ls []) := by
  have hx := X.1
  have hb := X.2.1
  intro n_
  induction n_ with
  | zero =>
    intro v2 v3 H locs ls Y hl h
    cases h
  | succ n_ ih =>
    intro v2 v3 H locs ls Y hl h
    unfold L_X12_lettersOf_4 at h
    refine lv_iload_n (pc := 4) hx hb dX12_lettersOf_4 rfl (lv_at hl 3 rfl) ?_
    refine lv_aload_n (pc := 5) hx hb dX12_lettersOf_5 rfl (lv_at hl 0 rfl) ?_
    refine gf_X12_212 (pc := 6) X Y dX12_lettersOf_6 ?_
    refine lv_icmp_ge (pc := 9) (tgt := 45) hx hb dX12_lettersOf_9 (by decide) (fun c_9 => ?_) (fun c_9 => ?_)
    · have h := itp c_9 h
      exact hkx v2 H locs ls Y (lv_sub hl [2] rfl) h
    · have h := itn c_9 h
      refine lv_iload_n (pc := 12) hx hb dX12_lettersOf_12 rfl (lv_at hl 2 rfl) ?_
      refine lv_aload_n (pc := 13) hx hb dX12_lettersOf_13 rfl (lv_at hl 0 rfl) ?_
      refine gf_X12_47 (pc := 14) X Y dX12_lettersOf_14 ?_
      refine lv_iload_n (pc := 17) hx hb dX12_lettersOf_17 rfl (lv_at hl 3 rfl) ?_
      obtain ⟨g_18, h⟩ := gd_s h
      refine r_ialdm (pc := 18) X Y (cm_12 bd cI cZ) g_18 dX12_lettersOf_18 ?_
      refine lv_iconst (pc := 19) (v := 3) hx hb dX12_lettersOf_19 (by decide) ?_
      refine lv_icmp_ne (pc := 20) (tgt := 27) hx hb dX12_lettersOf_20 (by decide) (fun c_20 => ?_) (fun c_20 => ?_)
      · have h := itn c_20 h
        refine lv_iconst (pc := 27) (v := 0) hx hb dX12_lettersOf_27 (by decide) ?_
        exact WB_X12_lettersOf_28 v2 0 v1 v3 D X (kb := (L_X12_lettersOf_4 v1 D kx n_)) ih Y (lv_sub hl [0, 1, 3] rfl) h
      · have h := itp c_20 h
        refine lv_iconst (pc := 23) (v := 1) hx hb dX12_lettersOf_23 (by decide) ?_
        refine lv_goto (pc := 24) (tgt := 28) hx hb dX12_lettersOf_24 (by decide) ?_
        exact WB_X12_lettersOf_28 v2 1 v1 v3 D X (kb := (L_X12_lettersOf_4 v1 D kx n_)) ih Y (lv_sub hl [0, 1, 3] rfl) h
set_option maxHeartbeats 4000000 in
set_option maxRecDepth 100000 in
theorem c_X12_lettersOf {r9 : Int32} (v1 : Int32) (h : f_X12_lettersOf v1 D = some r9) : Ct l dC dI ad bd cI cZ yX12_lettersOf cX12_lettersOf 4 (some .int) rm_X12_lettersOf [.ref (bd 0), .int v1] C D (some (.int r9)) C D := by
  unfold f_X12_lettersOf at h
  refine Ct.intro (own := RX12) (by decide) rfl (Nat.le_of_ble_eq_true rfl) ?_
  intro p e s m args below meth c H locs ls X Y hl
  have hx := X.1
  have hb := X.2.1
  have hl : lv_has ls 4 [(0, .ref (bd 0)), (1, .int v1)] := hl
  refine lv_iconst (pc := 0) (v := 0) hx hb dX12_lettersOf_0 (by decide) ?_
  refine lv_istore_n (pc := 1) (lv' := [(2, .int 0), (0, .ref (bd 0)), (1, .int v1)]) hx hb dX12_lettersOf_1 rfl hl (by decide) rfl (fun ls hl => ?_)
  refine lv_iconst (pc := 2) (v := 0) hx hb dX12_lettersOf_2 (by decide) ?_
  refine lv_istore_n (pc := 3) (lv' := [(3, .int 0), (2, .int 0), (0, .ref (bd 0)), (1, .int v1)]) hx hb dX12_lettersOf_3 rfl hl (by decide) rfl (fun ls hl => ?_)
  refine WL_X12_lettersOf_4 v1 D X (fun v2_45 H locs ls Y hl h => ?_) FU 0 0 H locs ls Y (lv_sub hl [2, 3, 1, 0] rfl) h
  refine lv_iload_n (pc := 45) hx hb dX12_lettersOf_45 rfl (lv_at hl 0 rfl) ?_
  have hr9 := ret_p h
  exact fin_i (pc := 46) X rfl Y hr9 rfl rfl dX12_lettersOf_46
abbrev rm_X12_wayOf : Room := { frames := 0, cells := 0, slots := 0, locals := 0 }
set_option maxHeartbeats 4000000 in
set_option maxRecDepth 100000 in
theorem WL_X12_wayOf_4 {r9 : Int32} (D : Mem) (X : Cx p s m args meth c cX12_wayOf RX12 3 (some .int) dC dI ad bd cI cZ) {kx : Int32 → Option Int32} (hkx : ∀ (v1' : Int32) (H : Heap) (locs : List Loc) (ls : Array Slot), Ys s dC dI ad bd cI cZ C D H locs → lv_has ls 3 [(1, .int v1')] → kx v1' = some r9 → W p l e rm_X12_wayOf s m args below meth c H locs 0 0 (MQ below (QC (some (.int r9)) dC dI ad bd cI cZ C D) args s 0 0 (AD ad bd)) (F0 m 27 ls [])) : ∀ (n_ : Nat) (v1 : Int32) (v2 : Int32) (H : Heap) (locs : List Loc) (ls : Array Slot), Ys s dC dI ad bd cI cZ C D H locs → lv_has ls 3 [(0, .ref (bd 0)), (1, .int v1), (2, .int v2)] → L_X12_wayOf_4 D kx n_ v1 v2 = some r9 → W p l e rm_X12_wayOf s m args below meth c H locs 0 0 (MQ below (QC (some (.int r9)) dC dI ad bd cI cZ C D) args s 0 0 (AD ad bd)) (F0 m 4 ls []) := by
  have hx := X.1
  have hb := X.2.1
  intro n_
  induction n_ with
  | zero =>
    intro v1 v2 H locs ls Y hl h
    cases h
  | succ n_ ih =>
    intro v1 v2 H locs ls Y hl h
    unfold L_X12_wayOf_4 at h
    refine lv_aload_n (pc := 4) hx hb dX12_wayOf_4 rfl (lv_at hl 0 rfl) ?_
    refine gf_X12_62 (pc := 5) X Y dX12_wayOf_5 ?_
    refine lv_iload_n (pc := 8) hx hb dX12_wayOf_8 rfl (lv_at hl 2 rfl) ?_
    obtain ⟨g_9, h⟩ := gd_s h
    refine r_ialdm (pc := 9) X Y (cm_17 bd cI cZ) g_9 dX12_wayOf_9 ?_
    refine lv_iconst (pc := 10) (v := (-1)) hx hb dX12_wayOf_10 (by decide) ?_
    refine lv_icmp_eq (pc := 11) (tgt := 27) hx hb dX12_wayOf_11 (by decide) (fun c_11 => ?_) (fun c_11 => ?_)
    · have h := itp c_11 h
      exact hkx v1 H locs ls Y (lv_sub hl [1] rfl) h
    · have h := itn c_11 h
      refine lv_aload_n (pc := 14) hx hb dX12_wayOf_14 rfl (lv_at hl 0 rfl) ?_
      refine gf_X12_62 (pc := 15) X Y dX12_wayOf_15 ?_
      refine lv_iload_n (pc := 18) hx hb dX12_wayOf_18 rfl (lv_at hl 2 rfl) ?_
      obtain ⟨g_19, h⟩ := gd_s h
      refine r_ialdm (pc := 19) X Y (cm_17 bd cI cZ) g_19 dX12_wayOf_19 ?_
      obtain ⟨v2_20, ev2_20, h⟩ := lt_s_ h
      refine top_i ev2_20 ?_
      refine lv_istore_n (pc := 20) (lv' := [(2, .int v2_20), (0, .ref (bd 0)), (1, .int v1)]) hx hb dX12_wayOf_20 rfl hl (by decide) rfl (fun ls hl => ?_)
      obtain ⟨v1_21, ev1_21, h⟩ := lt_s_ h
      refine lv_iinc (pc := 21) (v := v1_21) (lv' := [(1, .int v1_21), (2, .int v2_20), (0, .ref (bd 0))]) hx hb dX12_wayOf_21 hl (k := 2) rfl (by rw [ev1_21]; rfl) (by decide) rfl (fun ls hl => ?_)
      refine lv_goto (pc := 24) (tgt := 4) hx hb dX12_wayOf_24 (by decide) ?_
      exact ih v1_21 v2_20 H locs ls Y (lv_sub hl [2, 0, 1] rfl) h
set_option maxHeartbeats 4000000 in
set_option maxRecDepth 100000 in
theorem c_X12_wayOf {r9 : Int32} (h : f_X12_wayOf D = some r9) : Ct l dC dI ad bd cI cZ yX12_wayOf cX12_wayOf 3 (some .int) rm_X12_wayOf [.ref (bd 0)] C D (some (.int r9)) C D := by
  unfold f_X12_wayOf at h
  refine Ct.intro (own := RX12) (by decide) rfl (Nat.le_of_ble_eq_true rfl) ?_
  intro p e s m args below meth c H locs ls X Y hl
  have hx := X.1
  have hb := X.2.1
  have hl : lv_has ls 3 [(0, .ref (bd 0))] := hl
  refine lv_iconst (pc := 0) (v := 0) hx hb dX12_wayOf_0 (by decide) ?_
  refine lv_istore_n (pc := 1) (lv' := [(1, .int 0), (0, .ref (bd 0))]) hx hb dX12_wayOf_1 rfl hl (by decide) rfl (fun ls hl => ?_)
  refine lv_iconst (pc := 2) (v := 0) hx hb dX12_wayOf_2 (by decide) ?_
  refine lv_istore_n (pc := 3) (lv' := [(2, .int 0), (1, .int 0), (0, .ref (bd 0))]) hx hb dX12_wayOf_3 rfl hl (by decide) rfl (fun ls hl => ?_)
  refine WL_X12_wayOf_4 D X (fun v1_27 H locs ls Y hl h => ?_) FU 0 0 H locs ls Y (lv_sub hl [2, 1, 0] rfl) h
  refine lv_iload_n (pc := 27) hx hb dX12_wayOf_27 rfl (lv_at hl 0 rfl) ?_
  have hr9 := ret_p h
  exact fin_i (pc := 28) X rfl Y hr9 rfl rfl dX12_wayOf_28
abbrev rm_X12_reckonNow : Room := { frames := 2, cells := 0, slots := 0, locals := 49 }
set_option maxHeartbeats 4000000 in
set_option maxRecDepth 100000 in
theorem WB_X12_reckonNow_62 {r9 : Int32} {D9 : Mem} (x1 : Int32) (D : Mem) (X : Cx p s m args meth c cX12_reckonNow RX12 3 (some .int) dC dI ad bd cI cZ) {H : Heap} {locs : List Loc} {ls : Array Slot} (Y : Ys s dC dI ad bd cI cZ C D H locs) (hl : lv_has ls 3 []) (h : B_X12_reckonNow_62 x1 D = some (r9, D9)) : W p l e rm_X12_reckonNow s m args below meth c H locs 0 0 (MQ below (QC (some (.int r9)) dC dI ad bd cI cZ C D9) args s 0 0 (AD ad bd)) (F0 m 62 ls [.int x1, .ref (bd 0)]) := by
  have hx := X.1
  have hb := X.2.1
  unfold B_X12_reckonNow_62 at h
  obtain ⟨r_62, e_62, h⟩ := bnd_s h
  refine call_vi (pc := 62) (rest := []) [.int x1] X Y (c_X12_lettersOf x1 e_62) sw_X12_236 (rv_X12 X Y) rfl ⟨rfl, rfl, Nat.le_of_ble_eq_true rfl, Nat.le_of_ble_eq_true rfl⟩ hl rfl (Nat.le_of_ble_eq_true rfl) dX12_reckonNow_62 (fun H locs Y => ?_)
  obtain ⟨hr9, hm9⟩ := ret_e h
  exact fin_i (pc := 65) X rfl Y hr9 rfl hm9 dX12_reckonNow_65
set_option maxHeartbeats 4000000 in
set_option maxRecDepth 100000 in
theorem c_X12_reckonNow {r9 : Int32} {D9 : Mem} (v1 : Int32) (v2 : Int32) (h : f_X12_reckonNow v1 v2 D = some (r9, D9)) : Ct l dC dI ad bd cI cZ yX12_reckonNow cX12_reckonNow 3 (some .int) rm_X12_reckonNow [.ref (bd 0), .int v1, .int v2] C D (some (.int r9)) C D9 := by
  unfold f_X12_reckonNow at h
  refine Ct.intro (own := RX12) (by decide) rfl (Nat.le_of_ble_eq_true rfl) ?_
  intro p e s m args below meth c H locs ls X Y hl
  have hx := X.1
  have hb := X.2.1
  have hl : lv_has ls 3 [(0, .ref (bd 0)), (1, .int v1), (2, .int v2)] := hl
  refine lv_aload_n (pc := 0) hx hb dX12_reckonNow_0 rfl (lv_at hl 0 rfl) ?_
  obtain ⟨r_1, D_1, e_1, h⟩ := bnd2_s h
  refine call_vi (pc := 1) (rest := []) [] X Y (c_X12_faultNow  e_1) sw_X12_222 (rv_X12 X Y) rfl ⟨rfl, rfl, Nat.le_of_ble_eq_true rfl, Nat.le_of_ble_eq_true rfl⟩ hl rfl (Nat.le_of_ble_eq_true rfl) dX12_reckonNow_1 (fun H locs Y => ?_)
  refine lv_iconst (pc := 4) (v := (-1)) hx hb dX12_reckonNow_4 (by decide) ?_
  refine lv_icmp_eq (pc := 5) (tgt := 11) hx hb dX12_reckonNow_5 (by decide) (fun c_5 => ?_) (fun c_5 => ?_)
  · have h := itp c_5 h
    refine lv_aload_n (pc := 11) hx hb dX12_reckonNow_11 rfl (lv_at hl 0 rfl) ?_
    refine lv_iload_n (pc := 12) hx hb dX12_reckonNow_12 rfl (lv_at hl 1 rfl) ?_
    obtain ⟨D_13, e_13, h⟩ := bnd_s h
    refine call_vv (pc := 13) (rest := []) [.int v1] X Y (c_X12_reckons v1 e_13) sw_X12_229 (rv_X12 X Y) rfl ⟨rfl, rfl, Nat.le_of_ble_eq_true rfl, Nat.le_of_ble_eq_true rfl⟩ hl rfl (Nat.le_of_ble_eq_true rfl) dX12_reckonNow_13 (fun H locs Y => ?_)
    refine lv_iload_n (pc := 16) hx hb dX12_reckonNow_16 rfl (lv_at hl 2 rfl) ?_
    refine lv_iconst (pc := 17) (v := 3) hx hb dX12_reckonNow_17 (by decide) ?_
    refine lv_icmp_ge (pc := 18) (tgt := 39) hx hb dX12_reckonNow_18 (by decide) (fun c_18 => ?_) (fun c_18 => ?_)
    · have h := itp c_18 h
      refine lv_iload_n (pc := 39) hx hb dX12_reckonNow_39 rfl (lv_at hl 2 rfl) ?_
      refine lv_iconst (pc := 40) (v := 3) hx hb dX12_reckonNow_40 (by decide) ?_
      refine lv_icmp_ne (pc := 41) (tgt := 51) hx hb dX12_reckonNow_41 (by decide) (fun c_41 => ?_) (fun c_41 => ?_)
      · have h := itn c_41 h
        refine lv_aload_n (pc := 51) hx hb dX12_reckonNow_51 rfl (lv_at hl 0 rfl) ?_
        refine lv_iload_n (pc := 52) hx hb dX12_reckonNow_52 rfl (lv_at hl 2 rfl) ?_
        refine lv_iconst (pc := 53) (v := 4) hx hb dX12_reckonNow_53 (by decide) ?_
        refine lv_icmp_ne (pc := 54) (tgt := 61) hx hb dX12_reckonNow_54 (by decide) (fun c_54 => ?_) (fun c_54 => ?_)
        · have h := itn c_54 h
          refine lv_iconst (pc := 61) (v := 0) hx hb dX12_reckonNow_61 (by decide) ?_
          exact WB_X12_reckonNow_62 0 D_13 X Y (lv_sub hl [] rfl) h
        · have h := itp c_54 h
          refine lv_iconst (pc := 57) (v := 1) hx hb dX12_reckonNow_57 (by decide) ?_
          refine lv_goto (pc := 58) (tgt := 62) hx hb dX12_reckonNow_58 (by decide) ?_
          exact WB_X12_reckonNow_62 1 D_13 X Y (lv_sub hl [] rfl) h
      · have h := itp c_41 h
        refine lv_aload_n (pc := 44) hx hb dX12_reckonNow_44 rfl (lv_at hl 0 rfl) ?_
        obtain ⟨r_45, e_45, h⟩ := bnd_s h
        refine call_vi (pc := 45) (rest := []) [] X Y (c_X12_wayOf  e_45) sw_X12_233 (rv_X12 X Y) rfl ⟨rfl, rfl, Nat.le_of_ble_eq_true rfl, Nat.le_of_ble_eq_true rfl⟩ hl rfl (Nat.le_of_ble_eq_true rfl) dX12_reckonNow_45 (fun H locs Y => ?_)
        refine lv_goto (pc := 48) (tgt := 65) hx hb dX12_reckonNow_48 (by decide) ?_
        obtain ⟨hr9, hm9⟩ := ret_e h
        exact fin_i (pc := 65) X rfl Y hr9 rfl hm9 dX12_reckonNow_65
    · have h := itn c_18 h
      refine lv_aload_n (pc := 21) hx hb dX12_reckonNow_21 rfl (lv_at hl 0 rfl) ?_
      refine gf_X12_65 (pc := 22) X Y dX12_reckonNow_22 ?_
      refine lv_iconst (pc := 25) (v := 3) hx hb dX12_reckonNow_25 (by decide) ?_
      refine lv_aload_n (pc := 26) hx hb dX12_reckonNow_26 rfl (lv_at hl 0 rfl) ?_
      refine gf_X12_59 (pc := 27) X Y dX12_reckonNow_27 ?_
      refine lv_iconst (pc := 30) (v := 0) hx hb dX12_reckonNow_30 (by decide) ?_
      obtain ⟨g_31, h⟩ := gd_s h
      refine r_ialdm (pc := 31) X Y (cm_16 bd cI cZ) g_31 dX12_reckonNow_31 ?_
      refine lv_imul (pc := 32) hx hb dX12_reckonNow_32 ?_
      refine lv_iload_n (pc := 33) hx hb dX12_reckonNow_33 rfl (lv_at hl 2 rfl) ?_
      refine lv_iadd (pc := 34) hx hb dX12_reckonNow_34 ?_
      obtain ⟨g_35, h⟩ := gd_s h
      refine r_ialdm (pc := 35) X Y (cm_18 bd cI cZ) g_35 dX12_reckonNow_35 ?_
      refine lv_goto (pc := 36) (tgt := 65) hx hb dX12_reckonNow_36 (by decide) ?_
      obtain ⟨hr9, hm9⟩ := ret_e h
      exact fin_i (pc := 65) X rfl Y hr9 rfl hm9 dX12_reckonNow_65
  · have h := itn c_5 h
    refine lv_bipush (pc := 8) (v := (-3)) hx hb dX12_reckonNow_8 (by decide) ?_
    obtain ⟨hr9, hm9⟩ := ret_e h
    exact fin_i (pc := 10) X rfl Y hr9 rfl hm9 dX12_reckonNow_10
abbrev rm_X12_reckon : Room := { frames := 3, cells := 0, slots := 0, locals := 71 }
set_option maxHeartbeats 4000000 in
set_option maxRecDepth 100000 in
theorem c_X12_reckon {r9 : Int32} {D9 : Mem} (v1 : Int32) (v2 : Int32) (h : f_X12_reckon v1 v2 D = some (r9, D9)) : Ct l dC dI ad bd cI cZ yX12_reckon cX12_reckon 3 (some .int) rm_X12_reckon [.ref (bd 0), .int v1, .int v2] C D (some (.int r9)) C D9 := by
  unfold f_X12_reckon at h
  refine Ct.intro (own := RX12) (by decide) rfl (Nat.le_of_ble_eq_true rfl) ?_
  intro p e s m args below meth c H locs ls X Y hl
  have hx := X.1
  have hb := X.2.1
  have hl : lv_has ls 3 [(0, .ref (bd 0)), (1, .int v1), (2, .int v2)] := hl
  refine lv_iload_n (pc := 0) hx hb dX12_reckon_0 rfl (lv_at hl 1 rfl) ?_
  refine lv_iconst (pc := 1) (v := 0) hx hb dX12_reckon_1 (by decide) ?_
  refine lv_bipush (pc := 2) (v := 40) hx hb dX12_reckon_2 (by decide) ?_
  refine call_si (pc := 4) (rest := []) [.int v1, .int 0, .int 40] X Y (c_X12_in v1 0 40) sw_X12_107 rfl ⟨rfl, rfl, Nat.le_of_ble_eq_true rfl, Nat.le_of_ble_eq_true rfl⟩ hl rfl (Nat.le_of_ble_eq_true rfl) dX12_reckon_4 (fun H locs Y => ?_)
  refine lv_if_eq (pc := 7) (tgt := 28) hx hb dX12_reckon_7 (by decide) (fun c_7 => ?_) (fun c_7 => ?_)
  · have h := itn (b2i_f c_7) h
    refine lv_bipush (pc := 28) (v := (-2)) hx hb dX12_reckon_28 (by decide) ?_
    obtain ⟨hr9, hm9⟩ := ret_e h
    exact fin_i (pc := 30) X rfl Y hr9 rfl hm9 dX12_reckon_30
  · have h := itp (b2i_t c_7) h
    refine lv_iload_n (pc := 10) hx hb dX12_reckon_10 rfl (lv_at hl 2 rfl) ?_
    refine lv_iconst (pc := 11) (v := 0) hx hb dX12_reckon_11 (by decide) ?_
    refine lv_iconst (pc := 12) (v := 5) hx hb dX12_reckon_12 (by decide) ?_
    refine call_si (pc := 13) (rest := []) [.int v2, .int 0, .int 5] X Y (c_X12_in v2 0 5) sw_X12_107 rfl ⟨rfl, rfl, Nat.le_of_ble_eq_true rfl, Nat.le_of_ble_eq_true rfl⟩ hl rfl (Nat.le_of_ble_eq_true rfl) dX12_reckon_13 (fun H locs Y => ?_)
    refine lv_if_eq (pc := 16) (tgt := 28) hx hb dX12_reckon_16 (by decide) (fun c_16 => ?_) (fun c_16 => ?_)
    · have h := itn (b2i_f c_16) h
      refine lv_bipush (pc := 28) (v := (-2)) hx hb dX12_reckon_28 (by decide) ?_
      obtain ⟨hr9, hm9⟩ := ret_e h
      exact fin_i (pc := 30) X rfl Y hr9 rfl hm9 dX12_reckon_30
    · have h := itp (b2i_t c_16) h
      refine lv_aload_n (pc := 19) hx hb dX12_reckon_19 rfl (lv_at hl 0 rfl) ?_
      refine lv_iload_n (pc := 20) hx hb dX12_reckon_20 rfl (lv_at hl 1 rfl) ?_
      refine lv_iload_n (pc := 21) hx hb dX12_reckon_21 rfl (lv_at hl 2 rfl) ?_
      obtain ⟨r_22, D_22, e_22, h⟩ := bnd2_s h
      refine call_vi (pc := 22) (rest := []) [.int v1, .int v2] X Y (c_X12_reckonNow v1 v2 e_22) sw_X12_240 (rv_X12 X Y) rfl ⟨rfl, rfl, Nat.le_of_ble_eq_true rfl, Nat.le_of_ble_eq_true rfl⟩ hl rfl (Nat.le_of_ble_eq_true rfl) dX12_reckon_22 (fun H locs Y => ?_)
      refine lv_goto (pc := 25) (tgt := 30) hx hb dX12_reckon_25 (by decide) ?_
      obtain ⟨hr9, hm9⟩ := ret_e h
      exact fin_i (pc := 30) X rfl Y hr9 rfl hm9 dX12_reckon_30
abbrev rm_X12_how : Room := { frames := 2, cells := 0, slots := 0, locals := 49 }
set_option maxHeartbeats 4000000 in
set_option maxRecDepth 100000 in
theorem WL_X12_how_48 {r9 : Int32} {D9 : Mem} (v2 : Int32) (D : Mem) (X : Cx p s m args meth c cX12_how RX12 5 (some .int) dC dI ad bd cI cZ) {kx : Int32 → Option (Int32 × Mem)} (hkx : ∀ (v3' : Int32) (H : Heap) (locs : List Loc) (ls : Array Slot), Ys s dC dI ad bd cI cZ C D H locs → lv_has ls 5 [(0, .ref (bd 0)), (3, .int v3')] → kx v3' = some (r9, D9) → W p l e rm_X12_how s m args below meth c H locs 0 0 (MQ below (QC (some (.int r9)) dC dI ad bd cI cZ C D9) args s 0 0 (AD ad bd)) (F0 m 67 ls [])) : ∀ (n_ : Nat) (v3 : Int32) (v4 : Int32) (H : Heap) (locs : List Loc) (ls : Array Slot), Ys s dC dI ad bd cI cZ C D H locs → lv_has ls 5 [(0, .ref (bd 0)), (2, .int v2), (3, .int v3), (4, .int v4)] → L_X12_how_48 v2 D kx n_ v3 v4 = some (r9, D9) → W p l e rm_X12_how s m args below meth c H locs 0 0 (MQ below (QC (some (.int r9)) dC dI ad bd cI cZ C D9) args s 0 0 (AD ad bd)) (F0 m 48 ls []) := by
  have hx := X.1
  have hb := X.2.1
  intro n_
  induction n_ with
  | zero =>
    intro v3 v4 H locs ls Y hl h
    cases h
  | succ n_ ih =>
    intro v3 v4 H locs ls Y hl h
    unfold L_X12_how_48 at h
    refine lv_iload (pc := 48) hx hb dX12_how_48 (lv_at hl 3 rfl) ?_
    refine lv_iload_n (pc := 50) hx hb dX12_how_50 rfl (lv_at hl 1 rfl) ?_
    refine lv_icmp_ge (pc := 51) (tgt := 67) hx hb dX12_how_51 (by decide) (fun c_51 => ?_) (fun c_51 => ?_)
    · have h := itp c_51 h
      exact hkx v3 H locs ls Y (lv_sub hl [0, 2] rfl) h
    · have h := itn c_51 h
      refine lv_aload_n (pc := 54) hx hb dX12_how_54 rfl (lv_at hl 0 rfl) ?_
      refine gf_X12_62 (pc := 55) X Y dX12_how_55 ?_
      refine lv_iload_n (pc := 58) hx hb dX12_how_58 rfl (lv_at hl 2 rfl) ?_
      obtain ⟨g_59, h⟩ := gd_s h
      refine r_ialdm (pc := 59) X Y (cm_17 bd cI cZ) g_59 dX12_how_59 ?_
      obtain ⟨v3_60, ev3_60, h⟩ := lt_s_ h
      refine top_i ev3_60 ?_
      refine lv_istore_n (pc := 60) (lv' := [(3, .int v3_60), (0, .ref (bd 0)), (2, .int v2), (4, .int v4)]) hx hb dX12_how_60 rfl hl (by decide) rfl (fun ls hl => ?_)
      obtain ⟨v4_61, ev4_61, h⟩ := lt_s_ h
      refine lv_iinc (pc := 61) (v := v4_61) (lv' := [(4, .int v4_61), (3, .int v3_60), (0, .ref (bd 0)), (2, .int v2)]) hx hb dX12_how_61 hl (k := 3) rfl (by rw [ev4_61]; rfl) (by decide) rfl (fun ls hl => ?_)
      refine lv_goto (pc := 64) (tgt := 48) hx hb dX12_how_64 (by decide) ?_
      exact ih v3_60 v4_61 H locs ls Y (lv_sub hl [2, 3, 1, 0] rfl) h
set_option maxHeartbeats 4000000 in
set_option maxRecDepth 100000 in
theorem c_X12_how {r9 : Int32} {D9 : Mem} (v1 : Int32) (v2 : Int32) (h : f_X12_how v1 v2 D = some (r9, D9)) : Ct l dC dI ad bd cI cZ yX12_how cX12_how 5 (some .int) rm_X12_how [.ref (bd 0), .int v1, .int v2] C D (some (.int r9)) C D9 := by
  unfold f_X12_how at h
  refine Ct.intro (own := RX12) (by decide) rfl (Nat.le_of_ble_eq_true rfl) ?_
  intro p e s m args below meth c H locs ls X Y hl
  have hx := X.1
  have hb := X.2.1
  have hl : lv_has ls 5 [(0, .ref (bd 0)), (1, .int v1), (2, .int v2)] := hl
  refine lv_iload_n (pc := 0) hx hb dX12_how_0 rfl (lv_at hl 1 rfl) ?_
  refine lv_iconst (pc := 1) (v := 0) hx hb dX12_how_1 (by decide) ?_
  refine lv_bipush (pc := 2) (v := 40) hx hb dX12_how_2 (by decide) ?_
  refine call_si (pc := 4) (rest := []) [.int v1, .int 0, .int 40] X Y (c_X12_in v1 0 40) sw_X12_107 rfl ⟨rfl, rfl, Nat.le_of_ble_eq_true rfl, Nat.le_of_ble_eq_true rfl⟩ hl rfl (Nat.le_of_ble_eq_true rfl) dX12_how_4 (fun H locs Y => ?_)
  refine lv_if_eq (pc := 7) (tgt := 14) hx hb dX12_how_7 (by decide) (fun c_7 => ?_) (fun c_7 => ?_)
  · have h := itn (b2i_f c_7) h
    refine lv_bipush (pc := 14) (v := (-2)) hx hb dX12_how_14 (by decide) ?_
    obtain ⟨hr9, hm9⟩ := ret_e h
    exact fin_i (pc := 16) X rfl Y hr9 rfl hm9 dX12_how_16
  · have h := itp (b2i_t c_7) h
    refine lv_iload_n (pc := 10) hx hb dX12_how_10 rfl (lv_at hl 2 rfl) ?_
    refine lv_if_ge (pc := 11) (tgt := 17) hx hb dX12_how_11 (by decide) (fun c_11 => ?_) (fun c_11 => ?_)
    · have h := itp c_11 h
      refine lv_aload_n (pc := 17) hx hb dX12_how_17 rfl (lv_at hl 0 rfl) ?_
      obtain ⟨r_18, D_18, e_18, h⟩ := bnd2_s h
      refine call_vi (pc := 18) (rest := []) [] X Y (c_X12_faultNow  e_18) sw_X12_222 (rv_X12 X Y) rfl ⟨rfl, rfl, Nat.le_of_ble_eq_true rfl, Nat.le_of_ble_eq_true rfl⟩ hl rfl (Nat.le_of_ble_eq_true rfl) dX12_how_18 (fun H locs Y => ?_)
      refine lv_iconst (pc := 21) (v := (-1)) hx hb dX12_how_21 (by decide) ?_
      refine lv_icmp_eq (pc := 22) (tgt := 28) hx hb dX12_how_22 (by decide) (fun c_22 => ?_) (fun c_22 => ?_)
      · have h := itp c_22 h
        refine lv_aload_n (pc := 28) hx hb dX12_how_28 rfl (lv_at hl 0 rfl) ?_
        refine lv_iload_n (pc := 29) hx hb dX12_how_29 rfl (lv_at hl 1 rfl) ?_
        obtain ⟨D_30, e_30, h⟩ := bnd_s h
        refine call_vv (pc := 30) (rest := []) [.int v1] X Y (c_X12_reckons v1 e_30) sw_X12_229 (rv_X12 X Y) rfl ⟨rfl, rfl, Nat.le_of_ble_eq_true rfl, Nat.le_of_ble_eq_true rfl⟩ hl rfl (Nat.le_of_ble_eq_true rfl) dX12_how_30 (fun H locs Y => ?_)
        refine lv_iload_n (pc := 33) hx hb dX12_how_33 rfl (lv_at hl 2 rfl) ?_
        refine lv_aload_n (pc := 34) hx hb dX12_how_34 rfl (lv_at hl 0 rfl) ?_
        obtain ⟨r_35, e_35, h⟩ := bnd_s h
        refine call_vi (pc := 35) (rest := [.int v2]) [] X Y (c_X12_wayOf  e_35) sw_X12_233 (rv_X12 X Y) rfl ⟨rfl, rfl, Nat.le_of_ble_eq_true rfl, Nat.le_of_ble_eq_true rfl⟩ hl rfl (Nat.le_of_ble_eq_true rfl) dX12_how_35 (fun H locs Y => ?_)
        refine lv_icmp_lt (pc := 38) (tgt := 43) hx hb dX12_how_38 (by decide) (fun c_38 => ?_) (fun c_38 => ?_)
        · have h := itp c_38 h
          refine lv_iconst (pc := 43) (v := 0) hx hb dX12_how_43 (by decide) ?_
          refine lv_istore_n (pc := 44) (lv' := [(3, .int 0), (0, .ref (bd 0)), (1, .int v1), (2, .int v2)]) hx hb dX12_how_44 rfl hl (by decide) rfl (fun ls hl => ?_)
          refine lv_iconst (pc := 45) (v := 0) hx hb dX12_how_45 (by decide) ?_
          refine lv_istore (pc := 46) (lv' := [(4, .int 0), (3, .int 0), (0, .ref (bd 0)), (1, .int v1), (2, .int v2)]) hx hb dX12_how_46 hl (by decide) rfl (fun ls hl => ?_)
          refine WL_X12_how_48 v2 D_30 X (fun v3_67 H locs ls Y hl h => ?_) FU 0 0 H locs ls Y (lv_sub hl [2, 4, 1, 0] rfl) h
          refine lv_aload_n (pc := 67) hx hb dX12_how_67 rfl (lv_at hl 0 rfl) ?_
          refine gf_X12_53 (pc := 68) X Y dX12_how_68 ?_
          refine lv_aload_n (pc := 71) hx hb dX12_how_71 rfl (lv_at hl 0 rfl) ?_
          refine gf_X12_62 (pc := 72) X Y dX12_how_72 ?_
          refine lv_iload_n (pc := 75) hx hb dX12_how_75 rfl (lv_at hl 1 rfl) ?_
          obtain ⟨g_76, h⟩ := gd_s h
          refine r_ialdm (pc := 76) X Y (cm_17 bd cI cZ) g_76 dX12_how_76 ?_
          obtain ⟨g_77, h⟩ := gd_s h
          refine r_ialdm (pc := 77) X Y (cm_14 bd cI cZ) g_77 dX12_how_77 ?_
          obtain ⟨hr9, hm9⟩ := ret_e h
          exact fin_i (pc := 78) X rfl Y hr9 rfl hm9 dX12_how_78
        · have h := itn c_38 h
          refine lv_iconst (pc := 41) (v := (-1)) hx hb dX12_how_41 (by decide) ?_
          obtain ⟨hr9, hm9⟩ := ret_e h
          exact fin_i (pc := 42) X rfl Y hr9 rfl hm9 dX12_how_42
      · have h := itn c_22 h
        refine lv_bipush (pc := 25) (v := (-3)) hx hb dX12_how_25 (by decide) ?_
        obtain ⟨hr9, hm9⟩ := ret_e h
        exact fin_i (pc := 27) X rfl Y hr9 rfl hm9 dX12_how_27
    · have h := itn c_11 h
      refine lv_bipush (pc := 14) (v := (-2)) hx hb dX12_how_14 (by decide) ?_
      obtain ⟨hr9, hm9⟩ := ret_e h
      exact fin_i (pc := 16) X rfl Y hr9 rfl hm9 dX12_how_16
abbrev rm_X12_temperNow : Room := { frames := 2, cells := 0, slots := 0, locals := 49 }
set_option maxHeartbeats 4000000 in
set_option maxRecDepth 100000 in
theorem WL_X12_temperNow_25 {r9 : Int32} {D9 : Mem} (v1 : Int32) (X : Cx p s m args meth c cX12_temperNow RX12 3 (some .int) dC dI ad bd cI cZ) {kx : Mem → Option (Int32 × Mem)} (hkx : ∀ (D' : Mem) (H : Heap) (locs : List Loc) (ls : Array Slot), Ys s dC dI ad bd cI cZ C D' H locs → lv_has ls 3 [] → kx D' = some (r9, D9) → W p l e rm_X12_temperNow s m args below meth c H locs 0 0 (MQ below (QC (some (.int r9)) dC dI ad bd cI cZ C D9) args s 0 0 (AD ad bd)) (F0 m 54 ls [])) : ∀ (n_ : Nat) (v2 : Int32) (D : Mem) (H : Heap) (locs : List Loc) (ls : Array Slot), Ys s dC dI ad bd cI cZ C D H locs → lv_has ls 3 [(0, .ref (bd 0)), (1, .int v1), (2, .int v2)] → L_X12_temperNow_25 v1 kx n_ v2 D = some (r9, D9) → W p l e rm_X12_temperNow s m args below meth c H locs 0 0 (MQ below (QC (some (.int r9)) dC dI ad bd cI cZ C D9) args s 0 0 (AD ad bd)) (F0 m 25 ls []) := by
  have hx := X.1
  have hb := X.2.1
  intro n_
  induction n_ with
  | zero =>
    intro v2 D H locs ls Y hl h
    cases h
  | succ n_ ih =>
    intro v2 D H locs ls Y hl h
    unfold L_X12_temperNow_25 at h
    refine lv_iload_n (pc := 25) hx hb dX12_temperNow_25 rfl (lv_at hl 2 rfl) ?_
    refine lv_bipush (pc := 26) (v := 41) hx hb dX12_temperNow_26 (by decide) ?_
    refine lv_icmp_ge (pc := 28) (tgt := 54) hx hb dX12_temperNow_28 (by decide) (fun c_28 => ?_) (fun c_28 => ?_)
    · have h := itp c_28 h
      exact hkx D H locs ls Y (lv_sub hl [] rfl) h
    · have h := itn c_28 h
      refine lv_aload_n (pc := 31) hx hb dX12_temperNow_31 rfl (lv_at hl 0 rfl) ?_
      refine lv_iload_n (pc := 32) hx hb dX12_temperNow_32 rfl (lv_at hl 2 rfl) ?_
      obtain ⟨D_33, e_33, h⟩ := bnd_s h
      refine call_vv (pc := 33) (rest := []) [.int v2] X Y (c_X12_reckons v2 e_33) sw_X12_229 (rv_X12 X Y) rfl ⟨rfl, rfl, Nat.le_of_ble_eq_true rfl, Nat.le_of_ble_eq_true rfl⟩ hl rfl (Nat.le_of_ble_eq_true rfl) dX12_temperNow_33 (fun H locs Y => ?_)
      refine lv_aload_n (pc := 36) hx hb dX12_temperNow_36 rfl (lv_at hl 0 rfl) ?_
      refine gf_X12_59 (pc := 37) X Y dX12_temperNow_37 ?_
      refine lv_iconst (pc := 40) (v := 0) hx hb dX12_temperNow_40 (by decide) ?_
      obtain ⟨g_41, h⟩ := gd_s h
      refine r_ialdm (pc := 41) X Y (cm_16 bd cI cZ) g_41 dX12_temperNow_41 ?_
      refine lv_iload_n (pc := 42) hx hb dX12_temperNow_42 rfl (lv_at hl 1 rfl) ?_
      refine lv_icmp_eq (pc := 43) (tgt := 48) hx hb dX12_temperNow_43 (by decide) (fun c_43 => ?_) (fun c_43 => ?_)
      · have h := itp c_43 h
        obtain ⟨v2_48, ev2_48, h⟩ := lt_s_ h
        refine lv_iinc (pc := 48) (v := v2_48) (lv' := [(2, .int v2_48), (0, .ref (bd 0)), (1, .int v1)]) hx hb dX12_temperNow_48 hl (k := 2) rfl (by rw [ev2_48]; rfl) (by decide) rfl (fun ls hl => ?_)
        refine lv_goto (pc := 51) (tgt := 25) hx hb dX12_temperNow_51 (by decide) ?_
        exact ih v2_48 D_33 H locs ls Y (lv_sub hl [1, 2, 0] rfl) h
      · have h := itn c_43 h
        refine lv_iload_n (pc := 46) hx hb dX12_temperNow_46 rfl (lv_at hl 2 rfl) ?_
        obtain ⟨hr9, hm9⟩ := ret_e h
        exact fin_i (pc := 47) X rfl Y hr9 rfl hm9 dX12_temperNow_47
set_option maxHeartbeats 4000000 in
set_option maxRecDepth 100000 in
theorem c_X12_temperNow {r9 : Int32} {D9 : Mem} (h : f_X12_temperNow D = some (r9, D9)) : Ct l dC dI ad bd cI cZ yX12_temperNow cX12_temperNow 3 (some .int) rm_X12_temperNow [.ref (bd 0)] C D (some (.int r9)) C D9 := by
  unfold f_X12_temperNow at h
  refine Ct.intro (own := RX12) (by decide) rfl (Nat.le_of_ble_eq_true rfl) ?_
  intro p e s m args below meth c H locs ls X Y hl
  have hx := X.1
  have hb := X.2.1
  have hl : lv_has ls 3 [(0, .ref (bd 0))] := hl
  refine lv_aload_n (pc := 0) hx hb dX12_temperNow_0 rfl (lv_at hl 0 rfl) ?_
  obtain ⟨r_1, D_1, e_1, h⟩ := bnd2_s h
  refine call_vi (pc := 1) (rest := []) [] X Y (c_X12_faultNow  e_1) sw_X12_222 (rv_X12 X Y) rfl ⟨rfl, rfl, Nat.le_of_ble_eq_true rfl, Nat.le_of_ble_eq_true rfl⟩ hl rfl (Nat.le_of_ble_eq_true rfl) dX12_temperNow_1 (fun H locs Y => ?_)
  refine lv_iconst (pc := 4) (v := (-1)) hx hb dX12_temperNow_4 (by decide) ?_
  refine lv_icmp_eq (pc := 5) (tgt := 11) hx hb dX12_temperNow_5 (by decide) (fun c_5 => ?_) (fun c_5 => ?_)
  · have h := itp c_5 h
    refine lv_aload_n (pc := 11) hx hb dX12_temperNow_11 rfl (lv_at hl 0 rfl) ?_
    refine lv_iconst (pc := 12) (v := 0) hx hb dX12_temperNow_12 (by decide) ?_
    obtain ⟨D_13, e_13, h⟩ := bnd_s h
    refine call_vv (pc := 13) (rest := []) [.int 0] X Y (c_X12_reckons 0 e_13) sw_X12_229 (rv_X12 X Y) rfl ⟨rfl, rfl, Nat.le_of_ble_eq_true rfl, Nat.le_of_ble_eq_true rfl⟩ hl rfl (Nat.le_of_ble_eq_true rfl) dX12_temperNow_13 (fun H locs Y => ?_)
    refine lv_aload_n (pc := 16) hx hb dX12_temperNow_16 rfl (lv_at hl 0 rfl) ?_
    refine gf_X12_59 (pc := 17) X Y dX12_temperNow_17 ?_
    refine lv_iconst (pc := 20) (v := 0) hx hb dX12_temperNow_20 (by decide) ?_
    obtain ⟨g_21, h⟩ := gd_s h
    refine r_ialdm (pc := 21) X Y (cm_16 bd cI cZ) g_21 dX12_temperNow_21 ?_
    obtain ⟨v1_22, ev1_22, h⟩ := lt_s_ h
    refine top_i ev1_22 ?_
    refine lv_istore_n (pc := 22) (lv' := [(1, .int v1_22), (0, .ref (bd 0))]) hx hb dX12_temperNow_22 rfl hl (by decide) rfl (fun ls hl => ?_)
    refine lv_iconst (pc := 23) (v := 1) hx hb dX12_temperNow_23 (by decide) ?_
    refine lv_istore_n (pc := 24) (lv' := [(2, .int 1), (1, .int v1_22), (0, .ref (bd 0))]) hx hb dX12_temperNow_24 rfl hl (by decide) rfl (fun ls hl => ?_)
    refine WL_X12_temperNow_25 v1_22 X (fun D_54 H locs ls Y hl h => ?_) FU 1 D_13 H locs ls Y (lv_sub hl [2, 1, 0] rfl) h
    refine lv_iconst (pc := 54) (v := (-1)) hx hb dX12_temperNow_54 (by decide) ?_
    obtain ⟨hr9, hm9⟩ := ret_e h
    exact fin_i (pc := 55) X rfl Y hr9 rfl hm9 dX12_temperNow_55
  · have h := itn c_5 h
    refine lv_bipush (pc := 8) (v := (-3)) hx hb dX12_temperNow_8 (by decide) ?_
    obtain ⟨hr9, hm9⟩ := ret_e h
    exact fin_i (pc := 10) X rfl Y hr9 rfl hm9 dX12_temperNow_10
abbrev rm_X12_temper : Room := { frames := 3, cells := 0, slots := 0, locals := 71 }
set_option maxHeartbeats 4000000 in
set_option maxRecDepth 100000 in
theorem c_X12_temper {r9 : Int32} {D9 : Mem} (h : f_X12_temper D = some (r9, D9)) : Ct l dC dI ad bd cI cZ yX12_temper cX12_temper 1 (some .int) rm_X12_temper [.ref (bd 0)] C D (some (.int r9)) C D9 := by
  unfold f_X12_temper at h
  refine Ct.intro (own := RX12) (by decide) rfl (Nat.le_of_ble_eq_true rfl) ?_
  intro p e s m args below meth c H locs ls X Y hl
  have hx := X.1
  have hb := X.2.1
  have hl : lv_has ls 1 [(0, .ref (bd 0))] := hl
  refine lv_aload_n (pc := 0) hx hb dX12_temper_0 rfl (lv_at hl 0 rfl) ?_
  obtain ⟨r_1, D_1, e_1, h⟩ := bnd2_s h
  refine call_vi (pc := 1) (rest := []) [] X Y (c_X12_temperNow  e_1) sw_X12_243 (rv_X12 X Y) rfl ⟨rfl, rfl, Nat.le_of_ble_eq_true rfl, Nat.le_of_ble_eq_true rfl⟩ hl rfl (Nat.le_of_ble_eq_true rfl) dX12_temper_1 (fun H locs Y => ?_)
  obtain ⟨hr9, hm9⟩ := ret_e h
  exact fin_i (pc := 4) X rfl Y hr9 rfl hm9 dX12_temper_4
abbrev rm_X12_two : Room := { frames := 3, cells := 0, slots := 0, locals := 68 }
set_option maxHeartbeats 4000000 in
set_option maxRecDepth 100000 in
theorem WB_X12_two_152 {r9 : Int32} {D9 : Mem} (v1 : Int32) (v2 : Int32) (v3 : Int32) (v4 : Int32) (v6 : Int32) (v7 : Int32) (v8 : Int32) (v9 : Int32) (D : Mem) (X : Cx p s m args meth c cX12_two RX12 16 (some .int) dC dI ad bd cI cZ) {kb : Int32 → Int32 → Mem → Option (Int32 × Mem)} (hkb : ∀ (v8' : Int32) (v9' : Int32) (D' : Mem) (H : Heap) (locs : List Loc) (ls : Array Slot), Ys s dC dI ad bd cI cZ C D' H locs → lv_has ls 16 [(0, .ref (bd 0)), (1, .int v1), (2, .int v2), (3, .int v3), (4, .int v4), (6, .int v6), (7, .int v7), (8, .int v8'), (9, .int v9')] → kb v8' v9' D' = some (r9, D9) → W p l e rm_X12_two s m args below meth c H locs 0 0 (MQ below (QC (some (.int r9)) dC dI ad bd cI cZ C D9) args s 0 0 (AD ad bd)) (F0 m 104 ls [])) {H : Heap} {locs : List Loc} {ls : Array Slot} (Y : Ys s dC dI ad bd cI cZ C D H locs) (hl : lv_has ls 16 [(0, .ref (bd 0)), (1, .int v1), (2, .int v2), (3, .int v3), (4, .int v4), (6, .int v6), (7, .int v7), (8, .int v8), (9, .int v9)]) (h : B_X12_two_152 v8 v9 D kb = some (r9, D9)) : W p l e rm_X12_two s m args below meth c H locs 0 0 (MQ below (QC (some (.int r9)) dC dI ad bd cI cZ C D9) args s 0 0 (AD ad bd)) (F0 m 152 ls []) := by
  have hx := X.1
  have hb := X.2.1
  unfold B_X12_two_152 at h
  obtain ⟨v9_152, ev9_152, h⟩ := lt_s_ h
  refine lv_iinc (pc := 152) (v := v9_152) (lv' := [(9, .int v9_152), (0, .ref (bd 0)), (1, .int v1), (2, .int v2), (3, .int v3), (4, .int v4), (6, .int v6), (7, .int v7), (8, .int v8)]) hx hb dX12_two_152 hl (k := 8) rfl (by rw [ev9_152]; rfl) (by decide) rfl (fun ls hl => ?_)
  refine lv_goto (pc := 155) (tgt := 104) hx hb dX12_two_155 (by decide) ?_
  exact hkb v8 v9_152 D H locs ls Y (lv_sub hl [1, 2, 3, 4, 5, 6, 7, 8, 0] rfl) h
set_option maxHeartbeats 4000000 in
set_option maxRecDepth 100000 in
theorem WB_X12_two_135 {r9 : Int32} {D9 : Mem} (v1 : Int32) (v2 : Int32) (v3 : Int32) (v4 : Int32) (v6 : Int32) (v7 : Int32) (v8 : Int32) (v9 : Int32) (D : Mem) (X : Cx p s m args meth c cX12_two RX12 16 (some .int) dC dI ad bd cI cZ) {kb : Int32 → Int32 → Mem → Option (Int32 × Mem)} (hkb : ∀ (v8' : Int32) (v9' : Int32) (D' : Mem) (H : Heap) (locs : List Loc) (ls : Array Slot), Ys s dC dI ad bd cI cZ C D' H locs → lv_has ls 16 [(0, .ref (bd 0)), (1, .int v1), (2, .int v2), (3, .int v3), (4, .int v4), (6, .int v6), (7, .int v7), (8, .int v8'), (9, .int v9')] → kb v8' v9' D' = some (r9, D9) → W p l e rm_X12_two s m args below meth c H locs 0 0 (MQ below (QC (some (.int r9)) dC dI ad bd cI cZ C D9) args s 0 0 (AD ad bd)) (F0 m 104 ls [])) {H : Heap} {locs : List Loc} {ls : Array Slot} (Y : Ys s dC dI ad bd cI cZ C D H locs) (hl : lv_has ls 16 [(0, .ref (bd 0)), (1, .int v1), (2, .int v2), (3, .int v3), (4, .int v4), (6, .int v6), (7, .int v7), (8, .int v8), (9, .int v9)]) (h : B_X12_two_135 v8 v9 D kb = some (r9, D9)) : W p l e rm_X12_two s m args below meth c H locs 0 0 (MQ below (QC (some (.int r9)) dC dI ad bd cI cZ C D9) args s 0 0 (AD ad bd)) (F0 m 135 ls []) := by
  have hx := X.1
  have hb := X.2.1
  unfold B_X12_two_135 at h
  refine lv_aload_n (pc := 135) hx hb dX12_two_135 rfl (lv_at hl 0 rfl) ?_
  refine gf_X12_68 (pc := 136) X Y dX12_two_136 ?_
  refine lv_iload (pc := 139) hx hb dX12_two_139 (lv_at hl 7 rfl) ?_
  refine lv_aload_n (pc := 141) hx hb dX12_two_141 rfl (lv_at hl 0 rfl) ?_
  refine gf_X12_16 (pc := 142) X Y dX12_two_142 ?_
  refine lv_iload (pc := 145) hx hb dX12_two_145 (lv_at hl 8 rfl) ?_
  obtain ⟨g_147, h⟩ := gd_s h
  refine r_ialdm (pc := 147) X Y (cm_3 bd cI cZ) g_147 dX12_two_147 ?_
  obtain ⟨g_148, h⟩ := gd_s h
  obtain ⟨D_148, hD_148, h⟩ := sto_s h
  refine r_iastm (pc := 148) X Y (cm_19 bd cI cZ) g_148 hD_148 dX12_two_148 (fun H locs Y => ?_)
  obtain ⟨v8_149, ev8_149, h⟩ := lt_s_ h
  refine lv_iinc (pc := 149) (v := v8_149) (lv' := [(8, .int v8_149), (0, .ref (bd 0)), (1, .int v1), (2, .int v2), (3, .int v3), (4, .int v4), (6, .int v6), (7, .int v7), (9, .int v9)]) hx hb dX12_two_149 hl (k := 7) rfl (by rw [ev8_149]; rfl) (by decide) rfl (fun ls hl => ?_)
  exact WB_X12_two_152 v1 v2 v3 v4 v6 v7 v8_149 v9 D_148 X (kb := kb) hkb Y (lv_sub hl [1, 2, 3, 4, 5, 6, 7, 0, 8] rfl) h
set_option maxHeartbeats 4000000 in
set_option maxRecDepth 100000 in
theorem WL_X12_two_104 {r9 : Int32} {D9 : Mem} (v1 : Int32) (v2 : Int32) (v3 : Int32) (v4 : Int32) (v6 : Int32) (v7 : Int32) (X : Cx p s m args meth c cX12_two RX12 16 (some .int) dC dI ad bd cI cZ) {kx : Mem → Option (Int32 × Mem)} (hkx : ∀ (D' : Mem) (H : Heap) (locs : List Loc) (ls : Array Slot), Ys s dC dI ad bd cI cZ C D' H locs → lv_has ls 16 [(0, .ref (bd 0)), (3, .int v3), (4, .int v4), (6, .int v6), (7, .int v7)] → kx D' = some (r9, D9) → W p l e rm_X12_two s m args below meth c H locs 0 0 (MQ below (QC (some (.int r9)) dC dI ad bd cI cZ C D9) args s 0 0 (AD ad bd)) (F0 m 158 ls [])) : ∀ (n_ : Nat) (v8 : Int32) (v9 : Int32) (D : Mem) (H : Heap) (locs : List Loc) (ls : Array Slot), Ys s dC dI ad bd cI cZ C D H locs → lv_has ls 16 [(0, .ref (bd 0)), (1, .int v1), (2, .int v2), (3, .int v3), (4, .int v4), (6, .int v6), (7, .int v7), (8, .int v8), (9, .int v9)] → L_X12_two_104 v1 v2 kx n_ v8 v9 D = some (r9, D9) → W p l e rm_X12_two s m args below meth c H locs 0 0 (MQ below (QC (some (.int r9)) dC dI ad bd cI cZ C D9) args s 0 0 (AD ad bd)) (F0 m 104 ls []) := by
  have hx := X.1
  have hb := X.2.1
  intro n_
  induction n_ with
  | zero =>
    intro v8 v9 D H locs ls Y hl h
    cases h
  | succ n_ ih =>
    intro v8 v9 D H locs ls Y hl h
    unfold L_X12_two_104 at h
    refine lv_iload (pc := 104) hx hb dX12_two_104 (lv_at hl 8 rfl) ?_
    refine lv_aload_n (pc := 106) hx hb dX12_two_106 rfl (lv_at hl 0 rfl) ?_
    refine gf_X12_124 (pc := 107) X Y dX12_two_107 ?_
    refine lv_icmp_ge (pc := 110) (tgt := 158) hx hb dX12_two_110 (by decide) (fun c_110 => ?_) (fun c_110 => ?_)
    · have h := itp c_110 h
      exact hkx D H locs ls Y (lv_sub hl [0, 3, 4, 5, 6] rfl) h
    · have h := itn c_110 h
      refine lv_aload_n (pc := 113) hx hb dX12_two_113 rfl (lv_at hl 0 rfl) ?_
      refine lv_iload (pc := 114) hx hb dX12_two_114 (lv_at hl 8 rfl) ?_
      refine lv_iload_n (pc := 116) hx hb dX12_two_116 rfl (lv_at hl 1 rfl) ?_
      refine lv_iconst (pc := 117) (v := 0) hx hb dX12_two_117 (by decide) ?_
      obtain ⟨r_118, e_118, h⟩ := bnd_s h
      refine call_vi (pc := 118) (rest := []) [.int v9, .int v1, .int 0] X Y (c_X12_isOf v9 v1 0 e_118) sw_X12_141 (rv_X12 X Y) rfl ⟨rfl, rfl, Nat.le_of_ble_eq_true rfl, Nat.le_of_ble_eq_true rfl⟩ hl rfl (Nat.le_of_ble_eq_true rfl) dX12_two_118 (fun H locs Y => ?_)
      refine lv_if_ne (pc := 121) (tgt := 135) hx hb dX12_two_121 (by decide) (fun c_121 => ?_) (fun c_121 => ?_)
      · have h := itp (b2i_t c_121) h
        exact WB_X12_two_135 v1 v2 v3 v4 v6 v7 v8 v9 D X (kb := (L_X12_two_104 v1 v2 kx n_)) ih Y (lv_sub hl [0, 1, 2, 3, 4, 5, 6, 7, 8] rfl) h
      · have h := itn (b2i_f c_121) h
        refine lv_aload_n (pc := 124) hx hb dX12_two_124 rfl (lv_at hl 0 rfl) ?_
        refine lv_iload (pc := 125) hx hb dX12_two_125 (lv_at hl 8 rfl) ?_
        refine lv_iload_n (pc := 127) hx hb dX12_two_127 rfl (lv_at hl 2 rfl) ?_
        refine lv_iconst (pc := 128) (v := 0) hx hb dX12_two_128 (by decide) ?_
        obtain ⟨r_129, e_129, h⟩ := bnd_s h
        refine call_vi (pc := 129) (rest := []) [.int v9, .int v2, .int 0] X Y (c_X12_isOf v9 v2 0 e_129) sw_X12_141 (rv_X12 X Y) rfl ⟨rfl, rfl, Nat.le_of_ble_eq_true rfl, Nat.le_of_ble_eq_true rfl⟩ hl rfl (Nat.le_of_ble_eq_true rfl) dX12_two_129 (fun H locs Y => ?_)
        refine lv_if_eq (pc := 132) (tgt := 152) hx hb dX12_two_132 (by decide) (fun c_132 => ?_) (fun c_132 => ?_)
        · have h := itn (b2i_f c_132) h
          exact WB_X12_two_152 v1 v2 v3 v4 v6 v7 v8 v9 D X (kb := (L_X12_two_104 v1 v2 kx n_)) ih Y (lv_sub hl [0, 1, 2, 3, 4, 5, 6, 7, 8] rfl) h
        · have h := itp (b2i_t c_132) h
          exact WB_X12_two_135 v1 v2 v3 v4 v6 v7 v8 v9 D X (kb := (L_X12_two_104 v1 v2 kx n_)) ih Y (lv_sub hl [0, 1, 2, 3, 4, 5, 6, 7, 8] rfl) h
set_option maxHeartbeats 4000000 in
set_option maxRecDepth 100000 in
theorem WB_X12_two_271 {r9 : Int32} {D9 : Mem} (v3 : Int32) (v4 : Int32) (v6 : Int32) (v7 : Int32) (v9 : Int64) (v11 : Int64) (v13 : Int32) (D : Mem) (X : Cx p s m args meth c cX12_two RX12 16 (some .int) dC dI ad bd cI cZ) {kb : Int64 → Int64 → Int32 → Option (Int32 × Mem)} (hkb : ∀ (v9' : Int64) (v11' : Int64) (v13' : Int32) (H : Heap) (locs : List Loc) (ls : Array Slot), Ys s dC dI ad bd cI cZ C D H locs → lv_has ls 16 [(0, .ref (bd 0)), (3, .int v3), (4, .int v4), (6, .int v6), (7, .int v7), (9, .long v9'), (11, .long v11'), (13, .int v13')] → kb v9' v11' v13' = some (r9, D9) → W p l e rm_X12_two s m args below meth c H locs 0 0 (MQ below (QC (some (.int r9)) dC dI ad bd cI cZ C D9) args s 0 0 (AD ad bd)) (F0 m 167 ls [])) {H : Heap} {locs : List Loc} {ls : Array Slot} (Y : Ys s dC dI ad bd cI cZ C D H locs) (hl : lv_has ls 16 [(0, .ref (bd 0)), (3, .int v3), (4, .int v4), (6, .int v6), (7, .int v7), (9, .long v9), (11, .long v11), (13, .int v13)]) (h : B_X12_two_271 v9 v11 v13 kb = some (r9, D9)) : W p l e rm_X12_two s m args below meth c H locs 0 0 (MQ below (QC (some (.int r9)) dC dI ad bd cI cZ C D9) args s 0 0 (AD ad bd)) (F0 m 271 ls []) := by
  have hx := X.1
  have hb := X.2.1
  unfold B_X12_two_271 at h
  obtain ⟨v13_271, ev13_271, h⟩ := lt_s_ h
  refine lv_iinc (pc := 271) (v := v13_271) (lv' := [(13, .int v13_271), (0, .ref (bd 0)), (3, .int v3), (4, .int v4), (6, .int v6), (7, .int v7), (9, .long v9), (11, .long v11)]) hx hb dX12_two_271 hl (k := 7) rfl (by rw [ev13_271]; rfl) (by decide) rfl (fun ls hl => ?_)
  refine lv_goto (pc := 274) (tgt := 167) hx hb dX12_two_274 (by decide) ?_
  exact hkb v9 v11 v13_271 H locs ls Y (lv_sub hl [1, 2, 3, 4, 5, 6, 7, 0] rfl) h
set_option maxHeartbeats 4000000 in
set_option maxRecDepth 100000 in
theorem WB_X12_two_225 {r9 : Int32} {D9 : Mem} (x0 : Int32) (x1 : Int32) (v3 : Int32) (v4 : Int32) (v6 : Int32) (v7 : Int32) (v9 : Int64) (v11 : Int64) (v13 : Int32) (v15 : Int32) (D : Mem) (X : Cx p s m args meth c cX12_two RX12 16 (some .int) dC dI ad bd cI cZ) {kb : Int32 → Int32 → Option (Int32 × Mem)} (hkb : ∀ (v14' : Int32) (v15' : Int32) (H : Heap) (locs : List Loc) (ls : Array Slot), Ys s dC dI ad bd cI cZ C D H locs → lv_has ls 16 [(0, .ref (bd 0)), (3, .int v3), (4, .int v4), (6, .int v6), (7, .int v7), (9, .long v9), (11, .long v11), (13, .int v13), (14, .int v14'), (15, .int v15')] → kb v14' v15' = some (r9, D9) → W p l e rm_X12_two s m args below meth c H locs 0 0 (MQ below (QC (some (.int r9)) dC dI ad bd cI cZ C D9) args s 0 0 (AD ad bd)) (F0 m 193 ls [])) {H : Heap} {locs : List Loc} {ls : Array Slot} (Y : Ys s dC dI ad bd cI cZ C D H locs) (hl : lv_has ls 16 [(0, .ref (bd 0)), (3, .int v3), (4, .int v4), (6, .int v6), (7, .int v7), (9, .long v9), (11, .long v11), (13, .int v13), (15, .int v15)]) (h : B_X12_two_225 x0 x1 v15 kb = some (r9, D9)) : W p l e rm_X12_two s m args below meth c H locs 0 0 (MQ below (QC (some (.int r9)) dC dI ad bd cI cZ C D9) args s 0 0 (AD ad bd)) (F0 m 225 ls [.int x1, .int x0]) := by
  have hx := X.1
  have hb := X.2.1
  unfold B_X12_two_225 at h
  refine lv_iadd (pc := 225) hx hb dX12_two_225 ?_
  obtain ⟨v14_226, ev14_226, h⟩ := lt_s_ h
  refine top_i ev14_226 ?_
  refine lv_istore (pc := 226) (lv' := [(14, .int v14_226), (0, .ref (bd 0)), (3, .int v3), (4, .int v4), (6, .int v6), (7, .int v7), (9, .long v9), (11, .long v11), (13, .int v13), (15, .int v15)]) hx hb dX12_two_226 hl (by decide) rfl (fun ls hl => ?_)
  obtain ⟨v15_228, ev15_228, h⟩ := lt_s_ h
  refine lv_iinc (pc := 228) (v := v15_228) (lv' := [(15, .int v15_228), (14, .int v14_226), (0, .ref (bd 0)), (3, .int v3), (4, .int v4), (6, .int v6), (7, .int v7), (9, .long v9), (11, .long v11), (13, .int v13)]) hx hb dX12_two_228 hl (k := 9) rfl (by rw [ev15_228]; rfl) (by decide) rfl (fun ls hl => ?_)
  refine lv_goto (pc := 231) (tgt := 193) hx hb dX12_two_231 (by decide) ?_
  exact hkb v14_226 v15_228 H locs ls Y (lv_sub hl [2, 3, 4, 5, 6, 7, 8, 9, 1, 0] rfl) h
set_option maxHeartbeats 4000000 in
set_option maxRecDepth 100000 in
theorem WL_X12_two_193 {r9 : Int32} {D9 : Mem} (v3 : Int32) (v4 : Int32) (v6 : Int32) (v7 : Int32) (v9 : Int64) (v11 : Int64) (v13 : Int32) (D : Mem) (X : Cx p s m args meth c cX12_two RX12 16 (some .int) dC dI ad bd cI cZ) {kx : Int32 → Option (Int32 × Mem)} (hkx : ∀ (v14' : Int32) (H : Heap) (locs : List Loc) (ls : Array Slot), Ys s dC dI ad bd cI cZ C D H locs → lv_has ls 16 [(0, .ref (bd 0)), (3, .int v3), (4, .int v4), (6, .int v6), (7, .int v7), (9, .long v9), (11, .long v11), (13, .int v13), (14, .int v14')] → kx v14' = some (r9, D9) → W p l e rm_X12_two s m args below meth c H locs 0 0 (MQ below (QC (some (.int r9)) dC dI ad bd cI cZ C D9) args s 0 0 (AD ad bd)) (F0 m 234 ls [])) : ∀ (n_ : Nat) (v14 : Int32) (v15 : Int32) (H : Heap) (locs : List Loc) (ls : Array Slot), Ys s dC dI ad bd cI cZ C D H locs → lv_has ls 16 [(0, .ref (bd 0)), (3, .int v3), (4, .int v4), (6, .int v6), (7, .int v7), (9, .long v9), (11, .long v11), (13, .int v13), (14, .int v14), (15, .int v15)] → L_X12_two_193 v3 v4 v13 D kx n_ v14 v15 = some (r9, D9) → W p l e rm_X12_two s m args below meth c H locs 0 0 (MQ below (QC (some (.int r9)) dC dI ad bd cI cZ C D9) args s 0 0 (AD ad bd)) (F0 m 193 ls []) := by
  have hx := X.1
  have hb := X.2.1
  intro n_
  induction n_ with
  | zero =>
    intro v14 v15 H locs ls Y hl h
    cases h
  | succ n_ ih =>
    intro v14 v15 H locs ls Y hl h
    unfold L_X12_two_193 at h
    refine lv_iload (pc := 193) hx hb dX12_two_193 (lv_at hl 9 rfl) ?_
    refine lv_iload_n (pc := 195) hx hb dX12_two_195 rfl (lv_at hl 1 rfl) ?_
    refine lv_iload (pc := 196) hx hb dX12_two_196 (lv_at hl 2 rfl) ?_
    refine lv_iadd (pc := 198) hx hb dX12_two_198 ?_
    refine lv_icmp_ge (pc := 199) (tgt := 234) hx hb dX12_two_199 (by decide) (fun c_199 => ?_) (fun c_199 => ?_)
    · have h := itp c_199 h
      exact hkx v14 H locs ls Y (lv_sub hl [0, 1, 2, 3, 4, 5, 6, 7, 8] rfl) h
    · have h := itn c_199 h
      refine lv_iload (pc := 202) hx hb dX12_two_202 (lv_at hl 8 rfl) ?_
      refine lv_iload (pc := 204) hx hb dX12_two_204 (lv_at hl 7 rfl) ?_
      refine lv_iload (pc := 206) hx hb dX12_two_206 (lv_at hl 9 rfl) ?_
      refine call_si (pc := 208) (rest := [.int v14]) [.int v13, .int v15] X Y (c_X12_has v13 v15) sw_X12_179 rfl ⟨rfl, rfl, Nat.le_of_ble_eq_true rfl, Nat.le_of_ble_eq_true rfl⟩ hl rfl (Nat.le_of_ble_eq_true rfl) dX12_two_208 (fun H locs Y => ?_)
      refine lv_if_eq (pc := 211) (tgt := 224) hx hb dX12_two_211 (by decide) (fun c_211 => ?_) (fun c_211 => ?_)
      · have h := itn (b2i_f c_211) h
        refine lv_iconst (pc := 224) (v := 0) hx hb dX12_two_224 (by decide) ?_
        exact WB_X12_two_225 v14 0 v3 v4 v6 v7 v9 v11 v13 v15 D X (kb := (L_X12_two_193 v3 v4 v13 D kx n_)) ih Y (lv_sub hl [0, 1, 2, 3, 4, 5, 6, 7, 9] rfl) h
      · have h := itp (b2i_t c_211) h
        refine lv_aload_n (pc := 214) hx hb dX12_two_214 rfl (lv_at hl 0 rfl) ?_
        refine gf_X12_68 (pc := 215) X Y dX12_two_215 ?_
        refine lv_iload (pc := 218) hx hb dX12_two_218 (lv_at hl 9 rfl) ?_
        obtain ⟨g_220, h⟩ := gd_s h
        refine r_ialdm (pc := 220) X Y (cm_19 bd cI cZ) g_220 dX12_two_220 ?_
        refine lv_goto (pc := 221) (tgt := 225) hx hb dX12_two_221 (by decide) ?_
        exact WB_X12_two_225 v14 (D 19 v15.toNatClampNeg) v3 v4 v6 v7 v9 v11 v13 v15 D X (kb := (L_X12_two_193 v3 v4 v13 D kx n_)) ih Y (lv_sub hl [0, 1, 2, 3, 4, 5, 6, 7, 9] rfl) h
set_option maxHeartbeats 4000000 in
set_option maxRecDepth 100000 in
theorem WB_X12_two_268 {r9 : Int32} {D9 : Mem} (x0 : Int64) (x1 : Int64) (v3 : Int32) (v4 : Int32) (v6 : Int32) (v7 : Int32) (v9 : Int64) (v13 : Int32) (D : Mem) (X : Cx p s m args meth c cX12_two RX12 16 (some .int) dC dI ad bd cI cZ) {kb : Int64 → Int64 → Int32 → Option (Int32 × Mem)} (hkb : ∀ (v9' : Int64) (v11' : Int64) (v13' : Int32) (H : Heap) (locs : List Loc) (ls : Array Slot), Ys s dC dI ad bd cI cZ C D H locs → lv_has ls 16 [(0, .ref (bd 0)), (3, .int v3), (4, .int v4), (6, .int v6), (7, .int v7), (9, .long v9'), (11, .long v11'), (13, .int v13')] → kb v9' v11' v13' = some (r9, D9) → W p l e rm_X12_two s m args below meth c H locs 0 0 (MQ below (QC (some (.int r9)) dC dI ad bd cI cZ C D9) args s 0 0 (AD ad bd)) (F0 m 167 ls [])) {H : Heap} {locs : List Loc} {ls : Array Slot} (Y : Ys s dC dI ad bd cI cZ C D H locs) (hl : lv_has ls 16 [(0, .ref (bd 0)), (3, .int v3), (4, .int v4), (6, .int v6), (7, .int v7), (9, .long v9), (13, .int v13)]) (h : B_X12_two_268 x0 x1 v9 v13 kb = some (r9, D9)) : W p l e rm_X12_two s m args below meth c H locs 0 0 (MQ below (QC (some (.int r9)) dC dI ad bd cI cZ C D9) args s 0 0 (AD ad bd)) (F0 m 268 ls [.long x1, .long x0]) := by
  have hx := X.1
  have hb := X.2.1
  unfold B_X12_two_268 at h
  refine lv_ladd (pc := 268) hx hb dX12_two_268 ?_
  obtain ⟨v11_269, ev11_269, h⟩ := lt_s_ h
  refine top_l ev11_269 ?_
  refine lv_lstore (pc := 269) (lv' := [(11, .long v11_269), (0, .ref (bd 0)), (3, .int v3), (4, .int v4), (6, .int v6), (7, .int v7), (9, .long v9), (13, .int v13)]) hx hb dX12_two_269 hl (by decide) rfl (fun ls hl => ?_)
  exact WB_X12_two_271 v3 v4 v6 v7 v9 v11_269 v13 D X (kb := kb) hkb Y (lv_sub hl [1, 2, 3, 4, 5, 6, 0, 7] rfl) h
set_option maxHeartbeats 4000000 in
set_option maxRecDepth 100000 in
theorem WL_X12_two_167 {r9 : Int32} {D9 : Mem} (v3 : Int32) (v4 : Int32) (v6 : Int32) (v7 : Int32) (D : Mem) (X : Cx p s m args meth c cX12_two RX12 16 (some .int) dC dI ad bd cI cZ) {kx : Int64 → Int64 → Option (Int32 × Mem)} (hkx : ∀ (v9' : Int64) (v11' : Int64) (H : Heap) (locs : List Loc) (ls : Array Slot), Ys s dC dI ad bd cI cZ C D H locs → lv_has ls 16 [(9, .long v9'), (11, .long v11')] → kx v9' v11' = some (r9, D9) → W p l e rm_X12_two s m args below meth c H locs 0 0 (MQ below (QC (some (.int r9)) dC dI ad bd cI cZ C D9) args s 0 0 (AD ad bd)) (F0 m 277 ls [])) : ∀ (n_ : Nat) (v9 : Int64) (v11 : Int64) (v13 : Int32) (H : Heap) (locs : List Loc) (ls : Array Slot), Ys s dC dI ad bd cI cZ C D H locs → lv_has ls 16 [(0, .ref (bd 0)), (3, .int v3), (4, .int v4), (6, .int v6), (7, .int v7), (9, .long v9), (11, .long v11), (13, .int v13)] → L_X12_two_167 v3 v4 v6 v7 D kx n_ v9 v11 v13 = some (r9, D9) → W p l e rm_X12_two s m args below meth c H locs 0 0 (MQ below (QC (some (.int r9)) dC dI ad bd cI cZ C D9) args s 0 0 (AD ad bd)) (F0 m 167 ls []) := by
  have hx := X.1
  have hb := X.2.1
  intro n_
  induction n_ with
  | zero =>
    intro v9 v11 v13 H locs ls Y hl h
    cases h
  | succ n_ ih =>
    intro v9 v11 v13 H locs ls Y hl h
    unfold L_X12_two_167 at h
    refine lv_iload (pc := 167) hx hb dX12_two_167 (lv_at hl 7 rfl) ?_
    refine lv_iconst (pc := 169) (v := 1) hx hb dX12_two_169 (by decide) ?_
    refine lv_iload_n (pc := 170) hx hb dX12_two_170 rfl (lv_at hl 1 rfl) ?_
    refine lv_iload (pc := 171) hx hb dX12_two_171 (lv_at hl 2 rfl) ?_
    refine lv_iadd (pc := 173) hx hb dX12_two_173 ?_
    refine lv_ishl (pc := 174) hx hb dX12_two_174 ?_
    refine lv_icmp_ge (pc := 175) (tgt := 277) hx hb dX12_two_175 (by decide) (fun c_175 => ?_) (fun c_175 => ?_)
    · have h := itp c_175 h
      exact hkx v9 v11 H locs ls Y (lv_sub hl [5, 6] rfl) h
    · have h := itn c_175 h
      refine lv_iload (pc := 178) hx hb dX12_two_178 (lv_at hl 7 rfl) ?_
      obtain ⟨r_180, e_180, h⟩ := bnd_s h
      refine call_si (pc := 180) (rest := []) [.int v13] X Y (c_X12_ones v13 e_180) sw_X12_246 rfl ⟨rfl, rfl, Nat.le_of_ble_eq_true rfl, Nat.le_of_ble_eq_true rfl⟩ hl rfl (Nat.le_of_ble_eq_true rfl) dX12_two_180 (fun H locs Y => ?_)
      refine lv_iload_n (pc := 183) hx hb dX12_two_183 rfl (lv_at hl 1 rfl) ?_
      refine lv_icmp_ne (pc := 184) (tgt := 271) hx hb dX12_two_184 (by decide) (fun c_184 => ?_) (fun c_184 => ?_)
      · have h := itn c_184 h
        exact WB_X12_two_271 v3 v4 v6 v7 v9 v11 v13 D X (kb := (L_X12_two_167 v3 v4 v6 v7 D kx n_)) ih Y (lv_sub hl [0, 1, 2, 3, 4, 5, 6, 7] rfl) h
      · have h := itp c_184 h
        refine lv_iconst (pc := 187) (v := 0) hx hb dX12_two_187 (by decide) ?_
        refine lv_istore (pc := 188) (lv' := [(14, .int 0), (0, .ref (bd 0)), (3, .int v3), (4, .int v4), (6, .int v6), (7, .int v7), (9, .long v9), (11, .long v11), (13, .int v13)]) hx hb dX12_two_188 hl (by decide) rfl (fun ls hl => ?_)
        refine lv_iconst (pc := 190) (v := 0) hx hb dX12_two_190 (by decide) ?_
        refine lv_istore (pc := 191) (lv' := [(15, .int 0), (14, .int 0), (0, .ref (bd 0)), (3, .int v3), (4, .int v4), (6, .int v6), (7, .int v7), (9, .long v9), (11, .long v11), (13, .int v13)]) hx hb dX12_two_191 hl (by decide) rfl (fun ls hl => ?_)
        refine WL_X12_two_193 v3 v4 v6 v7 v9 v11 v13 D X (fun v14_234 H locs ls Y hl h => ?_) FU 0 0 H locs ls Y (lv_sub hl [2, 3, 4, 5, 6, 7, 8, 9, 1, 0] rfl) h
        refine lv_lload (pc := 234) hx hb dX12_two_234 (lv_at hl 5 rfl) ?_
        refine lv_lconst (pc := 236) (v := 1) hx hb dX12_two_236 (by decide) ?_
        refine lv_ladd (pc := 237) hx hb dX12_two_237 ?_
        obtain ⟨v9_238, ev9_238, h⟩ := lt_s_ h
        refine top_l ev9_238 ?_
        refine lv_lstore (pc := 238) (lv' := [(9, .long v9_238), (0, .ref (bd 0)), (3, .int v3), (4, .int v4), (6, .int v6), (7, .int v7), (11, .long v11), (13, .int v13), (14, .int v14_234)]) hx hb dX12_two_238 hl (by decide) rfl (fun ls hl => ?_)
        refine lv_lload (pc := 240) hx hb dX12_two_240 (lv_at hl 6 rfl) ?_
        refine lv_iload (pc := 242) hx hb dX12_two_242 (lv_at hl 8 rfl) ?_
        refine lv_iload (pc := 244) hx hb dX12_two_244 (lv_at hl 3 rfl) ?_
        refine lv_imul (pc := 246) hx hb dX12_two_246 ?_
        refine lv_iload (pc := 247) hx hb dX12_two_247 (lv_at hl 4 rfl) ?_
        refine lv_iload (pc := 249) hx hb dX12_two_249 (lv_at hl 8 rfl) ?_
        refine lv_isub (pc := 251) hx hb dX12_two_251 ?_
        refine lv_iload_n (pc := 252) hx hb dX12_two_252 rfl (lv_at hl 2 rfl) ?_
        refine lv_imul (pc := 253) hx hb dX12_two_253 ?_
        refine lv_isub (pc := 254) hx hb dX12_two_254 ?_
        refine call_si (pc := 255) (rest := [.long v11]) [.int ((v14_234 * v4) - ((v6 - v14_234) * v3))] X Y (c_X12_amount ((v14_234 * v4) - ((v6 - v14_234) * v3))) sw_X12_204 rfl ⟨rfl, rfl, Nat.le_of_ble_eq_true rfl, Nat.le_of_ble_eq_true rfl⟩ hl rfl (Nat.le_of_ble_eq_true rfl) dX12_two_255 (fun H locs Y => ?_)
        refine lv_iload (pc := 258) hx hb dX12_two_258 (lv_at hl 5 rfl) ?_
        refine lv_icmp_lt (pc := 260) (tgt := 267) hx hb dX12_two_260 (by decide) (fun c_260 => ?_) (fun c_260 => ?_)
        · have h := itp c_260 h
          refine lv_lconst (pc := 267) (v := 0) hx hb dX12_two_267 (by decide) ?_
          exact WB_X12_two_268 v11 0 v3 v4 v6 v7 v9_238 v13 D X (kb := (L_X12_two_167 v3 v4 v6 v7 D kx n_)) ih Y (lv_sub hl [1, 2, 3, 4, 5, 0, 7] rfl) h
        · have h := itn c_260 h
          refine lv_lconst (pc := 263) (v := 1) hx hb dX12_two_263 (by decide) ?_
          refine lv_goto (pc := 264) (tgt := 268) hx hb dX12_two_264 (by decide) ?_
          exact WB_X12_two_268 v11 1 v3 v4 v6 v7 v9_238 v13 D X (kb := (L_X12_two_167 v3 v4 v6 v7 D kx n_)) ih Y (lv_sub hl [1, 2, 3, 4, 5, 0, 7] rfl) h
set_option maxHeartbeats 4000000 in
set_option maxRecDepth 100000 in
theorem c_X12_two {r9 : Int32} {D9 : Mem} (v1 : Int32) (v2 : Int32) (h : f_X12_two v1 v2 D = some (r9, D9)) : Ct l dC dI ad bd cI cZ yX12_two cX12_two 16 (some .int) rm_X12_two [.ref (bd 0), .int v1, .int v2] C D (some (.int r9)) C D9 := by
  unfold f_X12_two at h
  refine Ct.intro (own := RX12) (by decide) rfl (Nat.le_of_ble_eq_true rfl) ?_
  intro p e s m args below meth c H locs ls X Y hl
  have hx := X.1
  have hb := X.2.1
  have hl : lv_has ls 16 [(0, .ref (bd 0)), (1, .int v1), (2, .int v2)] := hl
  refine lv_iload_n (pc := 0) hx hb dX12_two_0 rfl (lv_at hl 1 rfl) ?_
  refine call_si (pc := 1) (rest := []) [.int v1] X Y (c_X12_isPeople v1) sw_X12_111 rfl ⟨rfl, rfl, Nat.le_of_ble_eq_true rfl, Nat.le_of_ble_eq_true rfl⟩ hl rfl (Nat.le_of_ble_eq_true rfl) dX12_two_1 (fun H locs Y => ?_)
  refine lv_if_eq (pc := 4) (tgt := 19) hx hb dX12_two_4 (by decide) (fun c_4 => ?_) (fun c_4 => ?_)
  · have h := itn (b2i_f c_4) h
    refine lv_bipush (pc := 19) (v := (-2)) hx hb dX12_two_19 (by decide) ?_
    obtain ⟨hr9, hm9⟩ := ret_e h
    exact fin_i (pc := 21) X rfl Y hr9 rfl hm9 dX12_two_21
  · have h := itp (b2i_t c_4) h
    refine lv_iload_n (pc := 7) hx hb dX12_two_7 rfl (lv_at hl 2 rfl) ?_
    refine call_si (pc := 8) (rest := []) [.int v2] X Y (c_X12_isPeople v2) sw_X12_111 rfl ⟨rfl, rfl, Nat.le_of_ble_eq_true rfl, Nat.le_of_ble_eq_true rfl⟩ hl rfl (Nat.le_of_ble_eq_true rfl) dX12_two_8 (fun H locs Y => ?_)
    refine lv_if_eq (pc := 11) (tgt := 19) hx hb dX12_two_11 (by decide) (fun c_11 => ?_) (fun c_11 => ?_)
    · have h := itn (b2i_f c_11) h
      refine lv_bipush (pc := 19) (v := (-2)) hx hb dX12_two_19 (by decide) ?_
      obtain ⟨hr9, hm9⟩ := ret_e h
      exact fin_i (pc := 21) X rfl Y hr9 rfl hm9 dX12_two_21
    · have h := itp (b2i_t c_11) h
      refine lv_iload_n (pc := 14) hx hb dX12_two_14 rfl (lv_at hl 1 rfl) ?_
      refine lv_iload_n (pc := 15) hx hb dX12_two_15 rfl (lv_at hl 2 rfl) ?_
      refine lv_icmp_ne (pc := 16) (tgt := 22) hx hb dX12_two_16 (by decide) (fun c_16 => ?_) (fun c_16 => ?_)
      · have h := itn c_16 h
        refine lv_aload_n (pc := 22) hx hb dX12_two_22 rfl (lv_at hl 0 rfl) ?_
        refine lv_iload_n (pc := 23) hx hb dX12_two_23 rfl (lv_at hl 1 rfl) ?_
        refine lv_iconst (pc := 24) (v := 0) hx hb dX12_two_24 (by decide) ?_
        obtain ⟨r_25, e_25, h⟩ := bnd_s h
        refine call_vi (pc := 25) (rest := []) [.int v1, .int 0] X Y (c_X12_countOf v1 0 e_25) sw_X12_144 (rv_X12 X Y) rfl ⟨rfl, rfl, Nat.le_of_ble_eq_true rfl, Nat.le_of_ble_eq_true rfl⟩ hl rfl (Nat.le_of_ble_eq_true rfl) dX12_two_25 (fun H locs Y => ?_)
        refine lv_istore_n (pc := 28) (lv' := [(3, .int r_25), (0, .ref (bd 0)), (1, .int v1), (2, .int v2)]) hx hb dX12_two_28 rfl hl (by decide) rfl (fun ls hl => ?_)
        refine lv_aload_n (pc := 29) hx hb dX12_two_29 rfl (lv_at hl 1 rfl) ?_
        refine lv_iload_n (pc := 30) hx hb dX12_two_30 rfl (lv_at hl 3 rfl) ?_
        refine lv_iconst (pc := 31) (v := 0) hx hb dX12_two_31 (by decide) ?_
        obtain ⟨r_32, e_32, h⟩ := bnd_s h
        refine call_vi (pc := 32) (rest := []) [.int v2, .int 0] X Y (c_X12_countOf v2 0 e_32) sw_X12_144 (rv_X12 X Y) rfl ⟨rfl, rfl, Nat.le_of_ble_eq_true rfl, Nat.le_of_ble_eq_true rfl⟩ hl rfl (Nat.le_of_ble_eq_true rfl) dX12_two_32 (fun H locs Y => ?_)
        refine lv_istore (pc := 35) (lv' := [(4, .int r_32), (3, .int r_25), (0, .ref (bd 0)), (1, .int v1), (2, .int v2)]) hx hb dX12_two_35 hl (by decide) rfl (fun ls hl => ?_)
        refine lv_iload_n (pc := 37) hx hb dX12_two_37 rfl (lv_at hl 1 rfl) ?_
        refine lv_if_eq (pc := 38) (tgt := 46) hx hb dX12_two_38 (by decide) (fun c_38 => ?_) (fun c_38 => ?_)
        · have h := itp c_38 h
          refine lv_bipush (pc := 46) (v := (-3)) hx hb dX12_two_46 (by decide) ?_
          obtain ⟨hr9, hm9⟩ := ret_e h
          exact fin_i (pc := 48) X rfl Y hr9 rfl hm9 dX12_two_48
        · have h := itn c_38 h
          refine lv_iload (pc := 41) hx hb dX12_two_41 (lv_at hl 0 rfl) ?_
          refine lv_if_ne (pc := 43) (tgt := 49) hx hb dX12_two_43 (by decide) (fun c_43 => ?_) (fun c_43 => ?_)
          · have h := itn c_43 h
            refine lv_iload_n (pc := 49) hx hb dX12_two_49 rfl (lv_at hl 1 rfl) ?_
            refine lv_iload (pc := 50) hx hb dX12_two_50 (lv_at hl 0 rfl) ?_
            refine lv_iadd (pc := 52) hx hb dX12_two_52 ?_
            refine lv_bipush (pc := 53) (v := 14) hx hb dX12_two_53 (by decide) ?_
            refine lv_icmp_le (pc := 55) (tgt := 61) hx hb dX12_two_55 (by decide) (fun c_55 => ?_) (fun c_55 => ?_)
            · have h := itp c_55 h
              refine lv_aload_n (pc := 61) hx hb dX12_two_61 rfl (lv_at hl 2 rfl) ?_
              refine lv_iload_n (pc := 62) hx hb dX12_two_62 rfl (lv_at hl 3 rfl) ?_
              refine lv_iconst (pc := 63) (v := 0) hx hb dX12_two_63 (by decide) ?_
              obtain ⟨r_64, e_64, h⟩ := bnd_s h
              refine call_vi (pc := 64) (rest := []) [.int v1, .int 0] X Y (c_X12_sumOf v1 0 e_64) sw_X12_165 (rv_X12 X Y) rfl ⟨rfl, rfl, Nat.le_of_ble_eq_true rfl, Nat.le_of_ble_eq_true rfl⟩ hl rfl (Nat.le_of_ble_eq_true rfl) dX12_two_64 (fun H locs Y => ?_)
              refine lv_istore (pc := 67) (lv' := [(5, .int r_64), (4, .int r_32), (3, .int r_25), (0, .ref (bd 0)), (1, .int v1), (2, .int v2)]) hx hb dX12_two_67 hl (by decide) rfl (fun ls hl => ?_)
              refine lv_iload (pc := 69) hx hb dX12_two_69 (lv_at hl 0 rfl) ?_
              refine lv_aload_n (pc := 71) hx hb dX12_two_71 rfl (lv_at hl 3 rfl) ?_
              refine lv_iload_n (pc := 72) hx hb dX12_two_72 rfl (lv_at hl 5 rfl) ?_
              refine lv_iconst (pc := 73) (v := 0) hx hb dX12_two_73 (by decide) ?_
              obtain ⟨r_74, e_74, h⟩ := bnd_s h
              refine call_vi (pc := 74) (rest := [.int r_64]) [.int v2, .int 0] X Y (c_X12_sumOf v2 0 e_74) sw_X12_165 (rv_X12 X Y) rfl ⟨rfl, rfl, Nat.le_of_ble_eq_true rfl, Nat.le_of_ble_eq_true rfl⟩ hl rfl (Nat.le_of_ble_eq_true rfl) dX12_two_74 (fun H locs Y => ?_)
              refine lv_iadd (pc := 77) hx hb dX12_two_77 ?_
              obtain ⟨v6_78, ev6_78, h⟩ := lt_s_ h
              refine top_i ev6_78 ?_
              refine lv_istore (pc := 78) (lv' := [(6, .int v6_78), (5, .int r_64), (4, .int r_32), (3, .int r_25), (0, .ref (bd 0)), (1, .int v1), (2, .int v2)]) hx hb dX12_two_78 hl (by decide) rfl (fun ls hl => ?_)
              refine lv_iload (pc := 80) hx hb dX12_two_80 (lv_at hl 1 rfl) ?_
              refine lv_iload (pc := 82) hx hb dX12_two_82 (lv_at hl 2 rfl) ?_
              refine lv_imul (pc := 84) hx hb dX12_two_84 ?_
              refine lv_iload (pc := 85) hx hb dX12_two_85 (lv_at hl 0 rfl) ?_
              refine lv_iload (pc := 87) hx hb dX12_two_87 (lv_at hl 1 rfl) ?_
              refine lv_isub (pc := 89) hx hb dX12_two_89 ?_
              refine lv_iload_n (pc := 90) hx hb dX12_two_90 rfl (lv_at hl 3 rfl) ?_
              refine lv_imul (pc := 91) hx hb dX12_two_91 ?_
              refine lv_isub (pc := 92) hx hb dX12_two_92 ?_
              refine call_si (pc := 93) (rest := []) [.int ((r_64 * r_32) - ((v6_78 - r_64) * r_25))] X Y (c_X12_amount ((r_64 * r_32) - ((v6_78 - r_64) * r_25))) sw_X12_204 rfl ⟨rfl, rfl, Nat.le_of_ble_eq_true rfl, Nat.le_of_ble_eq_true rfl⟩ hl rfl (Nat.le_of_ble_eq_true rfl) dX12_two_93 (fun H locs Y => ?_)
              obtain ⟨v7_96, ev7_96, h⟩ := lt_s_ h
              refine top_i ev7_96 ?_
              refine lv_istore (pc := 96) (lv' := [(7, .int v7_96), (6, .int v6_78), (5, .int r_64), (4, .int r_32), (3, .int r_25), (0, .ref (bd 0)), (1, .int v1), (2, .int v2)]) hx hb dX12_two_96 hl (by decide) rfl (fun ls hl => ?_)
              refine lv_iconst (pc := 98) (v := 0) hx hb dX12_two_98 (by decide) ?_
              refine lv_istore (pc := 99) (lv' := [(8, .int 0), (7, .int v7_96), (6, .int v6_78), (5, .int r_64), (4, .int r_32), (3, .int r_25), (0, .ref (bd 0)), (1, .int v1), (2, .int v2)]) hx hb dX12_two_99 hl (by decide) rfl (fun ls hl => ?_)
              refine lv_iconst (pc := 101) (v := 0) hx hb dX12_two_101 (by decide) ?_
              refine lv_istore (pc := 102) (lv' := [(9, .int 0), (8, .int 0), (7, .int v7_96), (6, .int v6_78), (5, .int r_64), (4, .int r_32), (3, .int r_25), (0, .ref (bd 0)), (1, .int v1), (2, .int v2)]) hx hb dX12_two_102 hl (by decide) rfl (fun ls hl => ?_)
              refine WL_X12_two_104 v1 v2 r_25 r_32 v6_78 v7_96 X (fun D_158 H locs ls Y hl h => ?_) FU 0 0 D H locs ls Y (lv_sub hl [7, 8, 9, 6, 5, 3, 2, 1, 0] rfl) h
              refine lv_lconst (pc := 158) (v := 0) hx hb dX12_two_158 (by decide) ?_
              refine lv_lstore (pc := 159) (lv' := [(9, .long 0), (0, .ref (bd 0)), (3, .int r_25), (4, .int r_32), (6, .int v6_78), (7, .int v7_96)]) hx hb dX12_two_159 hl (by decide) rfl (fun ls hl => ?_)
              refine lv_lconst (pc := 161) (v := 0) hx hb dX12_two_161 (by decide) ?_
              refine lv_lstore (pc := 162) (lv' := [(11, .long 0), (9, .long 0), (0, .ref (bd 0)), (3, .int r_25), (4, .int r_32), (6, .int v6_78), (7, .int v7_96)]) hx hb dX12_two_162 hl (by decide) rfl (fun ls hl => ?_)
              refine lv_iconst (pc := 164) (v := 0) hx hb dX12_two_164 (by decide) ?_
              refine lv_istore (pc := 165) (lv' := [(13, .int 0), (11, .long 0), (9, .long 0), (0, .ref (bd 0)), (3, .int r_25), (4, .int r_32), (6, .int v6_78), (7, .int v7_96)]) hx hb dX12_two_165 hl (by decide) rfl (fun ls hl => ?_)
              refine WL_X12_two_167 r_25 r_32 v6_78 v7_96 D_158 X (fun v9_277 v11_277 H locs ls Y hl h => ?_) FU 0 0 0 H locs ls Y (lv_sub hl [3, 4, 5, 6, 7, 2, 1, 0] rfl) h
              refine lv_ldc2 (pc := 277) (v := 1000000) hx hb X.2.2.2.1 (X.2.2.2.2.1 _ w_895eabeee8) dX12_two_277 ?_
              refine lv_lload (pc := 280) hx hb dX12_two_280 (lv_at hl 1 rfl) ?_
              refine lv_lmul (pc := 282) hx hb dX12_two_282 ?_
              refine lv_lload (pc := 283) hx hb dX12_two_283 (lv_at hl 0 rfl) ?_
              obtain ⟨g_285, h⟩ := gd_s h
              refine lv_ldiv (pc := 285) hx hb dX12_two_285 (of_decide_eq_true g_285) ?_
              refine lv_l2i (pc := 286) hx hb dX12_two_286 rfl ?_
              obtain ⟨hr9, hm9⟩ := ret_e h
              exact fin_i (pc := 287) X rfl Y hr9 rfl hm9 dX12_two_287
            · have h := itn c_55 h
              refine lv_bipush (pc := 58) (v := (-4)) hx hb dX12_two_58 (by decide) ?_
              obtain ⟨hr9, hm9⟩ := ret_e h
              exact fin_i (pc := 60) X rfl Y hr9 rfl hm9 dX12_two_60
          · have h := itp c_43 h
            refine lv_bipush (pc := 46) (v := (-3)) hx hb dX12_two_46 (by decide) ?_
            obtain ⟨hr9, hm9⟩ := ret_e h
            exact fin_i (pc := 48) X rfl Y hr9 rfl hm9 dX12_two_48
      · have h := itp c_16 h
        refine lv_bipush (pc := 19) (v := (-2)) hx hb dX12_two_19 (by decide) ?_
        obtain ⟨hr9, hm9⟩ := ret_e h
        exact fin_i (pc := 21) X rfl Y hr9 rfl hm9 dX12_two_21
abbrev rm_X12_thing : Room := { frames := 1, cells := 0, slots := 0, locals := 22 }
set_option maxHeartbeats 4000000 in
set_option maxRecDepth 100000 in
theorem c_X12_thing {r9 : Int32} {D9 : Mem} (v1 : Int32) (v2 : Int32) (v3 : Int32) (v4 : Int32) (h : f_X12_thing v1 v2 v3 v4 D = some (r9, D9)) : Ct l dC dI ad bd cI cZ yX12_thing cX12_thing 5 (some .int) rm_X12_thing [.ref (bd 0), .int v1, .int v2, .int v3, .int v4] C D (some (.int r9)) C D9 := by
  unfold f_X12_thing at h
  refine Ct.intro (own := RX12) (by decide) rfl (Nat.le_of_ble_eq_true rfl) ?_
  intro p e s m args below meth c H locs ls X Y hl
  have hx := X.1
  have hb := X.2.1
  have hl : lv_has ls 5 [(0, .ref (bd 0)), (1, .int v1), (2, .int v2), (3, .int v3), (4, .int v4)] := hl
  refine lv_iload_n (pc := 0) hx hb dX12_thing_0 rfl (lv_at hl 1 rfl) ?_
  refine lv_iconst (pc := 1) (v := 0) hx hb dX12_thing_1 (by decide) ?_
  refine lv_bipush (pc := 2) (v := 99) hx hb dX12_thing_2 (by decide) ?_
  refine call_si (pc := 4) (rest := []) [.int v1, .int 0, .int 99] X Y (c_X12_in v1 0 99) sw_X12_107 rfl ⟨rfl, rfl, Nat.le_of_ble_eq_true rfl, Nat.le_of_ble_eq_true rfl⟩ hl rfl (Nat.le_of_ble_eq_true rfl) dX12_thing_4 (fun H locs Y => ?_)
  refine lv_if_eq (pc := 7) (tgt := 41) hx hb dX12_thing_7 (by decide) (fun c_7 => ?_) (fun c_7 => ?_)
  · have h := itn (b2i_f c_7) h
    refine lv_bipush (pc := 41) (v := (-2)) hx hb dX12_thing_41 (by decide) ?_
    obtain ⟨hr9, hm9⟩ := ret_e h
    exact fin_i (pc := 43) X rfl Y hr9 rfl hm9 dX12_thing_43
  · have h := itp (b2i_t c_7) h
    refine lv_iload_n (pc := 10) hx hb dX12_thing_10 rfl (lv_at hl 2 rfl) ?_
    refine lv_iconst (pc := 11) (v := 0) hx hb dX12_thing_11 (by decide) ?_
    refine lv_bipush (pc := 12) (v := 99) hx hb dX12_thing_12 (by decide) ?_
    refine call_si (pc := 14) (rest := []) [.int v2, .int 0, .int 99] X Y (c_X12_in v2 0 99) sw_X12_107 rfl ⟨rfl, rfl, Nat.le_of_ble_eq_true rfl, Nat.le_of_ble_eq_true rfl⟩ hl rfl (Nat.le_of_ble_eq_true rfl) dX12_thing_14 (fun H locs Y => ?_)
    refine lv_if_eq (pc := 17) (tgt := 41) hx hb dX12_thing_17 (by decide) (fun c_17 => ?_) (fun c_17 => ?_)
    · have h := itn (b2i_f c_17) h
      refine lv_bipush (pc := 41) (v := (-2)) hx hb dX12_thing_41 (by decide) ?_
      obtain ⟨hr9, hm9⟩ := ret_e h
      exact fin_i (pc := 43) X rfl Y hr9 rfl hm9 dX12_thing_43
    · have h := itp (b2i_t c_17) h
      refine lv_iload_n (pc := 20) hx hb dX12_thing_20 rfl (lv_at hl 3 rfl) ?_
      refine lv_iconst (pc := 21) (v := 0) hx hb dX12_thing_21 (by decide) ?_
      refine lv_bipush (pc := 22) (v := 99) hx hb dX12_thing_22 (by decide) ?_
      refine call_si (pc := 24) (rest := []) [.int v3, .int 0, .int 99] X Y (c_X12_in v3 0 99) sw_X12_107 rfl ⟨rfl, rfl, Nat.le_of_ble_eq_true rfl, Nat.le_of_ble_eq_true rfl⟩ hl rfl (Nat.le_of_ble_eq_true rfl) dX12_thing_24 (fun H locs Y => ?_)
      refine lv_if_eq (pc := 27) (tgt := 41) hx hb dX12_thing_27 (by decide) (fun c_27 => ?_) (fun c_27 => ?_)
      · have h := itn (b2i_f c_27) h
        refine lv_bipush (pc := 41) (v := (-2)) hx hb dX12_thing_41 (by decide) ?_
        obtain ⟨hr9, hm9⟩ := ret_e h
        exact fin_i (pc := 43) X rfl Y hr9 rfl hm9 dX12_thing_43
      · have h := itp (b2i_t c_27) h
        refine lv_iload (pc := 30) hx hb dX12_thing_30 (lv_at hl 4 rfl) ?_
        refine lv_iconst (pc := 32) (v := 0) hx hb dX12_thing_32 (by decide) ?_
        refine lv_bipush (pc := 33) (v := 99) hx hb dX12_thing_33 (by decide) ?_
        refine call_si (pc := 35) (rest := []) [.int v4, .int 0, .int 99] X Y (c_X12_in v4 0 99) sw_X12_107 rfl ⟨rfl, rfl, Nat.le_of_ble_eq_true rfl, Nat.le_of_ble_eq_true rfl⟩ hl rfl (Nat.le_of_ble_eq_true rfl) dX12_thing_35 (fun H locs Y => ?_)
        refine lv_if_ne (pc := 38) (tgt := 44) hx hb dX12_thing_38 (by decide) (fun c_38 => ?_) (fun c_38 => ?_)
        · have h := itp (b2i_t c_38) h
          refine lv_aload_n (pc := 44) hx hb dX12_thing_44 rfl (lv_at hl 0 rfl) ?_
          refine gf_X12_251 (pc := 45) X Y dX12_thing_45 ?_
          refine lv_bipush (pc := 48) (v := 6) hx hb dX12_thing_48 (by decide) ?_
          refine lv_icmp_ne (pc := 50) (tgt := 56) hx hb dX12_thing_50 (by decide) (fun c_50 => ?_) (fun c_50 => ?_)
          · have h := itn c_50 h
            refine lv_aload_n (pc := 56) hx hb dX12_thing_56 rfl (lv_at hl 0 rfl) ?_
            refine gf_X12_71 (pc := 57) X Y dX12_thing_57 ?_
            refine lv_iconst (pc := 60) (v := 4) hx hb dX12_thing_60 (by decide) ?_
            refine lv_aload_n (pc := 61) hx hb dX12_thing_61 rfl (lv_at hl 0 rfl) ?_
            refine gf_X12_251 (pc := 62) X Y dX12_thing_62 ?_
            refine lv_imul (pc := 65) hx hb dX12_thing_65 ?_
            refine lv_iload_n (pc := 66) hx hb dX12_thing_66 rfl (lv_at hl 1 rfl) ?_
            obtain ⟨g_67, h⟩ := gd_s h
            obtain ⟨D_67, hD_67, h⟩ := sto_s h
            refine r_iastm (pc := 67) X Y (cm_20 bd cI cZ) g_67 hD_67 dX12_thing_67 (fun H locs Y => ?_)
            refine lv_aload_n (pc := 68) hx hb dX12_thing_68 rfl (lv_at hl 0 rfl) ?_
            refine gf_X12_71 (pc := 69) X Y dX12_thing_69 ?_
            refine lv_iconst (pc := 72) (v := 4) hx hb dX12_thing_72 (by decide) ?_
            refine lv_aload_n (pc := 73) hx hb dX12_thing_73 rfl (lv_at hl 0 rfl) ?_
            refine gf_X12_251 (pc := 74) X Y dX12_thing_74 ?_
            refine lv_imul (pc := 77) hx hb dX12_thing_77 ?_
            refine lv_iconst (pc := 78) (v := 1) hx hb dX12_thing_78 (by decide) ?_
            refine lv_iadd (pc := 79) hx hb dX12_thing_79 ?_
            refine lv_iload_n (pc := 80) hx hb dX12_thing_80 rfl (lv_at hl 2 rfl) ?_
            obtain ⟨g_81, h⟩ := gd_s h
            obtain ⟨D_81, hD_81, h⟩ := sto_s h
            refine r_iastm (pc := 81) X Y (cm_20 bd cI cZ) g_81 hD_81 dX12_thing_81 (fun H locs Y => ?_)
            refine lv_aload_n (pc := 82) hx hb dX12_thing_82 rfl (lv_at hl 0 rfl) ?_
            refine gf_X12_71 (pc := 83) X Y dX12_thing_83 ?_
            refine lv_iconst (pc := 86) (v := 4) hx hb dX12_thing_86 (by decide) ?_
            refine lv_aload_n (pc := 87) hx hb dX12_thing_87 rfl (lv_at hl 0 rfl) ?_
            refine gf_X12_251 (pc := 88) X Y dX12_thing_88 ?_
            refine lv_imul (pc := 91) hx hb dX12_thing_91 ?_
            refine lv_iconst (pc := 92) (v := 2) hx hb dX12_thing_92 (by decide) ?_
            refine lv_iadd (pc := 93) hx hb dX12_thing_93 ?_
            refine lv_iload_n (pc := 94) hx hb dX12_thing_94 rfl (lv_at hl 3 rfl) ?_
            obtain ⟨g_95, h⟩ := gd_s h
            obtain ⟨D_95, hD_95, h⟩ := sto_s h
            refine r_iastm (pc := 95) X Y (cm_20 bd cI cZ) g_95 hD_95 dX12_thing_95 (fun H locs Y => ?_)
            refine lv_aload_n (pc := 96) hx hb dX12_thing_96 rfl (lv_at hl 0 rfl) ?_
            refine gf_X12_71 (pc := 97) X Y dX12_thing_97 ?_
            refine lv_iconst (pc := 100) (v := 4) hx hb dX12_thing_100 (by decide) ?_
            refine lv_aload_n (pc := 101) hx hb dX12_thing_101 rfl (lv_at hl 0 rfl) ?_
            refine gf_X12_251 (pc := 102) X Y dX12_thing_102 ?_
            refine lv_imul (pc := 105) hx hb dX12_thing_105 ?_
            refine lv_iconst (pc := 106) (v := 3) hx hb dX12_thing_106 (by decide) ?_
            refine lv_iadd (pc := 107) hx hb dX12_thing_107 ?_
            refine lv_iload (pc := 108) hx hb dX12_thing_108 (lv_at hl 4 rfl) ?_
            obtain ⟨g_110, h⟩ := gd_s h
            obtain ⟨D_110, hD_110, h⟩ := sto_s h
            refine r_iastm (pc := 110) X Y (cm_20 bd cI cZ) g_110 hD_110 dX12_thing_110 (fun H locs Y => ?_)
            refine lv_aload_n (pc := 111) hx hb dX12_thing_111 rfl (lv_at hl 0 rfl) ?_
            refine lv_dup (pc := 112) hx hb dX12_thing_112 rfl ?_
            refine gf_X12_251 (pc := 113) X Y dX12_thing_113 ?_
            refine lv_iconst (pc := 116) (v := 1) hx hb dX12_thing_116 (by decide) ?_
            refine lv_iadd (pc := 117) hx hb dX12_thing_117 ?_
            obtain ⟨D_118, hD_118, h⟩ := sto_s h
            refine pf_X12_251 (pc := 118) X Y hD_118 dX12_thing_118 (fun H locs Y => ?_)
            refine lv_aload_n (pc := 121) hx hb dX12_thing_121 rfl (lv_at hl 0 rfl) ?_
            refine gf_X12_251 (pc := 122) X Y dX12_thing_122 ?_
            refine lv_iconst (pc := 125) (v := 1) hx hb dX12_thing_125 (by decide) ?_
            refine lv_isub (pc := 126) hx hb dX12_thing_126 ?_
            obtain ⟨hr9, hm9⟩ := ret_e h
            exact fin_i (pc := 127) X rfl Y hr9 rfl hm9 dX12_thing_127
          · have h := itp c_50 h
            refine lv_bipush (pc := 53) (v := (-4)) hx hb dX12_thing_53 (by decide) ?_
            obtain ⟨hr9, hm9⟩ := ret_e h
            exact fin_i (pc := 55) X rfl Y hr9 rfl hm9 dX12_thing_55
        · have h := itn (b2i_f c_38) h
          refine lv_bipush (pc := 41) (v := (-2)) hx hb dX12_thing_41 (by decide) ?_
          obtain ⟨hr9, hm9⟩ := ret_e h
          exact fin_i (pc := 43) X rfl Y hr9 rfl hm9 dX12_thing_43
abbrev rm_X12_way : Room := { frames := 0, cells := 0, slots := 0, locals := 0 }
set_option maxHeartbeats 4000000 in
set_option maxRecDepth 100000 in
theorem c_X12_way (v0 : Int32) : Ct l dC dI ad bd cI cZ yX12_way cX12_way 1 (some .int) rm_X12_way [.int v0] C D (some (.int (f_X12_way v0))) C D := by
  obtain ⟨r9, h⟩ : ∃ r9, f_X12_way v0 = r9 := ⟨_, rfl⟩
  rw [h]
  unfold f_X12_way at h
  refine Ct.intro (own := RX12) (by decide) rfl (Nat.le_of_ble_eq_true rfl) ?_
  intro p e s m args below meth c H locs ls X Y hl
  have hx := X.1
  have hb := X.2.1
  have hl : lv_has ls 1 [(0, .int v0)] := hl
  refine lv_iload_n (pc := 0) hx hb dX12_way_0 rfl (lv_at hl 0 rfl) ?_
  refine lv_if_le (pc := 1) (tgt := 8) hx hb dX12_way_1 (by decide) (fun c_1 => ?_) (fun c_1 => ?_)
  · have h := itp c_1 h
    refine lv_iload_n (pc := 8) hx hb dX12_way_8 rfl (lv_at hl 0 rfl) ?_
    refine lv_if_ge (pc := 9) (tgt := 16) hx hb dX12_way_9 (by decide) (fun c_9 => ?_) (fun c_9 => ?_)
    · have h := itp c_9 h
      refine lv_iconst (pc := 16) (v := 0) hx hb dX12_way_16 (by decide) ?_
      have hr9 := h
      exact fin_i (pc := 17) X rfl Y hr9 rfl rfl dX12_way_17
    · have h := itn c_9 h
      refine lv_iconst (pc := 12) (v := (-1)) hx hb dX12_way_12 (by decide) ?_
      refine lv_goto (pc := 13) (tgt := 17) hx hb dX12_way_13 (by decide) ?_
      have hr9 := h
      exact fin_i (pc := 17) X rfl Y hr9 rfl rfl dX12_way_17
  · have h := itn c_1 h
    refine lv_iconst (pc := 4) (v := 1) hx hb dX12_way_4 (by decide) ?_
    refine lv_goto (pc := 5) (tgt := 17) hx hb dX12_way_5 (by decide) ?_
    have hr9 := h
    exact fin_i (pc := 17) X rfl Y hr9 rfl rfl dX12_way_17
abbrev rm_X12_gathers : Room := { frames := 3, cells := 0, slots := 0, locals := 68 }
set_option maxHeartbeats 4000000 in
set_option maxRecDepth 100000 in
theorem WB_X12_gathers_51 {D9 : Mem} (v1 : Int32) (D : Mem) (X : Cx p s m args meth c cX12_gathers RX12 2 (none) dC dI ad bd cI cZ) {kb : Int32 → Mem → Option Mem} (hkb : ∀ (v1' : Int32) (D' : Mem) (H : Heap) (locs : List Loc) (ls : Array Slot), Ys s dC dI ad bd cI cZ C D' H locs → lv_has ls 2 [(0, .ref (bd 0)), (1, .int v1')] → kb v1' D' = some D9 → W p l e rm_X12_gathers s m args below meth c H locs 0 0 (MQ below (QC (none) dC dI ad bd cI cZ C D9) args s 0 0 (AD ad bd)) (F0 m 7 ls [])) {H : Heap} {locs : List Loc} {ls : Array Slot} (Y : Ys s dC dI ad bd cI cZ C D H locs) (hl : lv_has ls 2 [(0, .ref (bd 0)), (1, .int v1)]) (h : B_X12_gathers_51 v1 D kb = some D9) : W p l e rm_X12_gathers s m args below meth c H locs 0 0 (MQ below (QC (none) dC dI ad bd cI cZ C D9) args s 0 0 (AD ad bd)) (F0 m 51 ls []) := by
  have hx := X.1
  have hb := X.2.1
  unfold B_X12_gathers_51 at h
  obtain ⟨v1_51, ev1_51, h⟩ := lt_s_ h
  refine lv_iinc (pc := 51) (v := v1_51) (lv' := [(1, .int v1_51), (0, .ref (bd 0))]) hx hb dX12_gathers_51 hl (k := 1) rfl (by rw [ev1_51]; rfl) (by decide) rfl (fun ls hl => ?_)
  refine lv_goto (pc := 54) (tgt := 7) hx hb dX12_gathers_54 (by decide) ?_
  exact hkb v1_51 D H locs ls Y (lv_sub hl [1, 0] rfl) h
set_option maxHeartbeats 4000000 in
set_option maxRecDepth 100000 in
theorem WL_X12_gathers_7 {D9 : Mem} (X : Cx p s m args meth c cX12_gathers RX12 2 (none) dC dI ad bd cI cZ) {kx : Mem → Option Mem} (hkx : ∀ (D' : Mem) (H : Heap) (locs : List Loc) (ls : Array Slot), Ys s dC dI ad bd cI cZ C D' H locs → lv_has ls 2 [] → kx D' = some D9 → W p l e rm_X12_gathers s m args below meth c H locs 0 0 (MQ below (QC (none) dC dI ad bd cI cZ C D9) args s 0 0 (AD ad bd)) (F0 m 57 ls [])) : ∀ (n_ : Nat) (v1 : Int32) (D : Mem) (H : Heap) (locs : List Loc) (ls : Array Slot), Ys s dC dI ad bd cI cZ C D H locs → lv_has ls 2 [(0, .ref (bd 0)), (1, .int v1)] → L_X12_gathers_7 kx n_ v1 D = some D9 → W p l e rm_X12_gathers s m args below meth c H locs 0 0 (MQ below (QC (none) dC dI ad bd cI cZ C D9) args s 0 0 (AD ad bd)) (F0 m 7 ls []) := by
  have hx := X.1
  have hb := X.2.1
  intro n_
  induction n_ with
  | zero =>
    intro v1 D H locs ls Y hl h
    cases h
  | succ n_ ih =>
    intro v1 D H locs ls Y hl h
    unfold L_X12_gathers_7 at h
    refine lv_iload_n (pc := 7) hx hb dX12_gathers_7 rfl (lv_at hl 1 rfl) ?_
    refine lv_iconst (pc := 8) (v := 4) hx hb dX12_gathers_8 (by decide) ?_
    refine lv_icmp_ge (pc := 9) (tgt := 57) hx hb dX12_gathers_9 (by decide) (fun c_9 => ?_) (fun c_9 => ?_)
    · have h := itp c_9 h
      exact hkx D H locs ls Y (lv_sub hl [] rfl) h
    · have h := itn c_9 h
      refine lv_aload_n (pc := 12) hx hb dX12_gathers_12 rfl (lv_at hl 0 rfl) ?_
      refine lv_iload_n (pc := 13) hx hb dX12_gathers_13 rfl (lv_at hl 1 rfl) ?_
      refine lv_iconst (pc := 14) (v := 0) hx hb dX12_gathers_14 (by decide) ?_
      obtain ⟨r_15, e_15, h⟩ := bnd_s h
      refine call_vi (pc := 15) (rest := []) [.int v1, .int 0] X Y (c_X12_countOf v1 0 e_15) sw_X12_144 (rv_X12 X Y) rfl ⟨rfl, rfl, Nat.le_of_ble_eq_true rfl, Nat.le_of_ble_eq_true rfl⟩ hl rfl (Nat.le_of_ble_eq_true rfl) dX12_gathers_15 (fun H locs Y => ?_)
      refine lv_if_le (pc := 18) (tgt := 51) hx hb dX12_gathers_18 (by decide) (fun c_18 => ?_) (fun c_18 => ?_)
      · have h := itp c_18 h
        exact WB_X12_gathers_51 v1 D X (kb := (L_X12_gathers_7 kx n_)) ih Y (lv_sub hl [0, 1] rfl) h
      · have h := itn c_18 h
        refine lv_aload_n (pc := 21) hx hb dX12_gathers_21 rfl (lv_at hl 0 rfl) ?_
        refine gf_X12_74 (pc := 22) X Y dX12_gathers_22 ?_
        refine lv_aload_n (pc := 25) hx hb dX12_gathers_25 rfl (lv_at hl 0 rfl) ?_
        refine gf_X12_254 (pc := 26) X Y dX12_gathers_26 ?_
        refine lv_iload_n (pc := 29) hx hb dX12_gathers_29 rfl (lv_at hl 1 rfl) ?_
        obtain ⟨g_30, h⟩ := gd_s h
        obtain ⟨D_30, hD_30, h⟩ := sto_s h
        refine r_iastm (pc := 30) X Y (cm_21 bd cI cZ) g_30 hD_30 dX12_gathers_30 (fun H locs Y => ?_)
        refine lv_aload_n (pc := 31) hx hb dX12_gathers_31 rfl (lv_at hl 0 rfl) ?_
        refine gf_X12_77 (pc := 32) X Y dX12_gathers_32 ?_
        refine lv_aload_n (pc := 35) hx hb dX12_gathers_35 rfl (lv_at hl 0 rfl) ?_
        refine gf_X12_254 (pc := 36) X Y dX12_gathers_36 ?_
        refine lv_iload_n (pc := 39) hx hb dX12_gathers_39 rfl (lv_at hl 1 rfl) ?_
        obtain ⟨g_40, h⟩ := gd_s h
        obtain ⟨D_40, hD_40, h⟩ := sto_s h
        refine r_iastm (pc := 40) X Y (cm_22 bd cI cZ) g_40 hD_40 dX12_gathers_40 (fun H locs Y => ?_)
        refine lv_aload_n (pc := 41) hx hb dX12_gathers_41 rfl (lv_at hl 0 rfl) ?_
        refine lv_dup (pc := 42) hx hb dX12_gathers_42 rfl ?_
        refine gf_X12_254 (pc := 43) X Y dX12_gathers_43 ?_
        refine lv_iconst (pc := 46) (v := 1) hx hb dX12_gathers_46 (by decide) ?_
        refine lv_iadd (pc := 47) hx hb dX12_gathers_47 ?_
        obtain ⟨D_48, hD_48, h⟩ := sto_s h
        refine pf_X12_254 (pc := 48) X Y hD_48 dX12_gathers_48 (fun H locs Y => ?_)
        exact WB_X12_gathers_51 v1 D_48 X (kb := (L_X12_gathers_7 kx n_)) ih Y (lv_sub hl [0, 1] rfl) h
set_option maxHeartbeats 4000000 in
set_option maxRecDepth 100000 in
theorem c_X12_gathers {D9 : Mem} (h : f_X12_gathers D = some D9) : Ct l dC dI ad bd cI cZ yX12_gathers cX12_gathers 2 (none) rm_X12_gathers [.ref (bd 0)] C D (none) C D9 := by
  unfold f_X12_gathers at h
  refine Ct.intro (own := RX12) (by decide) rfl (Nat.le_of_ble_eq_true rfl) ?_
  intro p e s m args below meth c H locs ls X Y hl
  have hx := X.1
  have hb := X.2.1
  have hl : lv_has ls 2 [(0, .ref (bd 0))] := hl
  refine lv_aload_n (pc := 0) hx hb dX12_gathers_0 rfl (lv_at hl 0 rfl) ?_
  refine lv_iconst (pc := 1) (v := 0) hx hb dX12_gathers_1 (by decide) ?_
  obtain ⟨D_2, hD_2, h⟩ := sto_s h
  refine pf_X12_254 (pc := 2) X Y hD_2 dX12_gathers_2 (fun H locs Y => ?_)
  refine lv_iconst (pc := 5) (v := 0) hx hb dX12_gathers_5 (by decide) ?_
  refine lv_istore_n (pc := 6) (lv' := [(1, .int 0), (0, .ref (bd 0))]) hx hb dX12_gathers_6 rfl hl (by decide) rfl (fun ls hl => ?_)
  refine WL_X12_gathers_7 X (fun D_57 H locs ls Y hl h => ?_) FU 0 D_2 H locs ls Y (lv_sub hl [1, 0] rfl) h
  have hm9 := ret_v h
  exact fin_v (pc := 57) X rfl Y rfl hm9 dX12_gathers_57
abbrev rm_X12_goesBy : Room := { frames := 3, cells := 0, slots := 0, locals := 68 }
set_option maxHeartbeats 4000000 in
set_option maxRecDepth 100000 in
theorem WL_X12_goesBy_15 {r9 : Int32} (v1 : Int32) (v3 : Int32) (D : Mem) (X : Cx p s m args meth c cX12_goesBy RX12 6 (some .int) dC dI ad bd cI cZ) {kx : Int32 → Option Int32} (hkx : ∀ (v2' : Int32) (H : Heap) (locs : List Loc) (ls : Array Slot), Ys s dC dI ad bd cI cZ C D H locs → lv_has ls 6 [(0, .ref (bd 0)), (1, .int v1), (2, .int v2'), (3, .int v3)] → kx v2' = some r9 → W p l e rm_X12_goesBy s m args below meth c H locs 0 0 (MQ below (QC (some (.int r9)) dC dI ad bd cI cZ C D) args s 0 0 (AD ad bd)) (F0 m 122 ls [])) : ∀ (n_ : Nat) (v2 : Int32) (v4 : Int32) (H : Heap) (locs : List Loc) (ls : Array Slot), Ys s dC dI ad bd cI cZ C D H locs → lv_has ls 6 [(0, .ref (bd 0)), (1, .int v1), (2, .int v2), (3, .int v3), (4, .int v4)] → L_X12_goesBy_15 v1 v3 D kx n_ v2 v4 = some r9 → W p l e rm_X12_goesBy s m args below meth c H locs 0 0 (MQ below (QC (some (.int r9)) dC dI ad bd cI cZ C D) args s 0 0 (AD ad bd)) (F0 m 15 ls []) := by
  have hx := X.1
  have hb := X.2.1
  intro n_
  induction n_ with
  | zero =>
    intro v2 v4 H locs ls Y hl h
    cases h
  | succ n_ ih =>
    intro v2 v4 H locs ls Y hl h
    unfold L_X12_goesBy_15 at h
    refine lv_iload (pc := 15) hx hb dX12_goesBy_15 (lv_at hl 4 rfl) ?_
    refine lv_iload_n (pc := 17) hx hb dX12_goesBy_17 rfl (lv_at hl 3 rfl) ?_
    refine lv_icmp_ge (pc := 18) (tgt := 122) hx hb dX12_goesBy_18 (by decide) (fun c_18 => ?_) (fun c_18 => ?_)
    · have h := itp c_18 h
      exact hkx v2 H locs ls Y (lv_sub hl [0, 1, 2, 3] rfl) h
    · have h := itn c_18 h
      refine lv_aload_n (pc := 21) hx hb dX12_goesBy_21 rfl (lv_at hl 0 rfl) ?_
      refine lv_aload_n (pc := 22) hx hb dX12_goesBy_22 rfl (lv_at hl 0 rfl) ?_
      refine gf_X12_77 (pc := 23) X Y dX12_goesBy_23 ?_
      refine lv_iload_n (pc := 26) hx hb dX12_goesBy_26 rfl (lv_at hl 3 rfl) ?_
      obtain ⟨g_27, h⟩ := gd_s h
      refine r_ialdm (pc := 27) X Y (cm_22 bd cI cZ) g_27 dX12_goesBy_27 ?_
      refine lv_iconst (pc := 28) (v := 0) hx hb dX12_goesBy_28 (by decide) ?_
      obtain ⟨r_29, e_29, h⟩ := bnd_s h
      refine call_vi (pc := 29) (rest := []) [.int (D 22 v3.toNatClampNeg), .int 0] X Y (c_X12_sumOf (D 22 v3.toNatClampNeg) 0 e_29) sw_X12_165 (rv_X12 X Y) rfl ⟨rfl, rfl, Nat.le_of_ble_eq_true rfl, Nat.le_of_ble_eq_true rfl⟩ hl rfl (Nat.le_of_ble_eq_true rfl) dX12_goesBy_29 (fun H locs Y => ?_)
      refine lv_aload_n (pc := 32) hx hb dX12_goesBy_32 rfl (lv_at hl 0 rfl) ?_
      refine lv_aload_n (pc := 33) hx hb dX12_goesBy_33 rfl (lv_at hl 0 rfl) ?_
      refine gf_X12_77 (pc := 34) X Y dX12_goesBy_34 ?_
      refine lv_iload (pc := 37) hx hb dX12_goesBy_37 (lv_at hl 4 rfl) ?_
      obtain ⟨g_39, h⟩ := gd_s h
      refine r_ialdm (pc := 39) X Y (cm_22 bd cI cZ) g_39 dX12_goesBy_39 ?_
      refine lv_iconst (pc := 40) (v := 0) hx hb dX12_goesBy_40 (by decide) ?_
      obtain ⟨r_41, e_41, h⟩ := bnd_s h
      refine call_vi (pc := 41) (rest := [.int r_29]) [.int (D 22 v4.toNatClampNeg), .int 0] X Y (c_X12_countOf (D 22 v4.toNatClampNeg) 0 e_41) sw_X12_144 (rv_X12 X Y) rfl ⟨rfl, rfl, Nat.le_of_ble_eq_true rfl, Nat.le_of_ble_eq_true rfl⟩ hl rfl (Nat.le_of_ble_eq_true rfl) dX12_goesBy_41 (fun H locs Y => ?_)
      refine lv_imul (pc := 44) hx hb dX12_goesBy_44 ?_
      refine lv_aload_n (pc := 45) hx hb dX12_goesBy_45 rfl (lv_at hl 0 rfl) ?_
      refine lv_aload_n (pc := 46) hx hb dX12_goesBy_46 rfl (lv_at hl 0 rfl) ?_
      refine gf_X12_77 (pc := 47) X Y dX12_goesBy_47 ?_
      refine lv_iload (pc := 50) hx hb dX12_goesBy_50 (lv_at hl 4 rfl) ?_
      obtain ⟨g_52, h⟩ := gd_s h
      refine r_ialdm (pc := 52) X Y (cm_22 bd cI cZ) g_52 dX12_goesBy_52 ?_
      refine lv_iconst (pc := 53) (v := 0) hx hb dX12_goesBy_53 (by decide) ?_
      obtain ⟨r_54, e_54, h⟩ := bnd_s h
      refine call_vi (pc := 54) (rest := [.int (r_29 * r_41)]) [.int (D 22 v4.toNatClampNeg), .int 0] X Y (c_X12_sumOf (D 22 v4.toNatClampNeg) 0 e_54) sw_X12_165 (rv_X12 X Y) rfl ⟨rfl, rfl, Nat.le_of_ble_eq_true rfl, Nat.le_of_ble_eq_true rfl⟩ hl rfl (Nat.le_of_ble_eq_true rfl) dX12_goesBy_54 (fun H locs Y => ?_)
      refine lv_aload_n (pc := 57) hx hb dX12_goesBy_57 rfl (lv_at hl 0 rfl) ?_
      refine lv_aload_n (pc := 58) hx hb dX12_goesBy_58 rfl (lv_at hl 0 rfl) ?_
      refine gf_X12_77 (pc := 59) X Y dX12_goesBy_59 ?_
      refine lv_iload_n (pc := 62) hx hb dX12_goesBy_62 rfl (lv_at hl 3 rfl) ?_
      obtain ⟨g_63, h⟩ := gd_s h
      refine r_ialdm (pc := 63) X Y (cm_22 bd cI cZ) g_63 dX12_goesBy_63 ?_
      refine lv_iconst (pc := 64) (v := 0) hx hb dX12_goesBy_64 (by decide) ?_
      obtain ⟨r_65, e_65, h⟩ := bnd_s h
      refine call_vi (pc := 65) (rest := [.int r_54, .int (r_29 * r_41)]) [.int (D 22 v3.toNatClampNeg), .int 0] X Y (c_X12_countOf (D 22 v3.toNatClampNeg) 0 e_65) sw_X12_144 (rv_X12 X Y) rfl ⟨rfl, rfl, Nat.le_of_ble_eq_true rfl, Nat.le_of_ble_eq_true rfl⟩ hl rfl (Nat.le_of_ble_eq_true rfl) dX12_goesBy_65 (fun H locs Y => ?_)
      refine lv_imul (pc := 68) hx hb dX12_goesBy_68 ?_
      refine lv_isub (pc := 69) hx hb dX12_goesBy_69 ?_
      refine call_si (pc := 70) (rest := []) [.int ((r_29 * r_41) - (r_54 * r_65))] X Y (c_X12_way ((r_29 * r_41) - (r_54 * r_65))) sw_X12_257 rfl ⟨rfl, rfl, Nat.le_of_ble_eq_true rfl, Nat.le_of_ble_eq_true rfl⟩ hl rfl (Nat.le_of_ble_eq_true rfl) dX12_goesBy_70 (fun H locs Y => ?_)
      obtain ⟨v5_73, ev5_73, h⟩ := lt_s_ h
      refine top_i ev5_73 ?_
      refine lv_istore (pc := 73) (lv' := [(5, .int v5_73), (0, .ref (bd 0)), (1, .int v1), (2, .int v2), (3, .int v3), (4, .int v4)]) hx hb dX12_goesBy_73 hl (by decide) rfl (fun ls hl => ?_)
      refine lv_iload_n (pc := 75) hx hb dX12_goesBy_75 rfl (lv_at hl 3 rfl) ?_
      refine lv_iload (pc := 76) hx hb dX12_goesBy_76 (lv_at hl 0 rfl) ?_
      refine lv_aload_n (pc := 78) hx hb dX12_goesBy_78 rfl (lv_at hl 1 rfl) ?_
      refine gf_X12_71 (pc := 79) X Y dX12_goesBy_79 ?_
      refine lv_iconst (pc := 82) (v := 4) hx hb dX12_goesBy_82 (by decide) ?_
      refine lv_iload_n (pc := 83) hx hb dX12_goesBy_83 rfl (lv_at hl 2 rfl) ?_
      refine lv_imul (pc := 84) hx hb dX12_goesBy_84 ?_
      refine lv_aload_n (pc := 85) hx hb dX12_goesBy_85 rfl (lv_at hl 1 rfl) ?_
      refine gf_X12_74 (pc := 86) X Y dX12_goesBy_86 ?_
      refine lv_iload_n (pc := 89) hx hb dX12_goesBy_89 rfl (lv_at hl 4 rfl) ?_
      obtain ⟨g_90, h⟩ := gd_s h
      refine r_ialdm (pc := 90) X Y (cm_21 bd cI cZ) g_90 dX12_goesBy_90 ?_
      refine lv_iadd (pc := 91) hx hb dX12_goesBy_91 ?_
      obtain ⟨g_92, h⟩ := gd_s h
      refine r_ialdm (pc := 92) X Y (cm_20 bd cI cZ) g_92 dX12_goesBy_92 ?_
      refine lv_aload_n (pc := 93) hx hb dX12_goesBy_93 rfl (lv_at hl 1 rfl) ?_
      refine gf_X12_71 (pc := 94) X Y dX12_goesBy_94 ?_
      refine lv_iconst (pc := 97) (v := 4) hx hb dX12_goesBy_97 (by decide) ?_
      refine lv_iload_n (pc := 98) hx hb dX12_goesBy_98 rfl (lv_at hl 2 rfl) ?_
      refine lv_imul (pc := 99) hx hb dX12_goesBy_99 ?_
      refine lv_aload_n (pc := 100) hx hb dX12_goesBy_100 rfl (lv_at hl 1 rfl) ?_
      refine gf_X12_74 (pc := 101) X Y dX12_goesBy_101 ?_
      refine lv_iload (pc := 104) hx hb dX12_goesBy_104 (lv_at hl 5 rfl) ?_
      obtain ⟨g_106, h⟩ := gd_s h
      refine r_ialdm (pc := 106) X Y (cm_21 bd cI cZ) g_106 dX12_goesBy_106 ?_
      refine lv_iadd (pc := 107) hx hb dX12_goesBy_107 ?_
      obtain ⟨g_108, h⟩ := gd_s h
      refine r_ialdm (pc := 108) X Y (cm_20 bd cI cZ) g_108 dX12_goesBy_108 ?_
      refine lv_isub (pc := 109) hx hb dX12_goesBy_109 ?_
      refine call_si (pc := 110) (rest := [.int v5_73, .int v2]) [.int ((D 20 ((4 * v1) + (D 21 v3.toNatClampNeg)).toNatClampNeg) - (D 20 ((4 * v1) + (D 21 v4.toNatClampNeg)).toNatClampNeg))] X Y (c_X12_way ((D 20 ((4 * v1) + (D 21 v3.toNatClampNeg)).toNatClampNeg) - (D 20 ((4 * v1) + (D 21 v4.toNatClampNeg)).toNatClampNeg))) sw_X12_257 rfl ⟨rfl, rfl, Nat.le_of_ble_eq_true rfl, Nat.le_of_ble_eq_true rfl⟩ hl rfl (Nat.le_of_ble_eq_true rfl) dX12_goesBy_110 (fun H locs Y => ?_)
      refine lv_imul (pc := 113) hx hb dX12_goesBy_113 ?_
      refine lv_iadd (pc := 114) hx hb dX12_goesBy_114 ?_
      obtain ⟨v2_115, ev2_115, h⟩ := lt_s_ h
      refine top_i ev2_115 ?_
      refine lv_istore_n (pc := 115) (lv' := [(2, .int v2_115), (5, .int v5_73), (0, .ref (bd 0)), (1, .int v1), (3, .int v3), (4, .int v4)]) hx hb dX12_goesBy_115 rfl hl (by decide) rfl (fun ls hl => ?_)
      obtain ⟨v4_116, ev4_116, h⟩ := lt_s_ h
      refine lv_iinc (pc := 116) (v := v4_116) (lv' := [(4, .int v4_116), (2, .int v2_115), (5, .int v5_73), (0, .ref (bd 0)), (1, .int v1), (3, .int v3)]) hx hb dX12_goesBy_116 hl (k := 5) rfl (by rw [ev4_116]; rfl) (by decide) rfl (fun ls hl => ?_)
      refine lv_goto (pc := 119) (tgt := 15) hx hb dX12_goesBy_119 (by decide) ?_
      exact ih v2_115 v4_116 H locs ls Y (lv_sub hl [3, 4, 1, 5, 0] rfl) h
set_option maxHeartbeats 4000000 in
set_option maxRecDepth 100000 in
theorem WL_X12_goesBy_4 {r9 : Int32} (v1 : Int32) (D : Mem) (X : Cx p s m args meth c cX12_goesBy RX12 6 (some .int) dC dI ad bd cI cZ) {kx : Int32 → Option Int32} (hkx : ∀ (v2' : Int32) (H : Heap) (locs : List Loc) (ls : Array Slot), Ys s dC dI ad bd cI cZ C D H locs → lv_has ls 6 [(2, .int v2')] → kx v2' = some r9 → W p l e rm_X12_goesBy s m args below meth c H locs 0 0 (MQ below (QC (some (.int r9)) dC dI ad bd cI cZ C D) args s 0 0 (AD ad bd)) (F0 m 128 ls [])) : ∀ (n_ : Nat) (v2 : Int32) (v3 : Int32) (H : Heap) (locs : List Loc) (ls : Array Slot), Ys s dC dI ad bd cI cZ C D H locs → lv_has ls 6 [(0, .ref (bd 0)), (1, .int v1), (2, .int v2), (3, .int v3)] → L_X12_goesBy_4 v1 D kx n_ v2 v3 = some r9 → W p l e rm_X12_goesBy s m args below meth c H locs 0 0 (MQ below (QC (some (.int r9)) dC dI ad bd cI cZ C D) args s 0 0 (AD ad bd)) (F0 m 4 ls []) := by
  have hx := X.1
  have hb := X.2.1
  intro n_
  induction n_ with
  | zero =>
    intro v2 v3 H locs ls Y hl h
    cases h
  | succ n_ ih =>
    intro v2 v3 H locs ls Y hl h
    unfold L_X12_goesBy_4 at h
    refine lv_iload_n (pc := 4) hx hb dX12_goesBy_4 rfl (lv_at hl 3 rfl) ?_
    refine lv_aload_n (pc := 5) hx hb dX12_goesBy_5 rfl (lv_at hl 0 rfl) ?_
    refine gf_X12_254 (pc := 6) X Y dX12_goesBy_6 ?_
    refine lv_icmp_ge (pc := 9) (tgt := 128) hx hb dX12_goesBy_9 (by decide) (fun c_9 => ?_) (fun c_9 => ?_)
    · have h := itp c_9 h
      exact hkx v2 H locs ls Y (lv_sub hl [2] rfl) h
    · have h := itn c_9 h
      refine lv_iconst (pc := 12) (v := 0) hx hb dX12_goesBy_12 (by decide) ?_
      refine lv_istore (pc := 13) (lv' := [(4, .int 0), (0, .ref (bd 0)), (1, .int v1), (2, .int v2), (3, .int v3)]) hx hb dX12_goesBy_13 hl (by decide) rfl (fun ls hl => ?_)
      refine WL_X12_goesBy_15 v1 v3 D X (fun v2_122 H locs ls Y hl h => ?_) FU v2 0 H locs ls Y (lv_sub hl [1, 2, 3, 4, 0] rfl) h
      obtain ⟨v3_122, ev3_122, h⟩ := lt_s_ h
      refine lv_iinc (pc := 122) (v := v3_122) (lv' := [(3, .int v3_122), (0, .ref (bd 0)), (1, .int v1), (2, .int v2_122)]) hx hb dX12_goesBy_122 hl (k := 3) rfl (by rw [ev3_122]; rfl) (by decide) rfl (fun ls hl => ?_)
      refine lv_goto (pc := 125) (tgt := 4) hx hb dX12_goesBy_125 (by decide) ?_
      exact ih v2_122 v3_122 H locs ls Y (lv_sub hl [1, 2, 3, 0] rfl) h
set_option maxHeartbeats 4000000 in
set_option maxRecDepth 100000 in
theorem c_X12_goesBy {r9 : Int32} (v1 : Int32) (h : f_X12_goesBy v1 D = some r9) : Ct l dC dI ad bd cI cZ yX12_goesBy cX12_goesBy 6 (some .int) rm_X12_goesBy [.ref (bd 0), .int v1] C D (some (.int r9)) C D := by
  unfold f_X12_goesBy at h
  refine Ct.intro (own := RX12) (by decide) rfl (Nat.le_of_ble_eq_true rfl) ?_
  intro p e s m args below meth c H locs ls X Y hl
  have hx := X.1
  have hb := X.2.1
  have hl : lv_has ls 6 [(0, .ref (bd 0)), (1, .int v1)] := hl
  refine lv_iconst (pc := 0) (v := 0) hx hb dX12_goesBy_0 (by decide) ?_
  refine lv_istore_n (pc := 1) (lv' := [(2, .int 0), (0, .ref (bd 0)), (1, .int v1)]) hx hb dX12_goesBy_1 rfl hl (by decide) rfl (fun ls hl => ?_)
  refine lv_iconst (pc := 2) (v := 0) hx hb dX12_goesBy_2 (by decide) ?_
  refine lv_istore_n (pc := 3) (lv' := [(3, .int 0), (2, .int 0), (0, .ref (bd 0)), (1, .int v1)]) hx hb dX12_goesBy_3 rfl hl (by decide) rfl (fun ls hl => ?_)
  refine WL_X12_goesBy_4 v1 D X (fun v2_128 H locs ls Y hl h => ?_) FU 0 0 H locs ls Y (lv_sub hl [2, 3, 1, 0] rfl) h
  refine lv_iload_n (pc := 128) hx hb dX12_goesBy_128 rfl (lv_at hl 0 rfl) ?_
  have hr9 := ret_p h
  exact fin_i (pc := 129) X rfl Y hr9 rfl rfl dX12_goesBy_129
abbrev rm_X12_goesNow : Room := { frames := 4, cells := 0, slots := 0, locals := 93 }
set_option maxHeartbeats 4000000 in
set_option maxRecDepth 100000 in
theorem c_X12_goesNow {r9 : Int32} {D9 : Mem} (v1 : Int32) (h : f_X12_goesNow v1 D = some (r9, D9)) : Ct l dC dI ad bd cI cZ yX12_goesNow cX12_goesNow 2 (some .int) rm_X12_goesNow [.ref (bd 0), .int v1] C D (some (.int r9)) C D9 := by
  unfold f_X12_goesNow at h
  refine Ct.intro (own := RX12) (by decide) rfl (Nat.le_of_ble_eq_true rfl) ?_
  intro p e s m args below meth c H locs ls X Y hl
  have hx := X.1
  have hb := X.2.1
  have hl : lv_has ls 2 [(0, .ref (bd 0)), (1, .int v1)] := hl
  refine lv_aload_n (pc := 0) hx hb dX12_goesNow_0 rfl (lv_at hl 0 rfl) ?_
  obtain ⟨D_1, e_1, h⟩ := bnd_s h
  refine call_vv (pc := 1) (rest := []) [] X Y (c_X12_gathers  e_1) sw_X12_260 (rv_X12 X Y) rfl ⟨rfl, rfl, Nat.le_of_ble_eq_true rfl, Nat.le_of_ble_eq_true rfl⟩ hl rfl (Nat.le_of_ble_eq_true rfl) dX12_goesNow_1 (fun H locs Y => ?_)
  refine lv_aload_n (pc := 4) hx hb dX12_goesNow_4 rfl (lv_at hl 0 rfl) ?_
  refine lv_iload_n (pc := 5) hx hb dX12_goesNow_5 rfl (lv_at hl 1 rfl) ?_
  obtain ⟨r_6, e_6, h⟩ := bnd_s h
  refine call_vi (pc := 6) (rest := []) [.int v1] X Y (c_X12_goesBy v1 e_6) sw_X12_263 (rv_X12 X Y) rfl ⟨rfl, rfl, Nat.le_of_ble_eq_true rfl, Nat.le_of_ble_eq_true rfl⟩ hl rfl (Nat.le_of_ble_eq_true rfl) dX12_goesNow_6 (fun H locs Y => ?_)
  obtain ⟨hr9, hm9⟩ := ret_e h
  exact fin_i (pc := 9) X rfl Y hr9 rfl hm9 dX12_goesNow_9
abbrev rm_X12_goes : Room := { frames := 5, cells := 0, slots := 0, locals := 114 }
set_option maxHeartbeats 4000000 in
set_option maxRecDepth 100000 in
theorem c_X12_goes {r9 : Int32} {D9 : Mem} (v1 : Int32) (h : f_X12_goes v1 D = some (r9, D9)) : Ct l dC dI ad bd cI cZ yX12_goes cX12_goes 2 (some .int) rm_X12_goes [.ref (bd 0), .int v1] C D (some (.int r9)) C D9 := by
  unfold f_X12_goes at h
  refine Ct.intro (own := RX12) (by decide) rfl (Nat.le_of_ble_eq_true rfl) ?_
  intro p e s m args below meth c H locs ls X Y hl
  have hx := X.1
  have hb := X.2.1
  have hl : lv_has ls 2 [(0, .ref (bd 0)), (1, .int v1)] := hl
  refine lv_iload_n (pc := 0) hx hb dX12_goes_0 rfl (lv_at hl 1 rfl) ?_
  refine lv_iconst (pc := 1) (v := 0) hx hb dX12_goes_1 (by decide) ?_
  refine lv_aload_n (pc := 2) hx hb dX12_goes_2 rfl (lv_at hl 0 rfl) ?_
  refine gf_X12_251 (pc := 3) X Y dX12_goes_3 ?_
  refine lv_iconst (pc := 6) (v := 1) hx hb dX12_goes_6 (by decide) ?_
  refine lv_isub (pc := 7) hx hb dX12_goes_7 ?_
  refine call_si (pc := 8) (rest := []) [.int v1, .int 0, .int ((D 0 26) - 1)] X Y (c_X12_in v1 0 ((D 0 26) - 1)) sw_X12_107 rfl ⟨rfl, rfl, Nat.le_of_ble_eq_true rfl, Nat.le_of_ble_eq_true rfl⟩ hl rfl (Nat.le_of_ble_eq_true rfl) dX12_goes_8 (fun H locs Y => ?_)
  refine lv_if_eq (pc := 11) (tgt := 22) hx hb dX12_goes_11 (by decide) (fun c_11 => ?_) (fun c_11 => ?_)
  · have h := itn (b2i_f c_11) h
    refine lv_bipush (pc := 22) (v := (-99)) hx hb dX12_goes_22 (by decide) ?_
    obtain ⟨hr9, hm9⟩ := ret_e h
    exact fin_i (pc := 24) X rfl Y hr9 rfl hm9 dX12_goes_24
  · have h := itp (b2i_t c_11) h
    refine lv_aload_n (pc := 14) hx hb dX12_goes_14 rfl (lv_at hl 0 rfl) ?_
    refine lv_iload_n (pc := 15) hx hb dX12_goes_15 rfl (lv_at hl 1 rfl) ?_
    obtain ⟨r_16, D_16, e_16, h⟩ := bnd2_s h
    refine call_vi (pc := 16) (rest := []) [.int v1] X Y (c_X12_goesNow v1 e_16) sw_X12_266 (rv_X12 X Y) rfl ⟨rfl, rfl, Nat.le_of_ble_eq_true rfl, Nat.le_of_ble_eq_true rfl⟩ hl rfl (Nat.le_of_ble_eq_true rfl) dX12_goes_16 (fun H locs Y => ?_)
    refine lv_goto (pc := 19) (tgt := 24) hx hb dX12_goes_19 (by decide) ?_
    obtain ⟨hr9, hm9⟩ := ret_e h
    exact fin_i (pc := 24) X rfl Y hr9 rfl hm9 dX12_goes_24
abbrev rm_X12_greatest : Room := { frames := 4, cells := 0, slots := 0, locals := 93 }
set_option maxHeartbeats 4000000 in
set_option maxRecDepth 100000 in
theorem WB_X12_greatest_31 {r9 : Int32} (x0 : Int32) (v2 : Int32) (D : Mem) (X : Cx p s m args meth c cX12_greatest RX12 4 (some .int) dC dI ad bd cI cZ) {kb : Int32 → Int32 → Option Int32} (hkb : ∀ (v1' : Int32) (v2' : Int32) (H : Heap) (locs : List Loc) (ls : Array Slot), Ys s dC dI ad bd cI cZ C D H locs → lv_has ls 4 [(0, .ref (bd 0)), (1, .int v1'), (2, .int v2')] → kb v1' v2' = some r9 → W p l e rm_X12_greatest s m args below meth c H locs 0 0 (MQ below (QC (some (.int r9)) dC dI ad bd cI cZ C D) args s 0 0 (AD ad bd)) (F0 m 4 ls [])) {H : Heap} {locs : List Loc} {ls : Array Slot} (Y : Ys s dC dI ad bd cI cZ C D H locs) (hl : lv_has ls 4 [(0, .ref (bd 0)), (2, .int v2)]) (h : B_X12_greatest_31 x0 v2 kb = some r9) : W p l e rm_X12_greatest s m args below meth c H locs 0 0 (MQ below (QC (some (.int r9)) dC dI ad bd cI cZ C D) args s 0 0 (AD ad bd)) (F0 m 31 ls [.int x0]) := by
  have hx := X.1
  have hb := X.2.1
  unfold B_X12_greatest_31 at h
  refine lv_istore_n (pc := 31) (lv' := [(1, .int x0), (0, .ref (bd 0)), (2, .int v2)]) hx hb dX12_greatest_31 rfl hl (by decide) rfl (fun ls hl => ?_)
  obtain ⟨v2_32, ev2_32, h⟩ := lt_s_ h
  refine lv_iinc (pc := 32) (v := v2_32) (lv' := [(2, .int v2_32), (1, .int x0), (0, .ref (bd 0))]) hx hb dX12_greatest_32 hl (k := 2) rfl (by rw [ev2_32]; rfl) (by decide) rfl (fun ls hl => ?_)
  refine lv_goto (pc := 35) (tgt := 4) hx hb dX12_greatest_35 (by decide) ?_
  exact hkb x0 v2_32 H locs ls Y (lv_sub hl [2, 1, 0] rfl) h
set_option maxHeartbeats 4000000 in
set_option maxRecDepth 100000 in
theorem WL_X12_greatest_4 {r9 : Int32} (D : Mem) (X : Cx p s m args meth c cX12_greatest RX12 4 (some .int) dC dI ad bd cI cZ) {kx : Int32 → Option Int32} (hkx : ∀ (v1' : Int32) (H : Heap) (locs : List Loc) (ls : Array Slot), Ys s dC dI ad bd cI cZ C D H locs → lv_has ls 4 [(1, .int v1')] → kx v1' = some r9 → W p l e rm_X12_greatest s m args below meth c H locs 0 0 (MQ below (QC (some (.int r9)) dC dI ad bd cI cZ C D) args s 0 0 (AD ad bd)) (F0 m 38 ls [])) : ∀ (n_ : Nat) (v1 : Int32) (v2 : Int32) (H : Heap) (locs : List Loc) (ls : Array Slot), Ys s dC dI ad bd cI cZ C D H locs → lv_has ls 4 [(0, .ref (bd 0)), (1, .int v1), (2, .int v2)] → L_X12_greatest_4 D kx n_ v1 v2 = some r9 → W p l e rm_X12_greatest s m args below meth c H locs 0 0 (MQ below (QC (some (.int r9)) dC dI ad bd cI cZ C D) args s 0 0 (AD ad bd)) (F0 m 4 ls []) := by
  have hx := X.1
  have hb := X.2.1
  intro n_
  induction n_ with
  | zero =>
    intro v1 v2 H locs ls Y hl h
    cases h
  | succ n_ ih =>
    intro v1 v2 H locs ls Y hl h
    unfold L_X12_greatest_4 at h
    refine lv_iload_n (pc := 4) hx hb dX12_greatest_4 rfl (lv_at hl 2 rfl) ?_
    refine lv_aload_n (pc := 5) hx hb dX12_greatest_5 rfl (lv_at hl 0 rfl) ?_
    refine gf_X12_251 (pc := 6) X Y dX12_greatest_6 ?_
    refine lv_icmp_ge (pc := 9) (tgt := 38) hx hb dX12_greatest_9 (by decide) (fun c_9 => ?_) (fun c_9 => ?_)
    · have h := itp c_9 h
      exact hkx v1 H locs ls Y (lv_sub hl [1] rfl) h
    · have h := itn c_9 h
      refine lv_aload_n (pc := 12) hx hb dX12_greatest_12 rfl (lv_at hl 0 rfl) ?_
      refine lv_iload_n (pc := 13) hx hb dX12_greatest_13 rfl (lv_at hl 2 rfl) ?_
      obtain ⟨r_14, e_14, h⟩ := bnd_s h
      refine call_vi (pc := 14) (rest := []) [.int v2] X Y (c_X12_goesBy v2 e_14) sw_X12_263 (rv_X12 X Y) rfl ⟨rfl, rfl, Nat.le_of_ble_eq_true rfl, Nat.le_of_ble_eq_true rfl⟩ hl rfl (Nat.le_of_ble_eq_true rfl) dX12_greatest_14 (fun H locs Y => ?_)
      refine call_si (pc := 17) (rest := []) [.int r_14] X Y (c_X12_amount r_14) sw_X12_204 rfl ⟨rfl, rfl, Nat.le_of_ble_eq_true rfl, Nat.le_of_ble_eq_true rfl⟩ hl rfl (Nat.le_of_ble_eq_true rfl) dX12_greatest_17 (fun H locs Y => ?_)
      obtain ⟨v3_20, ev3_20, h⟩ := lt_s_ h
      refine top_i ev3_20 ?_
      refine lv_istore_n (pc := 20) (lv' := [(3, .int v3_20), (0, .ref (bd 0)), (1, .int v1), (2, .int v2)]) hx hb dX12_greatest_20 rfl hl (by decide) rfl (fun ls hl => ?_)
      refine lv_iload_n (pc := 21) hx hb dX12_greatest_21 rfl (lv_at hl 0 rfl) ?_
      refine lv_iload_n (pc := 22) hx hb dX12_greatest_22 rfl (lv_at hl 2 rfl) ?_
      refine lv_icmp_le (pc := 23) (tgt := 30) hx hb dX12_greatest_23 (by decide) (fun c_23 => ?_) (fun c_23 => ?_)
      · have h := itp c_23 h
        refine lv_iload_n (pc := 30) hx hb dX12_greatest_30 rfl (lv_at hl 2 rfl) ?_
        exact WB_X12_greatest_31 v1 v2 D X (kb := (L_X12_greatest_4 D kx n_)) ih Y (lv_sub hl [1, 3] rfl) h
      · have h := itn c_23 h
        refine lv_iload_n (pc := 26) hx hb dX12_greatest_26 rfl (lv_at hl 0 rfl) ?_
        refine lv_goto (pc := 27) (tgt := 31) hx hb dX12_greatest_27 (by decide) ?_
        exact WB_X12_greatest_31 v3_20 v2 D X (kb := (L_X12_greatest_4 D kx n_)) ih Y (lv_sub hl [1, 3] rfl) h
set_option maxHeartbeats 4000000 in
set_option maxRecDepth 100000 in
theorem c_X12_greatest {r9 : Int32} (h : f_X12_greatest D = some r9) : Ct l dC dI ad bd cI cZ yX12_greatest cX12_greatest 4 (some .int) rm_X12_greatest [.ref (bd 0)] C D (some (.int r9)) C D := by
  unfold f_X12_greatest at h
  refine Ct.intro (own := RX12) (by decide) rfl (Nat.le_of_ble_eq_true rfl) ?_
  intro p e s m args below meth c H locs ls X Y hl
  have hx := X.1
  have hb := X.2.1
  have hl : lv_has ls 4 [(0, .ref (bd 0))] := hl
  refine lv_iconst (pc := 0) (v := 0) hx hb dX12_greatest_0 (by decide) ?_
  refine lv_istore_n (pc := 1) (lv' := [(1, .int 0), (0, .ref (bd 0))]) hx hb dX12_greatest_1 rfl hl (by decide) rfl (fun ls hl => ?_)
  refine lv_iconst (pc := 2) (v := 0) hx hb dX12_greatest_2 (by decide) ?_
  refine lv_istore_n (pc := 3) (lv' := [(2, .int 0), (1, .int 0), (0, .ref (bd 0))]) hx hb dX12_greatest_3 rfl hl (by decide) rfl (fun ls hl => ?_)
  refine WL_X12_greatest_4 D X (fun v1_38 H locs ls Y hl h => ?_) FU 0 0 H locs ls Y (lv_sub hl [2, 1, 0] rfl) h
  refine lv_iload_n (pc := 38) hx hb dX12_greatest_38 rfl (lv_at hl 0 rfl) ?_
  have hr9 := ret_p h
  exact fin_i (pc := 39) X rfl Y hr9 rfl rfl dX12_greatest_39
abbrev rm_X12_lookedNow : Room := { frames := 5, cells := 0, slots := 0, locals := 116 }
set_option maxHeartbeats 4000000 in
set_option maxRecDepth 100000 in
theorem WL_X12_lookedNow_31 {r9 : Int32} {D9 : Mem} (v1 : Int32) (D : Mem) (X : Cx p s m args meth c cX12_lookedNow RX12 11 (some .int) dC dI ad bd cI cZ) {kx : Int32 → Option (Int32 × Mem)} (hkx : ∀ (v2' : Int32) (H : Heap) (locs : List Loc) (ls : Array Slot), Ys s dC dI ad bd cI cZ C D H locs → lv_has ls 11 [(0, .ref (bd 0)), (1, .int v1), (2, .int v2')] → kx v2' = some (r9, D9) → W p l e rm_X12_lookedNow s m args below meth c H locs 0 0 (MQ below (QC (some (.int r9)) dC dI ad bd cI cZ C D9) args s 0 0 (AD ad bd)) (F0 m 52 ls [])) : ∀ (n_ : Nat) (v2 : Int32) (v3 : Int32) (H : Heap) (locs : List Loc) (ls : Array Slot), Ys s dC dI ad bd cI cZ C D H locs → lv_has ls 11 [(0, .ref (bd 0)), (1, .int v1), (2, .int v2), (3, .int v3)] → L_X12_lookedNow_31 D kx n_ v2 v3 = some (r9, D9) → W p l e rm_X12_lookedNow s m args below meth c H locs 0 0 (MQ below (QC (some (.int r9)) dC dI ad bd cI cZ C D9) args s 0 0 (AD ad bd)) (F0 m 31 ls []) := by
  have hx := X.1
  have hb := X.2.1
  intro n_
  induction n_ with
  | zero =>
    intro v2 v3 H locs ls Y hl h
    cases h
  | succ n_ ih =>
    intro v2 v3 H locs ls Y hl h
    unfold L_X12_lookedNow_31 at h
    refine lv_iload_n (pc := 31) hx hb dX12_lookedNow_31 rfl (lv_at hl 3 rfl) ?_
    refine lv_aload_n (pc := 32) hx hb dX12_lookedNow_32 rfl (lv_at hl 0 rfl) ?_
    refine gf_X12_254 (pc := 33) X Y dX12_lookedNow_33 ?_
    refine lv_icmp_ge (pc := 36) (tgt := 52) hx hb dX12_lookedNow_36 (by decide) (fun c_36 => ?_) (fun c_36 => ?_)
    · have h := itp c_36 h
      exact hkx v2 H locs ls Y (lv_sub hl [0, 1, 2] rfl) h
    · have h := itn c_36 h
      refine lv_iload_n (pc := 39) hx hb dX12_lookedNow_39 rfl (lv_at hl 2 rfl) ?_
      refine lv_aload_n (pc := 40) hx hb dX12_lookedNow_40 rfl (lv_at hl 0 rfl) ?_
      refine gf_X12_254 (pc := 41) X Y dX12_lookedNow_41 ?_
      refine lv_imul (pc := 44) hx hb dX12_lookedNow_44 ?_
      obtain ⟨v2_45, ev2_45, h⟩ := lt_s_ h
      refine top_i ev2_45 ?_
      refine lv_istore_n (pc := 45) (lv' := [(2, .int v2_45), (0, .ref (bd 0)), (1, .int v1), (3, .int v3)]) hx hb dX12_lookedNow_45 rfl hl (by decide) rfl (fun ls hl => ?_)
      obtain ⟨v3_46, ev3_46, h⟩ := lt_s_ h
      refine lv_iinc (pc := 46) (v := v3_46) (lv' := [(3, .int v3_46), (2, .int v2_45), (0, .ref (bd 0)), (1, .int v1)]) hx hb dX12_lookedNow_46 hl (k := 3) rfl (by rw [ev3_46]; rfl) (by decide) rfl (fun ls hl => ?_)
      refine lv_goto (pc := 49) (tgt := 31) hx hb dX12_lookedNow_49 (by decide) ?_
      exact ih v2_45 v3_46 H locs ls Y (lv_sub hl [2, 3, 1, 0] rfl) h
set_option maxHeartbeats 4000000 in
set_option maxRecDepth 100000 in
theorem WL_X12_lookedNow_76 {r9 : Int32} {D9 : Mem} (v1 : Int32) (v2 : Int32) (v3 : Int64) (v5 : Int64) (v7 : Int32) (X : Cx p s m args meth c cX12_lookedNow RX12 11 (some .int) dC dI ad bd cI cZ) {kx : Int32 → Mem → Option (Int32 × Mem)} (hkx : ∀ (v9' : Int32) (D' : Mem) (H : Heap) (locs : List Loc) (ls : Array Slot), Ys s dC dI ad bd cI cZ C D' H locs → lv_has ls 11 [(0, .ref (bd 0)), (1, .int v1), (2, .int v2), (3, .long v3), (5, .long v5), (7, .int v7), (9, .int v9')] → kx v9' D' = some (r9, D9) → W p l e rm_X12_lookedNow s m args below meth c H locs 0 0 (MQ below (QC (some (.int r9)) dC dI ad bd cI cZ C D9) args s 0 0 (AD ad bd)) (F0 m 133 ls [])) : ∀ (n_ : Nat) (v8 : Int32) (v9 : Int32) (v10 : Int32) (D : Mem) (H : Heap) (locs : List Loc) (ls : Array Slot), Ys s dC dI ad bd cI cZ C D H locs → lv_has ls 11 [(0, .ref (bd 0)), (1, .int v1), (2, .int v2), (3, .long v3), (5, .long v5), (7, .int v7), (8, .int v8), (9, .int v9), (10, .int v10)] → L_X12_lookedNow_76 kx n_ v8 v9 v10 D = some (r9, D9) → W p l e rm_X12_lookedNow s m args below meth c H locs 0 0 (MQ below (QC (some (.int r9)) dC dI ad bd cI cZ C D9) args s 0 0 (AD ad bd)) (F0 m 76 ls []) := by
  have hx := X.1
  have hb := X.2.1
  intro n_
  induction n_ with
  | zero =>
    intro v8 v9 v10 D H locs ls Y hl h
    cases h
  | succ n_ ih =>
    intro v8 v9 v10 D H locs ls Y hl h
    unfold L_X12_lookedNow_76 at h
    refine lv_iload (pc := 76) hx hb dX12_lookedNow_76 (lv_at hl 8 rfl) ?_
    refine lv_aload_n (pc := 78) hx hb dX12_lookedNow_78 rfl (lv_at hl 0 rfl) ?_
    refine gf_X12_254 (pc := 79) X Y dX12_lookedNow_79 ?_
    refine lv_icmp_ge (pc := 82) (tgt := 133) hx hb dX12_lookedNow_82 (by decide) (fun c_82 => ?_) (fun c_82 => ?_)
    · have h := itp c_82 h
      exact hkx v9 D H locs ls Y (lv_sub hl [0, 1, 2, 3, 4, 5, 7] rfl) h
    · have h := itn c_82 h
      refine lv_aload_n (pc := 85) hx hb dX12_lookedNow_85 rfl (lv_at hl 0 rfl) ?_
      refine gf_X12_77 (pc := 86) X Y dX12_lookedNow_86 ?_
      refine lv_iload (pc := 89) hx hb dX12_lookedNow_89 (lv_at hl 8 rfl) ?_
      refine lv_aload_n (pc := 91) hx hb dX12_lookedNow_91 rfl (lv_at hl 0 rfl) ?_
      refine gf_X12_74 (pc := 92) X Y dX12_lookedNow_92 ?_
      refine lv_iload (pc := 95) hx hb dX12_lookedNow_95 (lv_at hl 6 rfl) ?_
      refine lv_aload_n (pc := 97) hx hb dX12_lookedNow_97 rfl (lv_at hl 0 rfl) ?_
      refine gf_X12_254 (pc := 98) X Y dX12_lookedNow_98 ?_
      obtain ⟨g_101, h⟩ := gd_s h
      refine lv_irem (pc := 101) hx hb dX12_lookedNow_101 (of_decide_eq_true g_101) ?_
      obtain ⟨g_102, h⟩ := gd_s h
      refine r_ialdm (pc := 102) X Y (cm_21 bd cI cZ) g_102 dX12_lookedNow_102 ?_
      obtain ⟨g_103, h⟩ := gd_s h
      obtain ⟨D_103, hD_103, h⟩ := sto_s h
      refine r_iastm (pc := 103) X Y (cm_22 bd cI cZ) g_103 hD_103 dX12_lookedNow_103 (fun H locs Y => ?_)
      refine lv_iload (pc := 104) hx hb dX12_lookedNow_104 (lv_at hl 7 rfl) ?_
      refine lv_iconst (pc := 106) (v := 1) hx hb dX12_lookedNow_106 (by decide) ?_
      refine lv_iload (pc := 107) hx hb dX12_lookedNow_107 (lv_at hl 6 rfl) ?_
      refine lv_aload_n (pc := 109) hx hb dX12_lookedNow_109 rfl (lv_at hl 0 rfl) ?_
      refine gf_X12_254 (pc := 110) X Y dX12_lookedNow_110 ?_
      obtain ⟨g_113, h⟩ := gd_s h
      refine lv_irem (pc := 113) hx hb dX12_lookedNow_113 (of_decide_eq_true g_113) ?_
      refine lv_ishl (pc := 114) hx hb dX12_lookedNow_114 ?_
      refine lv_ior (pc := 115) hx hb dX12_lookedNow_115 ?_
      obtain ⟨v9_116, ev9_116, h⟩ := lt_s_ h
      refine top_i ev9_116 ?_
      refine lv_istore (pc := 116) (lv' := [(9, .int v9_116), (0, .ref (bd 0)), (1, .int v1), (2, .int v2), (3, .long v3), (5, .long v5), (7, .int v7), (8, .int v8), (10, .int v10)]) hx hb dX12_lookedNow_116 hl (by decide) rfl (fun ls hl => ?_)
      refine lv_iload (pc := 118) hx hb dX12_lookedNow_118 (lv_at hl 7 rfl) ?_
      refine lv_aload_n (pc := 120) hx hb dX12_lookedNow_120 rfl (lv_at hl 1 rfl) ?_
      refine gf_X12_254 (pc := 121) X Y dX12_lookedNow_121 ?_
      obtain ⟨g_124, h⟩ := gd_s h
      refine lv_idiv (pc := 124) hx hb dX12_lookedNow_124 (of_decide_eq_true g_124) ?_
      obtain ⟨v8_125, ev8_125, h⟩ := lt_s_ h
      refine top_i ev8_125 ?_
      refine lv_istore (pc := 125) (lv' := [(8, .int v8_125), (9, .int v9_116), (0, .ref (bd 0)), (1, .int v1), (2, .int v2), (3, .long v3), (5, .long v5), (7, .int v7), (10, .int v10)]) hx hb dX12_lookedNow_125 hl (by decide) rfl (fun ls hl => ?_)
      obtain ⟨v10_127, ev10_127, h⟩ := lt_s_ h
      refine lv_iinc (pc := 127) (v := v10_127) (lv' := [(10, .int v10_127), (8, .int v8_125), (9, .int v9_116), (0, .ref (bd 0)), (1, .int v1), (2, .int v2), (3, .long v3), (5, .long v5), (7, .int v7)]) hx hb dX12_lookedNow_127 hl (k := 8) rfl (by rw [ev10_127]; rfl) (by decide) rfl (fun ls hl => ?_)
      refine lv_goto (pc := 130) (tgt := 76) hx hb dX12_lookedNow_130 (by decide) ?_
      exact ih v8_125 v9_116 v10_127 D_103 H locs ls Y (lv_sub hl [3, 4, 5, 6, 7, 8, 1, 2, 0] rfl) h
set_option maxHeartbeats 4000000 in
set_option maxRecDepth 100000 in
theorem WB_X12_lookedNow_168 {r9 : Int32} {D9 : Mem} (v1 : Int32) (v2 : Int32) (v3 : Int64) (v5 : Int64) (v7 : Int32) (D : Mem) (X : Cx p s m args meth c cX12_lookedNow RX12 11 (some .int) dC dI ad bd cI cZ) {kb : Int64 → Int64 → Int32 → Mem → Option (Int32 × Mem)} (hkb : ∀ (v3' : Int64) (v5' : Int64) (v7' : Int32) (D' : Mem) (H : Heap) (locs : List Loc) (ls : Array Slot), Ys s dC dI ad bd cI cZ C D' H locs → lv_has ls 11 [(0, .ref (bd 0)), (1, .int v1), (2, .int v2), (3, .long v3'), (5, .long v5'), (7, .int v7')] → kb v3' v5' v7' D' = some (r9, D9) → W p l e rm_X12_lookedNow s m args below meth c H locs 0 0 (MQ below (QC (some (.int r9)) dC dI ad bd cI cZ C D9) args s 0 0 (AD ad bd)) (F0 m 60 ls [])) {H : Heap} {locs : List Loc} {ls : Array Slot} (Y : Ys s dC dI ad bd cI cZ C D H locs) (hl : lv_has ls 11 [(0, .ref (bd 0)), (1, .int v1), (2, .int v2), (3, .long v3), (5, .long v5), (7, .int v7)]) (h : B_X12_lookedNow_168 v3 v5 v7 D kb = some (r9, D9)) : W p l e rm_X12_lookedNow s m args below meth c H locs 0 0 (MQ below (QC (some (.int r9)) dC dI ad bd cI cZ C D9) args s 0 0 (AD ad bd)) (F0 m 168 ls []) := by
  have hx := X.1
  have hb := X.2.1
  unfold B_X12_lookedNow_168 at h
  obtain ⟨v7_168, ev7_168, h⟩ := lt_s_ h
  refine lv_iinc (pc := 168) (v := v7_168) (lv' := [(7, .int v7_168), (0, .ref (bd 0)), (1, .int v1), (2, .int v2), (3, .long v3), (5, .long v5)]) hx hb dX12_lookedNow_168 hl (k := 5) rfl (by rw [ev7_168]; rfl) (by decide) rfl (fun ls hl => ?_)
  refine lv_goto (pc := 171) (tgt := 60) hx hb dX12_lookedNow_171 (by decide) ?_
  exact hkb v3 v5 v7_168 D H locs ls Y (lv_sub hl [1, 2, 3, 4, 5, 0] rfl) h
set_option maxHeartbeats 4000000 in
set_option maxRecDepth 100000 in
theorem WB_X12_lookedNow_165 {r9 : Int32} {D9 : Mem} (x0 : Int64) (x1 : Int64) (v1 : Int32) (v2 : Int32) (v3 : Int64) (v7 : Int32) (D : Mem) (X : Cx p s m args meth c cX12_lookedNow RX12 11 (some .int) dC dI ad bd cI cZ) {kb : Int64 → Int64 → Int32 → Mem → Option (Int32 × Mem)} (hkb : ∀ (v3' : Int64) (v5' : Int64) (v7' : Int32) (D' : Mem) (H : Heap) (locs : List Loc) (ls : Array Slot), Ys s dC dI ad bd cI cZ C D' H locs → lv_has ls 11 [(0, .ref (bd 0)), (1, .int v1), (2, .int v2), (3, .long v3'), (5, .long v5'), (7, .int v7')] → kb v3' v5' v7' D' = some (r9, D9) → W p l e rm_X12_lookedNow s m args below meth c H locs 0 0 (MQ below (QC (some (.int r9)) dC dI ad bd cI cZ C D9) args s 0 0 (AD ad bd)) (F0 m 60 ls [])) {H : Heap} {locs : List Loc} {ls : Array Slot} (Y : Ys s dC dI ad bd cI cZ C D H locs) (hl : lv_has ls 11 [(0, .ref (bd 0)), (1, .int v1), (2, .int v2), (3, .long v3), (7, .int v7)]) (h : B_X12_lookedNow_165 x0 x1 v3 v7 D kb = some (r9, D9)) : W p l e rm_X12_lookedNow s m args below meth c H locs 0 0 (MQ below (QC (some (.int r9)) dC dI ad bd cI cZ C D9) args s 0 0 (AD ad bd)) (F0 m 165 ls [.long x1, .long x0]) := by
  have hx := X.1
  have hb := X.2.1
  unfold B_X12_lookedNow_165 at h
  refine lv_ladd (pc := 165) hx hb dX12_lookedNow_165 ?_
  obtain ⟨v5_166, ev5_166, h⟩ := lt_s_ h
  refine top_l ev5_166 ?_
  refine lv_lstore (pc := 166) (lv' := [(5, .long v5_166), (0, .ref (bd 0)), (1, .int v1), (2, .int v2), (3, .long v3), (7, .int v7)]) hx hb dX12_lookedNow_166 hl (by decide) rfl (fun ls hl => ?_)
  exact WB_X12_lookedNow_168 v1 v2 v3 v5_166 v7 D X (kb := kb) hkb Y (lv_sub hl [1, 2, 3, 4, 0, 5] rfl) h
set_option maxHeartbeats 4000000 in
set_option maxRecDepth 100000 in
theorem WL_X12_lookedNow_60 {r9 : Int32} {D9 : Mem} (v1 : Int32) (v2 : Int32) (X : Cx p s m args meth c cX12_lookedNow RX12 11 (some .int) dC dI ad bd cI cZ) {kx : Int64 → Int64 → Mem → Option (Int32 × Mem)} (hkx : ∀ (v3' : Int64) (v5' : Int64) (D' : Mem) (H : Heap) (locs : List Loc) (ls : Array Slot), Ys s dC dI ad bd cI cZ C D' H locs → lv_has ls 11 [(3, .long v3'), (5, .long v5')] → kx v3' v5' D' = some (r9, D9) → W p l e rm_X12_lookedNow s m args below meth c H locs 0 0 (MQ below (QC (some (.int r9)) dC dI ad bd cI cZ C D9) args s 0 0 (AD ad bd)) (F0 m 174 ls [])) : ∀ (n_ : Nat) (v3 : Int64) (v5 : Int64) (v7 : Int32) (D : Mem) (H : Heap) (locs : List Loc) (ls : Array Slot), Ys s dC dI ad bd cI cZ C D H locs → lv_has ls 11 [(0, .ref (bd 0)), (1, .int v1), (2, .int v2), (3, .long v3), (5, .long v5), (7, .int v7)] → L_X12_lookedNow_60 v1 v2 kx n_ v3 v5 v7 D = some (r9, D9) → W p l e rm_X12_lookedNow s m args below meth c H locs 0 0 (MQ below (QC (some (.int r9)) dC dI ad bd cI cZ C D9) args s 0 0 (AD ad bd)) (F0 m 60 ls []) := by
  have hx := X.1
  have hb := X.2.1
  intro n_
  induction n_ with
  | zero =>
    intro v3 v5 v7 D H locs ls Y hl h
    cases h
  | succ n_ ih =>
    intro v3 v5 v7 D H locs ls Y hl h
    unfold L_X12_lookedNow_60 at h
    refine lv_iload (pc := 60) hx hb dX12_lookedNow_60 (lv_at hl 5 rfl) ?_
    refine lv_iload_n (pc := 62) hx hb dX12_lookedNow_62 rfl (lv_at hl 2 rfl) ?_
    refine lv_icmp_ge (pc := 63) (tgt := 174) hx hb dX12_lookedNow_63 (by decide) (fun c_63 => ?_) (fun c_63 => ?_)
    · have h := itp c_63 h
      exact hkx v3 v5 D H locs ls Y (lv_sub hl [3, 4] rfl) h
    · have h := itn c_63 h
      refine lv_iload (pc := 66) hx hb dX12_lookedNow_66 (lv_at hl 5 rfl) ?_
      refine lv_istore (pc := 68) (lv' := [(8, .int v7), (0, .ref (bd 0)), (1, .int v1), (2, .int v2), (3, .long v3), (5, .long v5), (7, .int v7)]) hx hb dX12_lookedNow_68 hl (by decide) rfl (fun ls hl => ?_)
      refine lv_iconst (pc := 70) (v := 0) hx hb dX12_lookedNow_70 (by decide) ?_
      refine lv_istore (pc := 71) (lv' := [(9, .int 0), (8, .int v7), (0, .ref (bd 0)), (1, .int v1), (2, .int v2), (3, .long v3), (5, .long v5), (7, .int v7)]) hx hb dX12_lookedNow_71 hl (by decide) rfl (fun ls hl => ?_)
      refine lv_iconst (pc := 73) (v := 0) hx hb dX12_lookedNow_73 (by decide) ?_
      refine lv_istore (pc := 74) (lv' := [(10, .int 0), (9, .int 0), (8, .int v7), (0, .ref (bd 0)), (1, .int v1), (2, .int v2), (3, .long v3), (5, .long v5), (7, .int v7)]) hx hb dX12_lookedNow_74 hl (by decide) rfl (fun ls hl => ?_)
      refine WL_X12_lookedNow_76 v1 v2 v3 v5 v7 X (fun v9_133 D_133 H locs ls Y hl h => ?_) FU v7 0 0 D H locs ls Y (lv_sub hl [3, 4, 5, 6, 7, 8, 2, 1, 0] rfl) h
      refine lv_iload (pc := 133) hx hb dX12_lookedNow_133 (lv_at hl 6 rfl) ?_
      refine lv_iconst (pc := 135) (v := 1) hx hb dX12_lookedNow_135 (by decide) ?_
      refine lv_aload_n (pc := 136) hx hb dX12_lookedNow_136 rfl (lv_at hl 0 rfl) ?_
      refine gf_X12_254 (pc := 137) X Y dX12_lookedNow_137 ?_
      refine lv_ishl (pc := 140) hx hb dX12_lookedNow_140 ?_
      refine lv_iconst (pc := 141) (v := 1) hx hb dX12_lookedNow_141 (by decide) ?_
      refine lv_isub (pc := 142) hx hb dX12_lookedNow_142 ?_
      refine lv_icmp_ne (pc := 143) (tgt := 168) hx hb dX12_lookedNow_143 (by decide) (fun c_143 => ?_) (fun c_143 => ?_)
      · have h := itn c_143 h
        exact WB_X12_lookedNow_168 v1 v2 v3 v5 v7 D_133 X (kb := (L_X12_lookedNow_60 v1 v2 kx n_)) ih Y (lv_sub hl [0, 1, 2, 3, 4, 5] rfl) h
      · have h := itp c_143 h
        refine lv_lload_n (pc := 146) hx hb dX12_lookedNow_146 rfl (lv_at hl 3 rfl) ?_
        refine lv_lconst (pc := 147) (v := 1) hx hb dX12_lookedNow_147 (by decide) ?_
        refine lv_ladd (pc := 148) hx hb dX12_lookedNow_148 ?_
        obtain ⟨v3_149, ev3_149, h⟩ := lt_s_ h
        refine top_l ev3_149 ?_
        refine lv_lstore_n (pc := 149) (lv' := [(3, .long v3_149), (0, .ref (bd 0)), (1, .int v1), (2, .int v2), (5, .long v5), (7, .int v7), (9, .int v9_133)]) hx hb dX12_lookedNow_149 rfl hl (by decide) rfl (fun ls hl => ?_)
        refine lv_lload (pc := 150) hx hb dX12_lookedNow_150 (lv_at hl 4 rfl) ?_
        refine lv_aload_n (pc := 152) hx hb dX12_lookedNow_152 rfl (lv_at hl 1 rfl) ?_
        obtain ⟨r_153, e_153, h⟩ := bnd_s h
        refine call_vi (pc := 153) (rest := [.long v5]) [] X Y (c_X12_greatest  e_153) sw_X12_269 (rv_X12 X Y) rfl ⟨rfl, rfl, Nat.le_of_ble_eq_true rfl, Nat.le_of_ble_eq_true rfl⟩ hl rfl (Nat.le_of_ble_eq_true rfl) dX12_lookedNow_153 (fun H locs Y => ?_)
        refine lv_iload_n (pc := 156) hx hb dX12_lookedNow_156 rfl (lv_at hl 2 rfl) ?_
        refine lv_icmp_lt (pc := 157) (tgt := 164) hx hb dX12_lookedNow_157 (by decide) (fun c_157 => ?_) (fun c_157 => ?_)
        · have h := itp c_157 h
          refine lv_lconst (pc := 164) (v := 0) hx hb dX12_lookedNow_164 (by decide) ?_
          exact WB_X12_lookedNow_165 v5 0 v1 v2 v3_149 v7 D_133 X (kb := (L_X12_lookedNow_60 v1 v2 kx n_)) ih Y (lv_sub hl [1, 2, 3, 0, 5] rfl) h
        · have h := itn c_157 h
          refine lv_lconst (pc := 160) (v := 1) hx hb dX12_lookedNow_160 (by decide) ?_
          refine lv_goto (pc := 161) (tgt := 165) hx hb dX12_lookedNow_161 (by decide) ?_
          exact WB_X12_lookedNow_165 v5 1 v1 v2 v3_149 v7 D_133 X (kb := (L_X12_lookedNow_60 v1 v2 kx n_)) ih Y (lv_sub hl [1, 2, 3, 0, 5] rfl) h
set_option maxHeartbeats 4000000 in
set_option maxRecDepth 100000 in
theorem c_X12_lookedNow {r9 : Int32} {D9 : Mem} (h : f_X12_lookedNow D = some (r9, D9)) : Ct l dC dI ad bd cI cZ yX12_lookedNow cX12_lookedNow 11 (some .int) rm_X12_lookedNow [.ref (bd 0)] C D (some (.int r9)) C D9 := by
  unfold f_X12_lookedNow at h
  refine Ct.intro (own := RX12) (by decide) rfl (Nat.le_of_ble_eq_true rfl) ?_
  intro p e s m args below meth c H locs ls X Y hl
  have hx := X.1
  have hb := X.2.1
  have hl : lv_has ls 11 [(0, .ref (bd 0))] := hl
  refine lv_aload_n (pc := 0) hx hb dX12_lookedNow_0 rfl (lv_at hl 0 rfl) ?_
  obtain ⟨D_1, e_1, h⟩ := bnd_s h
  refine call_vv (pc := 1) (rest := []) [] X Y (c_X12_gathers  e_1) sw_X12_260 (rv_X12 X Y) rfl ⟨rfl, rfl, Nat.le_of_ble_eq_true rfl, Nat.le_of_ble_eq_true rfl⟩ hl rfl (Nat.le_of_ble_eq_true rfl) dX12_lookedNow_1 (fun H locs Y => ?_)
  refine lv_aload_n (pc := 4) hx hb dX12_lookedNow_4 rfl (lv_at hl 0 rfl) ?_
  refine gf_X12_251 (pc := 5) X Y dX12_lookedNow_5 ?_
  refine lv_if_eq (pc := 8) (tgt := 19) hx hb dX12_lookedNow_8 (by decide) (fun c_8 => ?_) (fun c_8 => ?_)
  · have h := itp c_8 h
    refine lv_bipush (pc := 19) (v := (-3)) hx hb dX12_lookedNow_19 (by decide) ?_
    obtain ⟨hr9, hm9⟩ := ret_e h
    exact fin_i (pc := 21) X rfl Y hr9 rfl hm9 dX12_lookedNow_21
  · have h := itn c_8 h
    refine lv_aload_n (pc := 11) hx hb dX12_lookedNow_11 rfl (lv_at hl 0 rfl) ?_
    refine gf_X12_254 (pc := 12) X Y dX12_lookedNow_12 ?_
    refine lv_iconst (pc := 15) (v := 2) hx hb dX12_lookedNow_15 (by decide) ?_
    refine lv_icmp_ge (pc := 16) (tgt := 22) hx hb dX12_lookedNow_16 (by decide) (fun c_16 => ?_) (fun c_16 => ?_)
    · have h := itp c_16 h
      refine lv_aload_n (pc := 22) hx hb dX12_lookedNow_22 rfl (lv_at hl 0 rfl) ?_
      obtain ⟨r_23, e_23, h⟩ := bnd_s h
      refine call_vi (pc := 23) (rest := []) [] X Y (c_X12_greatest  e_23) sw_X12_269 (rv_X12 X Y) rfl ⟨rfl, rfl, Nat.le_of_ble_eq_true rfl, Nat.le_of_ble_eq_true rfl⟩ hl rfl (Nat.le_of_ble_eq_true rfl) dX12_lookedNow_23 (fun H locs Y => ?_)
      refine lv_istore_n (pc := 26) (lv' := [(1, .int r_23), (0, .ref (bd 0))]) hx hb dX12_lookedNow_26 rfl hl (by decide) rfl (fun ls hl => ?_)
      refine lv_iconst (pc := 27) (v := 1) hx hb dX12_lookedNow_27 (by decide) ?_
      refine lv_istore_n (pc := 28) (lv' := [(2, .int 1), (1, .int r_23), (0, .ref (bd 0))]) hx hb dX12_lookedNow_28 rfl hl (by decide) rfl (fun ls hl => ?_)
      refine lv_iconst (pc := 29) (v := 0) hx hb dX12_lookedNow_29 (by decide) ?_
      refine lv_istore_n (pc := 30) (lv' := [(3, .int 0), (2, .int 1), (1, .int r_23), (0, .ref (bd 0))]) hx hb dX12_lookedNow_30 rfl hl (by decide) rfl (fun ls hl => ?_)
      refine WL_X12_lookedNow_31 r_23 D_1 X (fun v2_52 H locs ls Y hl h => ?_) FU 1 0 H locs ls Y (lv_sub hl [3, 2, 1, 0] rfl) h
      refine lv_lconst (pc := 52) (v := 0) hx hb dX12_lookedNow_52 (by decide) ?_
      refine lv_lstore_n (pc := 53) (lv' := [(3, .long 0), (0, .ref (bd 0)), (1, .int r_23), (2, .int v2_52)]) hx hb dX12_lookedNow_53 rfl hl (by decide) rfl (fun ls hl => ?_)
      refine lv_lconst (pc := 54) (v := 0) hx hb dX12_lookedNow_54 (by decide) ?_
      refine lv_lstore (pc := 55) (lv' := [(5, .long 0), (3, .long 0), (0, .ref (bd 0)), (1, .int r_23), (2, .int v2_52)]) hx hb dX12_lookedNow_55 hl (by decide) rfl (fun ls hl => ?_)
      refine lv_iconst (pc := 57) (v := 0) hx hb dX12_lookedNow_57 (by decide) ?_
      refine lv_istore (pc := 58) (lv' := [(7, .int 0), (5, .long 0), (3, .long 0), (0, .ref (bd 0)), (1, .int r_23), (2, .int v2_52)]) hx hb dX12_lookedNow_58 hl (by decide) rfl (fun ls hl => ?_)
      refine WL_X12_lookedNow_60 r_23 v2_52 X (fun v3_174 v5_174 D_174 H locs ls Y hl h => ?_) FU 0 0 0 D_1 H locs ls Y (lv_sub hl [3, 4, 5, 2, 1, 0] rfl) h
      refine lv_ldc2 (pc := 174) (v := 1000000) hx hb X.2.2.2.1 (X.2.2.2.2.1 _ w_895eabeee8) dX12_lookedNow_174 ?_
      refine lv_lload (pc := 177) hx hb dX12_lookedNow_177 (lv_at hl 1 rfl) ?_
      refine lv_lmul (pc := 179) hx hb dX12_lookedNow_179 ?_
      refine lv_lload_n (pc := 180) hx hb dX12_lookedNow_180 rfl (lv_at hl 0 rfl) ?_
      obtain ⟨g_181, h⟩ := gd_s h
      refine lv_ldiv (pc := 181) hx hb dX12_lookedNow_181 (of_decide_eq_true g_181) ?_
      refine lv_l2i (pc := 182) hx hb dX12_lookedNow_182 rfl ?_
      obtain ⟨hr9, hm9⟩ := ret_e h
      exact fin_i (pc := 183) X rfl Y hr9 rfl hm9 dX12_lookedNow_183
    · have h := itn c_16 h
      refine lv_bipush (pc := 19) (v := (-3)) hx hb dX12_lookedNow_19 (by decide) ?_
      obtain ⟨hr9, hm9⟩ := ret_e h
      exact fin_i (pc := 21) X rfl Y hr9 rfl hm9 dX12_lookedNow_21
abbrev rm_X12_looked : Room := { frames := 6, cells := 0, slots := 0, locals := 146 }
set_option maxHeartbeats 4000000 in
set_option maxRecDepth 100000 in
theorem c_X12_looked {r9 : Int32} {D9 : Mem} (h : f_X12_looked D = some (r9, D9)) : Ct l dC dI ad bd cI cZ yX12_looked cX12_looked 1 (some .int) rm_X12_looked [.ref (bd 0)] C D (some (.int r9)) C D9 := by
  unfold f_X12_looked at h
  refine Ct.intro (own := RX12) (by decide) rfl (Nat.le_of_ble_eq_true rfl) ?_
  intro p e s m args below meth c H locs ls X Y hl
  have hx := X.1
  have hb := X.2.1
  have hl : lv_has ls 1 [(0, .ref (bd 0))] := hl
  refine lv_aload_n (pc := 0) hx hb dX12_looked_0 rfl (lv_at hl 0 rfl) ?_
  obtain ⟨r_1, D_1, e_1, h⟩ := bnd2_s h
  refine call_vi (pc := 1) (rest := []) [] X Y (c_X12_lookedNow  e_1) sw_X12_272 (rv_X12 X Y) rfl ⟨rfl, rfl, Nat.le_of_ble_eq_true rfl, Nat.le_of_ble_eq_true rfl⟩ hl rfl (Nat.le_of_ble_eq_true rfl) dX12_looked_1 (fun H locs Y => ?_)
  obtain ⟨hr9, hm9⟩ := ret_e h
  exact fin_i (pc := 4) X rfl Y hr9 rfl hm9 dX12_looked_4
abbrev rm_X12_spanOf : Room := { frames := 0, cells := 0, slots := 0, locals := 0 }
set_option maxHeartbeats 4000000 in
set_option maxRecDepth 100000 in
theorem c_X12_spanOf (v0 : Int32) : Ct l dC dI ad bd cI cZ yX12_spanOf cX12_spanOf 1 (some .int) rm_X12_spanOf [.int v0] C D (some (.int (f_X12_spanOf v0))) C D := by
  obtain ⟨r9, h⟩ : ∃ r9, f_X12_spanOf v0 = r9 := ⟨_, rfl⟩
  rw [h]
  unfold f_X12_spanOf at h
  refine Ct.intro (own := RX12) (by decide) rfl (Nat.le_of_ble_eq_true rfl) ?_
  intro p e s m args below meth c H locs ls X Y hl
  have hx := X.1
  have hb := X.2.1
  have hl : lv_has ls 1 [(0, .int v0)] := hl
  refine lv_iload_n (pc := 0) hx hb dX12_spanOf_0 rfl (lv_at hl 0 rfl) ?_
  refine lv_iconst (pc := 1) (v := 4) hx hb dX12_spanOf_1 (by decide) ?_
  refine lv_icmp_ge (pc := 2) (tgt := 9) hx hb dX12_spanOf_2 (by decide) (fun c_2 => ?_) (fun c_2 => ?_)
  · have h := itp c_2 h
    refine lv_iload_n (pc := 9) hx hb dX12_spanOf_9 rfl (lv_at hl 0 rfl) ?_
    refine lv_bipush (pc := 10) (v := 7) hx hb dX12_spanOf_10 (by decide) ?_
    refine lv_icmp_ge (pc := 12) (tgt := 19) hx hb dX12_spanOf_12 (by decide) (fun c_12 => ?_) (fun c_12 => ?_)
    · have h := itp c_12 h
      refine lv_iconst (pc := 19) (v := 2) hx hb dX12_spanOf_19 (by decide) ?_
      have hr9 := h
      exact fin_i (pc := 20) X rfl Y hr9 rfl rfl dX12_spanOf_20
    · have h := itn c_12 h
      refine lv_iconst (pc := 15) (v := 1) hx hb dX12_spanOf_15 (by decide) ?_
      refine lv_goto (pc := 16) (tgt := 20) hx hb dX12_spanOf_16 (by decide) ?_
      have hr9 := h
      exact fin_i (pc := 20) X rfl Y hr9 rfl rfl dX12_spanOf_20
  · have h := itn c_2 h
    refine lv_iconst (pc := 5) (v := 0) hx hb dX12_spanOf_5 (by decide) ?_
    refine lv_goto (pc := 6) (tgt := 20) hx hb dX12_spanOf_6 (by decide) ?_
    have hr9 := h
    exact fin_i (pc := 20) X rfl Y hr9 rfl rfl dX12_spanOf_20
abbrev rm_X12_story : Room := { frames := 1, cells := 0, slots := 0, locals := 22 }
set_option maxHeartbeats 4000000 in
set_option maxRecDepth 100000 in
theorem c_X12_story {r9 : Int32} {D9 : Mem} (v1 : Int32) (v2 : Int32) (v3 : Int32) (h : f_X12_story v1 v2 v3 D = some (r9, D9)) : Ct l dC dI ad bd cI cZ yX12_story cX12_story 5 (some .int) rm_X12_story [.ref (bd 0), .int v1, .int v2, .int v3] C D (some (.int r9)) C D9 := by
  unfold f_X12_story at h
  refine Ct.intro (own := RX12) (by decide) rfl (Nat.le_of_ble_eq_true rfl) ?_
  intro p e s m args below meth c H locs ls X Y hl
  have hx := X.1
  have hb := X.2.1
  have hl : lv_has ls 5 [(0, .ref (bd 0)), (1, .int v1), (2, .int v2), (3, .int v3)] := hl
  refine lv_iload_n (pc := 0) hx hb dX12_story_0 rfl (lv_at hl 1 rfl) ?_
  refine lv_iconst (pc := 1) (v := 0) hx hb dX12_story_1 (by decide) ?_
  refine lv_iconst (pc := 2) (v := 2) hx hb dX12_story_2 (by decide) ?_
  refine call_si (pc := 3) (rest := []) [.int v1, .int 0, .int 2] X Y (c_X12_in v1 0 2) sw_X12_107 rfl ⟨rfl, rfl, Nat.le_of_ble_eq_true rfl, Nat.le_of_ble_eq_true rfl⟩ hl rfl (Nat.le_of_ble_eq_true rfl) dX12_story_3 (fun H locs Y => ?_)
  refine lv_if_eq (pc := 6) (tgt := 28) hx hb dX12_story_6 (by decide) (fun c_6 => ?_) (fun c_6 => ?_)
  · have h := itn (b2i_f c_6) h
    refine lv_bipush (pc := 28) (v := (-2)) hx hb dX12_story_28 (by decide) ?_
    obtain ⟨hr9, hm9⟩ := ret_e h
    exact fin_i (pc := 30) X rfl Y hr9 rfl hm9 dX12_story_30
  · have h := itp (b2i_t c_6) h
    refine lv_iload_n (pc := 9) hx hb dX12_story_9 rfl (lv_at hl 2 rfl) ?_
    refine lv_iconst (pc := 10) (v := 0) hx hb dX12_story_10 (by decide) ?_
    refine lv_iconst (pc := 11) (v := 2) hx hb dX12_story_11 (by decide) ?_
    refine call_si (pc := 12) (rest := []) [.int v2, .int 0, .int 2] X Y (c_X12_in v2 0 2) sw_X12_107 rfl ⟨rfl, rfl, Nat.le_of_ble_eq_true rfl, Nat.le_of_ble_eq_true rfl⟩ hl rfl (Nat.le_of_ble_eq_true rfl) dX12_story_12 (fun H locs Y => ?_)
    refine lv_if_eq (pc := 15) (tgt := 28) hx hb dX12_story_15 (by decide) (fun c_15 => ?_) (fun c_15 => ?_)
    · have h := itn (b2i_f c_15) h
      refine lv_bipush (pc := 28) (v := (-2)) hx hb dX12_story_28 (by decide) ?_
      obtain ⟨hr9, hm9⟩ := ret_e h
      exact fin_i (pc := 30) X rfl Y hr9 rfl hm9 dX12_story_30
    · have h := itp (b2i_t c_15) h
      refine lv_iload_n (pc := 18) hx hb dX12_story_18 rfl (lv_at hl 3 rfl) ?_
      refine lv_iconst (pc := 19) (v := 1) hx hb dX12_story_19 (by decide) ?_
      refine lv_bipush (pc := 20) (v := 15) hx hb dX12_story_20 (by decide) ?_
      refine call_si (pc := 22) (rest := []) [.int v3, .int 1, .int 15] X Y (c_X12_in v3 1 15) sw_X12_107 rfl ⟨rfl, rfl, Nat.le_of_ble_eq_true rfl, Nat.le_of_ble_eq_true rfl⟩ hl rfl (Nat.le_of_ble_eq_true rfl) dX12_story_22 (fun H locs Y => ?_)
      refine lv_if_ne (pc := 25) (tgt := 31) hx hb dX12_story_25 (by decide) (fun c_25 => ?_) (fun c_25 => ?_)
      · have h := itp (b2i_t c_25) h
        refine lv_aload_n (pc := 31) hx hb dX12_story_31 rfl (lv_at hl 0 rfl) ?_
        refine gf_X12_80 (pc := 32) X Y dX12_story_32 ?_
        refine lv_iconst (pc := 35) (v := 3) hx hb dX12_story_35 (by decide) ?_
        refine lv_iload_n (pc := 36) hx hb dX12_story_36 rfl (lv_at hl 1 rfl) ?_
        refine lv_imul (pc := 37) hx hb dX12_story_37 ?_
        refine lv_iload_n (pc := 38) hx hb dX12_story_38 rfl (lv_at hl 2 rfl) ?_
        refine lv_iadd (pc := 39) hx hb dX12_story_39 ?_
        obtain ⟨g_40, h⟩ := gd_s h
        refine r_ialdm (pc := 40) X Y (cm_23 bd cI cZ) g_40 dX12_story_40 ?_
        obtain ⟨v4_41, ev4_41, h⟩ := lt_s_ h
        refine top_i ev4_41 ?_
        refine lv_istore (pc := 41) (lv' := [(4, .int v4_41), (0, .ref (bd 0)), (1, .int v1), (2, .int v2), (3, .int v3)]) hx hb dX12_story_41 hl (by decide) rfl (fun ls hl => ?_)
        refine lv_aload_n (pc := 43) hx hb dX12_story_43 rfl (lv_at hl 1 rfl) ?_
        refine gf_X12_80 (pc := 44) X Y dX12_story_44 ?_
        refine lv_iconst (pc := 47) (v := 3) hx hb dX12_story_47 (by decide) ?_
        refine lv_iload_n (pc := 48) hx hb dX12_story_48 rfl (lv_at hl 2 rfl) ?_
        refine lv_imul (pc := 49) hx hb dX12_story_49 ?_
        refine lv_iload_n (pc := 50) hx hb dX12_story_50 rfl (lv_at hl 3 rfl) ?_
        refine lv_iadd (pc := 51) hx hb dX12_story_51 ?_
        refine lv_iload_n (pc := 52) hx hb dX12_story_52 rfl (lv_at hl 4 rfl) ?_
        obtain ⟨g_53, h⟩ := gd_s h
        obtain ⟨D_53, hD_53, h⟩ := sto_s h
        refine r_iastm (pc := 53) X Y (cm_23 bd cI cZ) g_53 hD_53 dX12_story_53 (fun H locs Y => ?_)
        refine lv_iload (pc := 54) hx hb dX12_story_54 (lv_at hl 0 rfl) ?_
        obtain ⟨hr9, hm9⟩ := ret_e h
        exact fin_i (pc := 56) X rfl Y hr9 rfl hm9 dX12_story_56
      · have h := itn (b2i_f c_25) h
        refine lv_bipush (pc := 28) (v := (-2)) hx hb dX12_story_28 (by decide) ?_
        obtain ⟨hr9, hm9⟩ := ret_e h
        exact fin_i (pc := 30) X rfl Y hr9 rfl hm9 dX12_story_30
abbrev rm_X12_partOf : Room := { frames := 2, cells := 0, slots := 0, locals := 44 }
set_option maxHeartbeats 4000000 in
set_option maxRecDepth 100000 in
theorem WB_X12_partOf_71 {r9 : Int64} (v1 : Int32) (v2 : Int32) (v3 : Int64) (v5 : Int32) (D : Mem) (X : Cx p s m args meth c cX12_partOf RX12 7 (some .long) dC dI ad bd cI cZ) {kb : Int64 → Int32 → Option Int64} (hkb : ∀ (v3' : Int64) (v5' : Int32) (H : Heap) (locs : List Loc) (ls : Array Slot), Ys s dC dI ad bd cI cZ C D H locs → lv_has ls 7 [(0, .ref (bd 0)), (1, .int v1), (2, .int v2), (3, .long v3'), (5, .int v5')] → kb v3' v5' = some r9 → W p l e rm_X12_partOf s m args below meth c H locs 0 0 (MQ below (QC (some (.long r9)) dC dI ad bd cI cZ C D) args s 0 0 (AD ad bd)) (F0 m 5 ls [])) {H : Heap} {locs : List Loc} {ls : Array Slot} (Y : Ys s dC dI ad bd cI cZ C D H locs) (hl : lv_has ls 7 [(0, .ref (bd 0)), (1, .int v1), (2, .int v2), (3, .long v3), (5, .int v5)]) (h : B_X12_partOf_71 v3 v5 kb = some r9) : W p l e rm_X12_partOf s m args below meth c H locs 0 0 (MQ below (QC (some (.long r9)) dC dI ad bd cI cZ C D) args s 0 0 (AD ad bd)) (F0 m 71 ls []) := by
  have hx := X.1
  have hb := X.2.1
  unfold B_X12_partOf_71 at h
  obtain ⟨v5_71, ev5_71, h⟩ := lt_s_ h
  refine lv_iinc (pc := 71) (v := v5_71) (lv' := [(5, .int v5_71), (0, .ref (bd 0)), (1, .int v1), (2, .int v2), (3, .long v3)]) hx hb dX12_partOf_71 hl (k := 4) rfl (by rw [ev5_71]; rfl) (by decide) rfl (fun ls hl => ?_)
  refine lv_goto (pc := 74) (tgt := 5) hx hb dX12_partOf_74 (by decide) ?_
  exact hkb v3 v5_71 H locs ls Y (lv_sub hl [1, 2, 3, 4, 0] rfl) h
set_option maxHeartbeats 4000000 in
set_option maxRecDepth 100000 in
theorem WB_X12_partOf_69 {r9 : Int64} (x0 : Int64) (x1 : Int64) (v1 : Int32) (v2 : Int32) (v5 : Int32) (D : Mem) (X : Cx p s m args meth c cX12_partOf RX12 7 (some .long) dC dI ad bd cI cZ) {kb : Int64 → Int32 → Option Int64} (hkb : ∀ (v3' : Int64) (v5' : Int32) (H : Heap) (locs : List Loc) (ls : Array Slot), Ys s dC dI ad bd cI cZ C D H locs → lv_has ls 7 [(0, .ref (bd 0)), (1, .int v1), (2, .int v2), (3, .long v3'), (5, .int v5')] → kb v3' v5' = some r9 → W p l e rm_X12_partOf s m args below meth c H locs 0 0 (MQ below (QC (some (.long r9)) dC dI ad bd cI cZ C D) args s 0 0 (AD ad bd)) (F0 m 5 ls [])) {H : Heap} {locs : List Loc} {ls : Array Slot} (Y : Ys s dC dI ad bd cI cZ C D H locs) (hl : lv_has ls 7 [(0, .ref (bd 0)), (1, .int v1), (2, .int v2), (5, .int v5)]) (h : B_X12_partOf_69 x0 x1 v5 kb = some r9) : W p l e rm_X12_partOf s m args below meth c H locs 0 0 (MQ below (QC (some (.long r9)) dC dI ad bd cI cZ C D) args s 0 0 (AD ad bd)) (F0 m 69 ls [.long x1, .long x0]) := by
  have hx := X.1
  have hb := X.2.1
  unfold B_X12_partOf_69 at h
  refine lv_lmul (pc := 69) hx hb dX12_partOf_69 ?_
  obtain ⟨v3_70, ev3_70, h⟩ := lt_s_ h
  refine top_l ev3_70 ?_
  refine lv_lstore_n (pc := 70) (lv' := [(3, .long v3_70), (0, .ref (bd 0)), (1, .int v1), (2, .int v2), (5, .int v5)]) hx hb dX12_partOf_70 rfl hl (by decide) rfl (fun ls hl => ?_)
  exact WB_X12_partOf_71 v1 v2 v3_70 v5 D X (kb := kb) hkb Y (lv_sub hl [1, 2, 3, 0, 4] rfl) h
set_option maxHeartbeats 4000000 in
set_option maxRecDepth 100000 in
theorem WL_X12_partOf_5 {r9 : Int64} (v1 : Int32) (v2 : Int32) (D : Mem) (X : Cx p s m args meth c cX12_partOf RX12 7 (some .long) dC dI ad bd cI cZ) {kx : Int64 → Option Int64} (hkx : ∀ (v3' : Int64) (H : Heap) (locs : List Loc) (ls : Array Slot), Ys s dC dI ad bd cI cZ C D H locs → lv_has ls 7 [(3, .long v3')] → kx v3' = some r9 → W p l e rm_X12_partOf s m args below meth c H locs 0 0 (MQ below (QC (some (.long r9)) dC dI ad bd cI cZ C D) args s 0 0 (AD ad bd)) (F0 m 77 ls [])) : ∀ (n_ : Nat) (v3 : Int64) (v5 : Int32) (H : Heap) (locs : List Loc) (ls : Array Slot), Ys s dC dI ad bd cI cZ C D H locs → lv_has ls 7 [(0, .ref (bd 0)), (1, .int v1), (2, .int v2), (3, .long v3), (5, .int v5)] → L_X12_partOf_5 v1 v2 D kx n_ v3 v5 = some r9 → W p l e rm_X12_partOf s m args below meth c H locs 0 0 (MQ below (QC (some (.long r9)) dC dI ad bd cI cZ C D) args s 0 0 (AD ad bd)) (F0 m 5 ls []) := by
  have hx := X.1
  have hb := X.2.1
  intro n_
  induction n_ with
  | zero =>
    intro v3 v5 H locs ls Y hl h
    cases h
  | succ n_ ih =>
    intro v3 v5 H locs ls Y hl h
    unfold L_X12_partOf_5 at h
    refine lv_iload (pc := 5) hx hb dX12_partOf_5 (lv_at hl 4 rfl) ?_
    refine lv_aload_n (pc := 7) hx hb dX12_partOf_7 rfl (lv_at hl 0 rfl) ?_
    refine gf_X12_124 (pc := 8) X Y dX12_partOf_8 ?_
    refine lv_icmp_ge (pc := 11) (tgt := 77) hx hb dX12_partOf_11 (by decide) (fun c_11 => ?_) (fun c_11 => ?_)
    · have h := itp c_11 h
      exact hkx v3 H locs ls Y (lv_sub hl [3] rfl) h
    · have h := itn c_11 h
      refine lv_aload_n (pc := 14) hx hb dX12_partOf_14 rfl (lv_at hl 0 rfl) ?_
      refine lv_iload (pc := 15) hx hb dX12_partOf_15 (lv_at hl 4 rfl) ?_
      refine lv_iload_n (pc := 17) hx hb dX12_partOf_17 rfl (lv_at hl 1 rfl) ?_
      refine lv_iconst (pc := 18) (v := 0) hx hb dX12_partOf_18 (by decide) ?_
      obtain ⟨r_19, e_19, h⟩ := bnd_s h
      refine call_vi (pc := 19) (rest := []) [.int v5, .int v1, .int 0] X Y (c_X12_isOf v5 v1 0 e_19) sw_X12_141 (rv_X12 X Y) rfl ⟨rfl, rfl, Nat.le_of_ble_eq_true rfl, Nat.le_of_ble_eq_true rfl⟩ hl rfl (Nat.le_of_ble_eq_true rfl) dX12_partOf_19 (fun H locs Y => ?_)
      refine lv_if_eq (pc := 22) (tgt := 71) hx hb dX12_partOf_22 (by decide) (fun c_22 => ?_) (fun c_22 => ?_)
      · have h := itn (b2i_f c_22) h
        exact WB_X12_partOf_71 v1 v2 v3 v5 D X (kb := (L_X12_partOf_5 v1 v2 D kx n_)) ih Y (lv_sub hl [0, 1, 2, 3, 4] rfl) h
      · have h := itp (b2i_t c_22) h
        refine lv_aload_n (pc := 25) hx hb dX12_partOf_25 rfl (lv_at hl 0 rfl) ?_
        refine gf_X12_80 (pc := 26) X Y dX12_partOf_26 ?_
        refine lv_iconst (pc := 29) (v := 3) hx hb dX12_partOf_29 (by decide) ?_
        refine lv_iload_n (pc := 30) hx hb dX12_partOf_30 rfl (lv_at hl 2 rfl) ?_
        refine lv_imul (pc := 31) hx hb dX12_partOf_31 ?_
        refine lv_aload_n (pc := 32) hx hb dX12_partOf_32 rfl (lv_at hl 0 rfl) ?_
        refine gf_X12_16 (pc := 33) X Y dX12_partOf_33 ?_
        refine lv_iload (pc := 36) hx hb dX12_partOf_36 (lv_at hl 4 rfl) ?_
        obtain ⟨g_38, h⟩ := gd_s h
        refine r_ialdm (pc := 38) X Y (cm_3 bd cI cZ) g_38 dX12_partOf_38 ?_
        refine call_si (pc := 39) (rest := [.int (3 * v2), .ref (bd 23)]) [.int (D 3 v5.toNatClampNeg)] X Y (c_X12_spanOf (D 3 v5.toNatClampNeg)) sw_X12_275 rfl ⟨rfl, rfl, Nat.le_of_ble_eq_true rfl, Nat.le_of_ble_eq_true rfl⟩ hl rfl (Nat.le_of_ble_eq_true rfl) dX12_partOf_39 (fun H locs Y => ?_)
        refine lv_iadd (pc := 42) hx hb dX12_partOf_42 ?_
        obtain ⟨g_43, h⟩ := gd_s h
        refine r_ialdm (pc := 43) X Y (cm_23 bd cI cZ) g_43 dX12_partOf_43 ?_
        obtain ⟨v6_44, ev6_44, h⟩ := lt_s_ h
        refine top_i ev6_44 ?_
        refine lv_istore (pc := 44) (lv' := [(6, .int v6_44), (0, .ref (bd 0)), (1, .int v1), (2, .int v2), (3, .long v3), (5, .int v5)]) hx hb dX12_partOf_44 hl (by decide) rfl (fun ls hl => ?_)
        refine lv_lload_n (pc := 46) hx hb dX12_partOf_46 rfl (lv_at hl 4 rfl) ?_
        refine lv_aload_n (pc := 47) hx hb dX12_partOf_47 rfl (lv_at hl 1 rfl) ?_
        refine gf_X12_19 (pc := 48) X Y dX12_partOf_48 ?_
        refine lv_iload (pc := 51) hx hb dX12_partOf_51 (lv_at hl 5 rfl) ?_
        obtain ⟨g_53, h⟩ := gd_s h
        refine r_ialdm (pc := 53) X Y (cm_4 bd cI cZ) g_53 dX12_partOf_53 ?_
        refine lv_if_ne (pc := 54) (tgt := 63) hx hb dX12_partOf_54 (by decide) (fun c_54 => ?_) (fun c_54 => ?_)
        · have h := itn c_54 h
          refine lv_bipush (pc := 63) (v := 16) hx hb dX12_partOf_63 (by decide) ?_
          refine lv_iload (pc := 65) hx hb dX12_partOf_65 (lv_at hl 0 rfl) ?_
          refine lv_isub (pc := 67) hx hb dX12_partOf_67 ?_
          refine lv_i2l (pc := 68) hx hb dX12_partOf_68 rfl ?_
          exact WB_X12_partOf_69 v3 ((16 - v6_44).toInt64) v1 v2 v5 D X (kb := (L_X12_partOf_5 v1 v2 D kx n_)) ih Y (lv_sub hl [1, 2, 3, 5] rfl) h
        · have h := itp c_54 h
          refine lv_iload (pc := 57) hx hb dX12_partOf_57 (lv_at hl 0 rfl) ?_
          refine lv_i2l (pc := 59) hx hb dX12_partOf_59 rfl ?_
          refine lv_goto (pc := 60) (tgt := 69) hx hb dX12_partOf_60 (by decide) ?_
          exact WB_X12_partOf_69 v3 (v6_44.toInt64) v1 v2 v5 D X (kb := (L_X12_partOf_5 v1 v2 D kx n_)) ih Y (lv_sub hl [1, 2, 3, 5] rfl) h
set_option maxHeartbeats 4000000 in
set_option maxRecDepth 100000 in
theorem c_X12_partOf {r9 : Int64} (v1 : Int32) (v2 : Int32) (h : f_X12_partOf v1 v2 D = some r9) : Ct l dC dI ad bd cI cZ yX12_partOf cX12_partOf 7 (some .long) rm_X12_partOf [.ref (bd 0), .int v1, .int v2] C D (some (.long r9)) C D := by
  unfold f_X12_partOf at h
  refine Ct.intro (own := RX12) (by decide) rfl (Nat.le_of_ble_eq_true rfl) ?_
  intro p e s m args below meth c H locs ls X Y hl
  have hx := X.1
  have hb := X.2.1
  have hl : lv_has ls 7 [(0, .ref (bd 0)), (1, .int v1), (2, .int v2)] := hl
  refine lv_lconst (pc := 0) (v := 1) hx hb dX12_partOf_0 (by decide) ?_
  refine lv_lstore_n (pc := 1) (lv' := [(3, .long 1), (0, .ref (bd 0)), (1, .int v1), (2, .int v2)]) hx hb dX12_partOf_1 rfl hl (by decide) rfl (fun ls hl => ?_)
  refine lv_iconst (pc := 2) (v := 0) hx hb dX12_partOf_2 (by decide) ?_
  refine lv_istore (pc := 3) (lv' := [(5, .int 0), (3, .long 1), (0, .ref (bd 0)), (1, .int v1), (2, .int v2)]) hx hb dX12_partOf_3 hl (by decide) rfl (fun ls hl => ?_)
  refine WL_X12_partOf_5 v1 v2 D X (fun v3_77 H locs ls Y hl h => ?_) FU 1 0 H locs ls Y (lv_sub hl [2, 3, 4, 1, 0] rfl) h
  refine lv_lload_n (pc := 77) hx hb dX12_partOf_77 rfl (lv_at hl 0 rfl) ?_
  have hr9 := ret_p h
  exact fin_l (pc := 78) X rfl Y hr9 rfl rfl dX12_partOf_78
abbrev rm_X12_odds : Room := { frames := 3, cells := 0, slots := 0, locals := 70 }
set_option maxHeartbeats 4000000 in
set_option maxRecDepth 100000 in
theorem WB_X12_odds_25 {r9 : Int64} (D : Mem) (X : Cx p s m args meth c cX12_odds RX12 4 (some .long) dC dI ad bd cI cZ) {H : Heap} {locs : List Loc} {ls : Array Slot} (Y : Ys s dC dI ad bd cI cZ C D H locs) (hl : lv_has ls 4 []) (h : B_X12_odds_25 = some r9) : W p l e rm_X12_odds s m args below meth c H locs 0 0 (MQ below (QC (some (.long r9)) dC dI ad bd cI cZ C D) args s 0 0 (AD ad bd)) (F0 m 25 ls []) := by
  have hx := X.1
  have hb := X.2.1
  unfold B_X12_odds_25 at h
  refine lv_bipush (pc := 25) (v := (-2)) hx hb dX12_odds_25 (by decide) ?_
  refine call_sl (pc := 27) (rest := []) [.int (-2)] X Y (c_X12_no (-2)) sw_X12_161 rfl ⟨rfl, rfl, Nat.le_of_ble_eq_true rfl, Nat.le_of_ble_eq_true rfl⟩ hl rfl (Nat.le_of_ble_eq_true rfl) dX12_odds_27 (fun H locs Y => ?_)
  have hr9 := ret_p h
  exact fin_l (pc := 30) X rfl Y hr9 rfl rfl dX12_odds_30
set_option maxHeartbeats 4000000 in
set_option maxRecDepth 100000 in
theorem c_X12_odds {r9 : Int64} (v1 : Int32) (v2 : Int32) (v3 : Int32) (h : f_X12_odds v1 v2 v3 D = some r9) : Ct l dC dI ad bd cI cZ yX12_odds cX12_odds 4 (some .long) rm_X12_odds [.ref (bd 0), .int v1, .int v2, .int v3] C D (some (.long r9)) C D := by
  unfold f_X12_odds at h
  refine Ct.intro (own := RX12) (by decide) rfl (Nat.le_of_ble_eq_true rfl) ?_
  intro p e s m args below meth c H locs ls X Y hl
  have hx := X.1
  have hb := X.2.1
  have hl : lv_has ls 4 [(0, .ref (bd 0)), (1, .int v1), (2, .int v2), (3, .int v3)] := hl
  refine lv_iload_n (pc := 0) hx hb dX12_odds_0 rfl (lv_at hl 1 rfl) ?_
  refine call_si (pc := 1) (rest := []) [.int v1] X Y (c_X12_isAny v1) sw_X12_154 rfl ⟨rfl, rfl, Nat.le_of_ble_eq_true rfl, Nat.le_of_ble_eq_true rfl⟩ hl rfl (Nat.le_of_ble_eq_true rfl) dX12_odds_1 (fun H locs Y => ?_)
  refine lv_if_eq (pc := 4) (tgt := 25) hx hb dX12_odds_4 (by decide) (fun c_4 => ?_) (fun c_4 => ?_)
  · have h := itn (b2i_f c_4) h
    exact WB_X12_odds_25  D X Y (lv_sub hl [] rfl) h
  · have h := itp (b2i_t c_4) h
    refine lv_iload_n (pc := 7) hx hb dX12_odds_7 rfl (lv_at hl 2 rfl) ?_
    refine lv_iconst (pc := 8) (v := 0) hx hb dX12_odds_8 (by decide) ?_
    refine lv_iconst (pc := 9) (v := 2) hx hb dX12_odds_9 (by decide) ?_
    refine call_si (pc := 10) (rest := []) [.int v2, .int 0, .int 2] X Y (c_X12_in v2 0 2) sw_X12_107 rfl ⟨rfl, rfl, Nat.le_of_ble_eq_true rfl, Nat.le_of_ble_eq_true rfl⟩ hl rfl (Nat.le_of_ble_eq_true rfl) dX12_odds_10 (fun H locs Y => ?_)
    refine lv_if_eq (pc := 13) (tgt := 25) hx hb dX12_odds_13 (by decide) (fun c_13 => ?_) (fun c_13 => ?_)
    · have h := itn (b2i_f c_13) h
      exact WB_X12_odds_25  D X Y (lv_sub hl [] rfl) h
    · have h := itp (b2i_t c_13) h
      refine lv_iload_n (pc := 16) hx hb dX12_odds_16 rfl (lv_at hl 3 rfl) ?_
      refine lv_iconst (pc := 17) (v := 0) hx hb dX12_odds_17 (by decide) ?_
      refine lv_iconst (pc := 18) (v := 1) hx hb dX12_odds_18 (by decide) ?_
      refine call_si (pc := 19) (rest := []) [.int v3, .int 0, .int 1] X Y (c_X12_in v3 0 1) sw_X12_107 rfl ⟨rfl, rfl, Nat.le_of_ble_eq_true rfl, Nat.le_of_ble_eq_true rfl⟩ hl rfl (Nat.le_of_ble_eq_true rfl) dX12_odds_19 (fun H locs Y => ?_)
      refine lv_if_ne (pc := 22) (tgt := 31) hx hb dX12_odds_22 (by decide) (fun c_22 => ?_) (fun c_22 => ?_)
      · have h := itp (b2i_t c_22) h
        refine lv_aload_n (pc := 31) hx hb dX12_odds_31 rfl (lv_at hl 0 rfl) ?_
        refine lv_iload_n (pc := 32) hx hb dX12_odds_32 rfl (lv_at hl 1 rfl) ?_
        refine lv_iconst (pc := 33) (v := 0) hx hb dX12_odds_33 (by decide) ?_
        obtain ⟨r_34, e_34, h⟩ := bnd_s h
        refine call_vi (pc := 34) (rest := []) [.int v1, .int 0] X Y (c_X12_countOf v1 0 e_34) sw_X12_144 (rv_X12 X Y) rfl ⟨rfl, rfl, Nat.le_of_ble_eq_true rfl, Nat.le_of_ble_eq_true rfl⟩ hl rfl (Nat.le_of_ble_eq_true rfl) dX12_odds_34 (fun H locs Y => ?_)
        refine lv_bipush (pc := 37) (v := 14) hx hb dX12_odds_37 (by decide) ?_
        refine lv_icmp_le (pc := 39) (tgt := 48) hx hb dX12_odds_39 (by decide) (fun c_39 => ?_) (fun c_39 => ?_)
        · have h := itp c_39 h
          refine lv_aload_n (pc := 48) hx hb dX12_odds_48 rfl (lv_at hl 0 rfl) ?_
          refine lv_iload_n (pc := 49) hx hb dX12_odds_49 rfl (lv_at hl 1 rfl) ?_
          refine lv_iload_n (pc := 50) hx hb dX12_odds_50 rfl (lv_at hl 2 rfl) ?_
          obtain ⟨r_51, e_51, h⟩ := bnd_s h
          refine call_vl (pc := 51) (rest := []) [.int v1, .int v2] X Y (c_X12_partOf v1 v2 e_51) sw_X12_278 (rv_X12 X Y) rfl ⟨rfl, rfl, Nat.le_of_ble_eq_true rfl, Nat.le_of_ble_eq_true rfl⟩ hl rfl (Nat.le_of_ble_eq_true rfl) dX12_odds_51 (fun H locs Y => ?_)
          refine lv_aload_n (pc := 54) hx hb dX12_odds_54 rfl (lv_at hl 0 rfl) ?_
          refine lv_iload_n (pc := 55) hx hb dX12_odds_55 rfl (lv_at hl 1 rfl) ?_
          refine lv_iconst (pc := 56) (v := 0) hx hb dX12_odds_56 (by decide) ?_
          obtain ⟨r_57, e_57, h⟩ := bnd_s h
          refine call_vl (pc := 57) (rest := [.long r_51]) [.int v1, .int 0] X Y (c_X12_partOf v1 0 e_57) sw_X12_278 (rv_X12 X Y) rfl ⟨rfl, rfl, Nat.le_of_ble_eq_true rfl, Nat.le_of_ble_eq_true rfl⟩ hl rfl (Nat.le_of_ble_eq_true rfl) dX12_odds_57 (fun H locs Y => ?_)
          refine lv_aload_n (pc := 60) hx hb dX12_odds_60 rfl (lv_at hl 0 rfl) ?_
          refine lv_iload_n (pc := 61) hx hb dX12_odds_61 rfl (lv_at hl 1 rfl) ?_
          refine lv_iconst (pc := 62) (v := 1) hx hb dX12_odds_62 (by decide) ?_
          obtain ⟨r_63, e_63, h⟩ := bnd_s h
          refine call_vl (pc := 63) (rest := [.long r_57, .long r_51]) [.int v1, .int 1] X Y (c_X12_partOf v1 1 e_63) sw_X12_278 (rv_X12 X Y) rfl ⟨rfl, rfl, Nat.le_of_ble_eq_true rfl, Nat.le_of_ble_eq_true rfl⟩ hl rfl (Nat.le_of_ble_eq_true rfl) dX12_odds_63 (fun H locs Y => ?_)
          refine lv_ladd (pc := 66) hx hb dX12_odds_66 ?_
          refine lv_aload_n (pc := 67) hx hb dX12_odds_67 rfl (lv_at hl 0 rfl) ?_
          refine lv_iload_n (pc := 68) hx hb dX12_odds_68 rfl (lv_at hl 1 rfl) ?_
          refine lv_iconst (pc := 69) (v := 2) hx hb dX12_odds_69 (by decide) ?_
          obtain ⟨r_70, e_70, h⟩ := bnd_s h
          refine call_vl (pc := 70) (rest := [.long (r_57 + r_63), .long r_51]) [.int v1, .int 2] X Y (c_X12_partOf v1 2 e_70) sw_X12_278 (rv_X12 X Y) rfl ⟨rfl, rfl, Nat.le_of_ble_eq_true rfl, Nat.le_of_ble_eq_true rfl⟩ hl rfl (Nat.le_of_ble_eq_true rfl) dX12_odds_70 (fun H locs Y => ?_)
          refine lv_ladd (pc := 73) hx hb dX12_odds_73 ?_
          refine lv_iload_n (pc := 74) hx hb dX12_odds_74 rfl (lv_at hl 3 rfl) ?_
          obtain ⟨r_75, e_75, h⟩ := bnd_s h
          refine call_sl (pc := 75) (rest := []) [.long r_51, .long ((r_57 + r_63) + r_70), .int v3] X Y (c_X12_lowest r_51 ((r_57 + r_63) + r_70) v3 e_75) sw_X12_168 rfl ⟨rfl, rfl, Nat.le_of_ble_eq_true rfl, Nat.le_of_ble_eq_true rfl⟩ hl rfl (Nat.le_of_ble_eq_true rfl) dX12_odds_75 (fun H locs Y => ?_)
          have hr9 := ret_p h
          exact fin_l (pc := 78) X rfl Y hr9 rfl rfl dX12_odds_78
        · have h := itn c_39 h
          refine lv_bipush (pc := 42) (v := (-4)) hx hb dX12_odds_42 (by decide) ?_
          refine call_sl (pc := 44) (rest := []) [.int (-4)] X Y (c_X12_no (-4)) sw_X12_161 rfl ⟨rfl, rfl, Nat.le_of_ble_eq_true rfl, Nat.le_of_ble_eq_true rfl⟩ hl rfl (Nat.le_of_ble_eq_true rfl) dX12_odds_44 (fun H locs Y => ?_)
          have hr9 := ret_p h
          exact fin_l (pc := 47) X rfl Y hr9 rfl rfl dX12_odds_47
      · have h := itn (b2i_f c_22) h
        exact WB_X12_odds_25  D X Y (lv_sub hl [] rfl) h
abbrev rm_X12_round : Room := { frames := 2, cells := 0, slots := 0, locals := 42 }
set_option maxHeartbeats 4000000 in
set_option maxRecDepth 100000 in
theorem c_X12_round {r9 : Int32} {D9 : Mem} (v1 : Int32) (v2 : Int32) (h : f_X12_round v1 v2 D = some (r9, D9)) : Ct l dC dI ad bd cI cZ yX12_round cX12_round 3 (some .int) rm_X12_round [.ref (bd 0), .int v1, .int v2] C D (some (.int r9)) C D9 := by
  unfold f_X12_round at h
  refine Ct.intro (own := RX12) (by decide) rfl (Nat.le_of_ble_eq_true rfl) ?_
  intro p e s m args below meth c H locs ls X Y hl
  have hx := X.1
  have hb := X.2.1
  have hl : lv_has ls 3 [(0, .ref (bd 0)), (1, .int v1), (2, .int v2)] := hl
  refine lv_iload_n (pc := 0) hx hb dX12_round_0 rfl (lv_at hl 1 rfl) ?_
  refine call_si (pc := 1) (rest := []) [.int v1] X Y (c_X12_isOffer v1) sw_X12_118 rfl ⟨rfl, rfl, Nat.le_of_ble_eq_true rfl, Nat.le_of_ble_eq_true rfl⟩ hl rfl (Nat.le_of_ble_eq_true rfl) dX12_round_1 (fun H locs Y => ?_)
  refine lv_if_eq (pc := 4) (tgt := 16) hx hb dX12_round_4 (by decide) (fun c_4 => ?_) (fun c_4 => ?_)
  · have h := itn (b2i_f c_4) h
    refine lv_bipush (pc := 16) (v := (-2)) hx hb dX12_round_16 (by decide) ?_
    obtain ⟨hr9, hm9⟩ := ret_e h
    exact fin_i (pc := 18) X rfl Y hr9 rfl hm9 dX12_round_18
  · have h := itp (b2i_t c_4) h
    refine lv_iload_n (pc := 7) hx hb dX12_round_7 rfl (lv_at hl 2 rfl) ?_
    refine lv_iconst (pc := 8) (v := 0) hx hb dX12_round_8 (by decide) ?_
    refine lv_iconst (pc := 9) (v := 1) hx hb dX12_round_9 (by decide) ?_
    refine call_si (pc := 10) (rest := []) [.int v2, .int 0, .int 1] X Y (c_X12_in v2 0 1) sw_X12_107 rfl ⟨rfl, rfl, Nat.le_of_ble_eq_true rfl, Nat.le_of_ble_eq_true rfl⟩ hl rfl (Nat.le_of_ble_eq_true rfl) dX12_round_10 (fun H locs Y => ?_)
    refine lv_if_ne (pc := 13) (tgt := 19) hx hb dX12_round_13 (by decide) (fun c_13 => ?_) (fun c_13 => ?_)
    · have h := itp (b2i_t c_13) h
      refine lv_aload_n (pc := 19) hx hb dX12_round_19 rfl (lv_at hl 0 rfl) ?_
      refine gf_X12_282 (pc := 20) X Y dX12_round_20 ?_
      refine lv_bipush (pc := 23) (v := 24) hx hb dX12_round_23 (by decide) ?_
      refine lv_icmp_ne (pc := 25) (tgt := 31) hx hb dX12_round_25 (by decide) (fun c_25 => ?_) (fun c_25 => ?_)
      · have h := itn c_25 h
        refine lv_aload_n (pc := 31) hx hb dX12_round_31 rfl (lv_at hl 0 rfl) ?_
        refine gf_X12_83 (pc := 32) X Y dX12_round_32 ?_
        refine lv_aload_n (pc := 35) hx hb dX12_round_35 rfl (lv_at hl 0 rfl) ?_
        refine gf_X12_282 (pc := 36) X Y dX12_round_36 ?_
        refine lv_iload_n (pc := 39) hx hb dX12_round_39 rfl (lv_at hl 1 rfl) ?_
        obtain ⟨g_40, h⟩ := gd_s h
        obtain ⟨D_40, hD_40, h⟩ := sto_s h
        refine r_iastm (pc := 40) X Y (cm_24 bd cI cZ) g_40 hD_40 dX12_round_40 (fun H locs Y => ?_)
        refine lv_aload_n (pc := 41) hx hb dX12_round_41 rfl (lv_at hl 0 rfl) ?_
        refine gf_X12_86 (pc := 42) X Y dX12_round_42 ?_
        refine lv_aload_n (pc := 45) hx hb dX12_round_45 rfl (lv_at hl 0 rfl) ?_
        refine gf_X12_282 (pc := 46) X Y dX12_round_46 ?_
        refine lv_iload_n (pc := 49) hx hb dX12_round_49 rfl (lv_at hl 2 rfl) ?_
        obtain ⟨g_50, h⟩ := gd_s h
        obtain ⟨D_50, hD_50, h⟩ := sto_s h
        refine r_iastm (pc := 50) X Y (cm_25 bd cI cZ) g_50 hD_50 dX12_round_50 (fun H locs Y => ?_)
        refine lv_aload_n (pc := 51) hx hb dX12_round_51 rfl (lv_at hl 0 rfl) ?_
        refine lv_dup (pc := 52) hx hb dX12_round_52 rfl ?_
        refine gf_X12_282 (pc := 53) X Y dX12_round_53 ?_
        refine lv_iconst (pc := 56) (v := 1) hx hb dX12_round_56 (by decide) ?_
        refine lv_iadd (pc := 57) hx hb dX12_round_57 ?_
        obtain ⟨D_58, hD_58, h⟩ := sto_s h
        refine pf_X12_282 (pc := 58) X Y hD_58 dX12_round_58 (fun H locs Y => ?_)
        refine lv_aload_n (pc := 61) hx hb dX12_round_61 rfl (lv_at hl 0 rfl) ?_
        refine gf_X12_282 (pc := 62) X Y dX12_round_62 ?_
        obtain ⟨hr9, hm9⟩ := ret_e h
        exact fin_i (pc := 65) X rfl Y hr9 rfl hm9 dX12_round_65
      · have h := itp c_25 h
        refine lv_bipush (pc := 28) (v := (-4)) hx hb dX12_round_28 (by decide) ?_
        obtain ⟨hr9, hm9⟩ := ret_e h
        exact fin_i (pc := 30) X rfl Y hr9 rfl hm9 dX12_round_30
    · have h := itn (b2i_f c_13) h
      refine lv_bipush (pc := 16) (v := (-2)) hx hb dX12_round_16 (by decide) ?_
      obtain ⟨hr9, hm9⟩ := ret_e h
      exact fin_i (pc := 18) X rfl Y hr9 rfl hm9 dX12_round_18
abbrev rm_X12_forget : Room := { frames := 0, cells := 0, slots := 0, locals := 0 }
set_option maxHeartbeats 4000000 in
set_option maxRecDepth 100000 in
theorem c_X12_forget {r9 : Int32} {D9 : Mem} (h : f_X12_forget D = some (r9, D9)) : Ct l dC dI ad bd cI cZ yX12_forget cX12_forget 2 (some .int) rm_X12_forget [.ref (bd 0)] C D (some (.int r9)) C D9 := by
  unfold f_X12_forget at h
  refine Ct.intro (own := RX12) (by decide) rfl (Nat.le_of_ble_eq_true rfl) ?_
  intro p e s m args below meth c H locs ls X Y hl
  have hx := X.1
  have hb := X.2.1
  have hl : lv_has ls 2 [(0, .ref (bd 0))] := hl
  refine lv_aload_n (pc := 0) hx hb dX12_forget_0 rfl (lv_at hl 0 rfl) ?_
  refine gf_X12_282 (pc := 1) X Y dX12_forget_1 ?_
  obtain ⟨v1_4, ev1_4, h⟩ := lt_s_ h
  refine top_i ev1_4 ?_
  refine lv_istore_n (pc := 4) (lv' := [(1, .int v1_4), (0, .ref (bd 0))]) hx hb dX12_forget_4 rfl hl (by decide) rfl (fun ls hl => ?_)
  refine lv_aload_n (pc := 5) hx hb dX12_forget_5 rfl (lv_at hl 1 rfl) ?_
  refine lv_iconst (pc := 6) (v := 0) hx hb dX12_forget_6 (by decide) ?_
  obtain ⟨D_7, hD_7, h⟩ := sto_s h
  refine pf_X12_282 (pc := 7) X Y hD_7 dX12_forget_7 (fun H locs Y => ?_)
  refine lv_iload_n (pc := 10) hx hb dX12_forget_10 rfl (lv_at hl 0 rfl) ?_
  obtain ⟨hr9, hm9⟩ := ret_e h
  exact fin_i (pc := 11) X rfl Y hr9 rfl hm9 dX12_forget_11
abbrev rm_X12_missesOf : Room := { frames := 1, cells := 0, slots := 0, locals := 20 }
set_option maxHeartbeats 4000000 in
set_option maxRecDepth 100000 in
theorem WB_X12_missesOf_72 {r9 : Int32} (x0 : Int32) (v1 : Int32) (v2 : Int32) (v3 : Int32) (v4 : Int32) (D : Mem) (X : Cx p s m args meth c cX12_missesOf RX12 6 (some .int) dC dI ad bd cI cZ) {kb : Int32 → Int32 → Option Int32} (hkb : ∀ (v3' : Int32) (v4' : Int32) (H : Heap) (locs : List Loc) (ls : Array Slot), Ys s dC dI ad bd cI cZ C D H locs → lv_has ls 6 [(0, .ref (bd 0)), (1, .int v1), (2, .int v2), (3, .int v3'), (4, .int v4')] → kb v3' v4' = some r9 → W p l e rm_X12_missesOf s m args below meth c H locs 0 0 (MQ below (QC (some (.int r9)) dC dI ad bd cI cZ C D) args s 0 0 (AD ad bd)) (F0 m 5 ls [])) {H : Heap} {locs : List Loc} {ls : Array Slot} (Y : Ys s dC dI ad bd cI cZ C D H locs) (hl : lv_has ls 6 [(0, .ref (bd 0)), (1, .int v1), (2, .int v2), (3, .int v3), (4, .int v4)]) (h : B_X12_missesOf_72 x0 v3 v4 D kb = some r9) : W p l e rm_X12_missesOf s m args below meth c H locs 0 0 (MQ below (QC (some (.int r9)) dC dI ad bd cI cZ C D) args s 0 0 (AD ad bd)) (F0 m 72 ls [.int x0]) := by
  have hx := X.1
  have hb := X.2.1
  unfold B_X12_missesOf_72 at h
  refine lv_istore (pc := 72) (lv' := [(5, .int x0), (0, .ref (bd 0)), (1, .int v1), (2, .int v2), (3, .int v3), (4, .int v4)]) hx hb dX12_missesOf_72 hl (by decide) rfl (fun ls hl => ?_)
  refine lv_iload_n (pc := 74) hx hb dX12_missesOf_74 rfl (lv_at hl 4 rfl) ?_
  refine lv_aload_n (pc := 75) hx hb dX12_missesOf_75 rfl (lv_at hl 1 rfl) ?_
  refine gf_X12_83 (pc := 76) X Y dX12_missesOf_76 ?_
  refine lv_iload (pc := 79) hx hb dX12_missesOf_79 (lv_at hl 5 rfl) ?_
  refine lv_iconst (pc := 81) (v := 1) hx hb dX12_missesOf_81 (by decide) ?_
  refine lv_iadd (pc := 82) hx hb dX12_missesOf_82 ?_
  obtain ⟨g_83, h⟩ := gd_s h
  refine r_ialdm (pc := 83) X Y (cm_24 bd cI cZ) g_83 dX12_missesOf_83 ?_
  refine lv_iload (pc := 84) hx hb dX12_missesOf_84 (lv_at hl 0 rfl) ?_
  refine lv_isub (pc := 86) hx hb dX12_missesOf_86 ?_
  refine call_si (pc := 87) (rest := [.int v3]) [.int ((D 24 (v4 + 1).toNatClampNeg) - x0)] X Y (c_X12_amount ((D 24 (v4 + 1).toNatClampNeg) - x0)) sw_X12_204 rfl ⟨rfl, rfl, Nat.le_of_ble_eq_true rfl, Nat.le_of_ble_eq_true rfl⟩ hl rfl (Nat.le_of_ble_eq_true rfl) dX12_missesOf_87 (fun H locs Y => ?_)
  refine lv_iadd (pc := 90) hx hb dX12_missesOf_90 ?_
  obtain ⟨v3_91, ev3_91, h⟩ := lt_s_ h
  refine top_i ev3_91 ?_
  refine lv_istore_n (pc := 91) (lv' := [(3, .int v3_91), (5, .int x0), (0, .ref (bd 0)), (1, .int v1), (2, .int v2), (4, .int v4)]) hx hb dX12_missesOf_91 rfl hl (by decide) rfl (fun ls hl => ?_)
  obtain ⟨v4_92, ev4_92, h⟩ := lt_s_ h
  refine lv_iinc (pc := 92) (v := v4_92) (lv' := [(4, .int v4_92), (3, .int v3_91), (5, .int x0), (0, .ref (bd 0)), (1, .int v1), (2, .int v2)]) hx hb dX12_missesOf_92 hl (k := 5) rfl (by rw [ev4_92]; rfl) (by decide) rfl (fun ls hl => ?_)
  refine lv_goto (pc := 95) (tgt := 5) hx hb dX12_missesOf_95 (by decide) ?_
  exact hkb v3_91 v4_92 H locs ls Y (lv_sub hl [3, 4, 5, 1, 0] rfl) h
set_option maxHeartbeats 4000000 in
set_option maxRecDepth 100000 in
theorem WB_X12_missesOf_47 {r9 : Int32} (x0 : Int32) (v1 : Int32) (v2 : Int32) (v3 : Int32) (v4 : Int32) (D : Mem) (X : Cx p s m args meth c cX12_missesOf RX12 6 (some .int) dC dI ad bd cI cZ) {kb : Int32 → Int32 → Option Int32} (hkb : ∀ (v3' : Int32) (v4' : Int32) (H : Heap) (locs : List Loc) (ls : Array Slot), Ys s dC dI ad bd cI cZ C D H locs → lv_has ls 6 [(0, .ref (bd 0)), (1, .int v1), (2, .int v2), (3, .int v3'), (4, .int v4')] → kb v3' v4' = some r9 → W p l e rm_X12_missesOf s m args below meth c H locs 0 0 (MQ below (QC (some (.int r9)) dC dI ad bd cI cZ C D) args s 0 0 (AD ad bd)) (F0 m 5 ls [])) {H : Heap} {locs : List Loc} {ls : Array Slot} (Y : Ys s dC dI ad bd cI cZ C D H locs) (hl : lv_has ls 6 [(0, .ref (bd 0)), (1, .int v1), (2, .int v2), (3, .int v3), (4, .int v4)]) (h : B_X12_missesOf_47 x0 v3 v4 D kb = some r9) : W p l e rm_X12_missesOf s m args below meth c H locs 0 0 (MQ below (QC (some (.int r9)) dC dI ad bd cI cZ C D) args s 0 0 (AD ad bd)) (F0 m 47 ls [.int x0]) := by
  have hx := X.1
  have hb := X.2.1
  unfold B_X12_missesOf_47 at h
  refine lv_istore (pc := 47) (lv' := [(5, .int x0), (0, .ref (bd 0)), (1, .int v1), (2, .int v2), (3, .int v3), (4, .int v4)]) hx hb dX12_missesOf_47 hl (by decide) rfl (fun ls hl => ?_)
  refine lv_iload (pc := 49) hx hb dX12_missesOf_49 (lv_at hl 0 rfl) ?_
  refine lv_if_ge (pc := 51) (tgt := 58) hx hb dX12_missesOf_51 (by decide) (fun c_51 => ?_) (fun c_51 => ?_)
  · have h := itp c_51 h
    refine lv_iload (pc := 58) hx hb dX12_missesOf_58 (lv_at hl 0 rfl) ?_
    refine lv_bipush (pc := 60) (v := 10) hx hb dX12_missesOf_60 (by decide) ?_
    refine lv_icmp_le (pc := 62) (tgt := 70) hx hb dX12_missesOf_62 (by decide) (fun c_62 => ?_) (fun c_62 => ?_)
    · have h := itp c_62 h
      refine lv_iload (pc := 70) hx hb dX12_missesOf_70 (lv_at hl 0 rfl) ?_
      exact WB_X12_missesOf_72 x0 v1 v2 v3 v4 D X (kb := kb) hkb Y (lv_sub hl [1, 2, 3, 4, 5] rfl) h
    · have h := itn c_62 h
      refine lv_bipush (pc := 65) (v := 10) hx hb dX12_missesOf_65 (by decide) ?_
      refine lv_goto (pc := 67) (tgt := 72) hx hb dX12_missesOf_67 (by decide) ?_
      exact WB_X12_missesOf_72 10 v1 v2 v3 v4 D X (kb := kb) hkb Y (lv_sub hl [1, 2, 3, 4, 5] rfl) h
  · have h := itn c_51 h
    refine lv_iconst (pc := 54) (v := 0) hx hb dX12_missesOf_54 (by decide) ?_
    refine lv_goto (pc := 55) (tgt := 72) hx hb dX12_missesOf_55 (by decide) ?_
    exact WB_X12_missesOf_72 0 v1 v2 v3 v4 D X (kb := kb) hkb Y (lv_sub hl [1, 2, 3, 4, 5] rfl) h
set_option maxHeartbeats 4000000 in
set_option maxRecDepth 100000 in
theorem WL_X12_missesOf_5 {r9 : Int32} (v1 : Int32) (v2 : Int32) (D : Mem) (X : Cx p s m args meth c cX12_missesOf RX12 6 (some .int) dC dI ad bd cI cZ) {kx : Int32 → Option Int32} (hkx : ∀ (v3' : Int32) (H : Heap) (locs : List Loc) (ls : Array Slot), Ys s dC dI ad bd cI cZ C D H locs → lv_has ls 6 [(3, .int v3')] → kx v3' = some r9 → W p l e rm_X12_missesOf s m args below meth c H locs 0 0 (MQ below (QC (some (.int r9)) dC dI ad bd cI cZ C D) args s 0 0 (AD ad bd)) (F0 m 98 ls [])) : ∀ (n_ : Nat) (v3 : Int32) (v4 : Int32) (H : Heap) (locs : List Loc) (ls : Array Slot), Ys s dC dI ad bd cI cZ C D H locs → lv_has ls 6 [(0, .ref (bd 0)), (1, .int v1), (2, .int v2), (3, .int v3), (4, .int v4)] → L_X12_missesOf_5 v1 v2 D kx n_ v3 v4 = some r9 → W p l e rm_X12_missesOf s m args below meth c H locs 0 0 (MQ below (QC (some (.int r9)) dC dI ad bd cI cZ C D) args s 0 0 (AD ad bd)) (F0 m 5 ls []) := by
  have hx := X.1
  have hb := X.2.1
  intro n_
  induction n_ with
  | zero =>
    intro v3 v4 H locs ls Y hl h
    cases h
  | succ n_ ih =>
    intro v3 v4 H locs ls Y hl h
    unfold L_X12_missesOf_5 at h
    refine lv_iload (pc := 5) hx hb dX12_missesOf_5 (lv_at hl 4 rfl) ?_
    refine lv_iconst (pc := 7) (v := 1) hx hb dX12_missesOf_7 (by decide) ?_
    refine lv_iadd (pc := 8) hx hb dX12_missesOf_8 ?_
    refine lv_aload_n (pc := 9) hx hb dX12_missesOf_9 rfl (lv_at hl 0 rfl) ?_
    refine gf_X12_282 (pc := 10) X Y dX12_missesOf_10 ?_
    refine lv_icmp_ge (pc := 13) (tgt := 98) hx hb dX12_missesOf_13 (by decide) (fun c_13 => ?_) (fun c_13 => ?_)
    · have h := itp c_13 h
      exact hkx v3 H locs ls Y (lv_sub hl [3] rfl) h
    · have h := itn c_13 h
      refine lv_aload_n (pc := 16) hx hb dX12_missesOf_16 rfl (lv_at hl 0 rfl) ?_
      refine gf_X12_86 (pc := 17) X Y dX12_missesOf_17 ?_
      refine lv_iload (pc := 20) hx hb dX12_missesOf_20 (lv_at hl 4 rfl) ?_
      obtain ⟨g_22, h⟩ := gd_s h
      refine r_ialdm (pc := 22) X Y (cm_25 bd cI cZ) g_22 dX12_missesOf_22 ?_
      refine lv_if_ne (pc := 23) (tgt := 38) hx hb dX12_missesOf_23 (by decide) (fun c_23 => ?_) (fun c_23 => ?_)
      · have h := itn c_23 h
        refine lv_aload_n (pc := 38) hx hb dX12_missesOf_38 rfl (lv_at hl 0 rfl) ?_
        refine gf_X12_83 (pc := 39) X Y dX12_missesOf_39 ?_
        refine lv_iload (pc := 42) hx hb dX12_missesOf_42 (lv_at hl 4 rfl) ?_
        obtain ⟨g_44, h⟩ := gd_s h
        refine r_ialdm (pc := 44) X Y (cm_24 bd cI cZ) g_44 dX12_missesOf_44 ?_
        refine lv_iload_n (pc := 45) hx hb dX12_missesOf_45 rfl (lv_at hl 2 rfl) ?_
        refine lv_isub (pc := 46) hx hb dX12_missesOf_46 ?_
        exact WB_X12_missesOf_47 ((D 24 v4.toNatClampNeg) - v2) v1 v2 v3 v4 D X (kb := (L_X12_missesOf_5 v1 v2 D kx n_)) ih Y (lv_sub hl [0, 1, 2, 3, 4] rfl) h
      · have h := itp c_23 h
        refine lv_aload_n (pc := 26) hx hb dX12_missesOf_26 rfl (lv_at hl 0 rfl) ?_
        refine gf_X12_83 (pc := 27) X Y dX12_missesOf_27 ?_
        refine lv_iload (pc := 30) hx hb dX12_missesOf_30 (lv_at hl 4 rfl) ?_
        obtain ⟨g_32, h⟩ := gd_s h
        refine r_ialdm (pc := 32) X Y (cm_24 bd cI cZ) g_32 dX12_missesOf_32 ?_
        refine lv_iload_n (pc := 33) hx hb dX12_missesOf_33 rfl (lv_at hl 1 rfl) ?_
        refine lv_iadd (pc := 34) hx hb dX12_missesOf_34 ?_
        refine lv_goto (pc := 35) (tgt := 47) hx hb dX12_missesOf_35 (by decide) ?_
        exact WB_X12_missesOf_47 ((D 24 v4.toNatClampNeg) + v1) v1 v2 v3 v4 D X (kb := (L_X12_missesOf_5 v1 v2 D kx n_)) ih Y (lv_sub hl [0, 1, 2, 3, 4] rfl) h
set_option maxHeartbeats 4000000 in
set_option maxRecDepth 100000 in
theorem c_X12_missesOf {r9 : Int32} (v1 : Int32) (v2 : Int32) (h : f_X12_missesOf v1 v2 D = some r9) : Ct l dC dI ad bd cI cZ yX12_missesOf cX12_missesOf 6 (some .int) rm_X12_missesOf [.ref (bd 0), .int v1, .int v2] C D (some (.int r9)) C D := by
  unfold f_X12_missesOf at h
  refine Ct.intro (own := RX12) (by decide) rfl (Nat.le_of_ble_eq_true rfl) ?_
  intro p e s m args below meth c H locs ls X Y hl
  have hx := X.1
  have hb := X.2.1
  have hl : lv_has ls 6 [(0, .ref (bd 0)), (1, .int v1), (2, .int v2)] := hl
  refine lv_iconst (pc := 0) (v := 0) hx hb dX12_missesOf_0 (by decide) ?_
  refine lv_istore_n (pc := 1) (lv' := [(3, .int 0), (0, .ref (bd 0)), (1, .int v1), (2, .int v2)]) hx hb dX12_missesOf_1 rfl hl (by decide) rfl (fun ls hl => ?_)
  refine lv_iconst (pc := 2) (v := 0) hx hb dX12_missesOf_2 (by decide) ?_
  refine lv_istore (pc := 3) (lv' := [(4, .int 0), (3, .int 0), (0, .ref (bd 0)), (1, .int v1), (2, .int v2)]) hx hb dX12_missesOf_3 hl (by decide) rfl (fun ls hl => ?_)
  refine WL_X12_missesOf_5 v1 v2 D X (fun v3_98 H locs ls Y hl h => ?_) FU 0 0 H locs ls Y (lv_sub hl [2, 3, 4, 1, 0] rfl) h
  refine lv_iload_n (pc := 98) hx hb dX12_missesOf_98 rfl (lv_at hl 0 rfl) ?_
  have hr9 := ret_p h
  exact fin_i (pc := 99) X rfl Y hr9 rfl rfl dX12_missesOf_99
abbrev rm_X12_misses : Room := { frames := 2, cells := 0, slots := 0, locals := 45 }
set_option maxHeartbeats 4000000 in
set_option maxRecDepth 100000 in
theorem c_X12_misses {r9 : Int32} (v1 : Int32) (v2 : Int32) (h : f_X12_misses v1 v2 D = some r9) : Ct l dC dI ad bd cI cZ yX12_misses cX12_misses 3 (some .int) rm_X12_misses [.ref (bd 0), .int v1, .int v2] C D (some (.int r9)) C D := by
  unfold f_X12_misses at h
  refine Ct.intro (own := RX12) (by decide) rfl (Nat.le_of_ble_eq_true rfl) ?_
  intro p e s m args below meth c H locs ls X Y hl
  have hx := X.1
  have hb := X.2.1
  have hl : lv_has ls 3 [(0, .ref (bd 0)), (1, .int v1), (2, .int v2)] := hl
  refine lv_iload_n (pc := 0) hx hb dX12_misses_0 rfl (lv_at hl 1 rfl) ?_
  refine lv_iconst (pc := 1) (v := 0) hx hb dX12_misses_1 (by decide) ?_
  refine lv_iconst (pc := 2) (v := 4) hx hb dX12_misses_2 (by decide) ?_
  refine call_si (pc := 3) (rest := []) [.int v1, .int 0, .int 4] X Y (c_X12_in v1 0 4) sw_X12_107 rfl ⟨rfl, rfl, Nat.le_of_ble_eq_true rfl, Nat.le_of_ble_eq_true rfl⟩ hl rfl (Nat.le_of_ble_eq_true rfl) dX12_misses_3 (fun H locs Y => ?_)
  refine lv_if_eq (pc := 6) (tgt := 27) hx hb dX12_misses_6 (by decide) (fun c_6 => ?_) (fun c_6 => ?_)
  · have h := itn (b2i_f c_6) h
    refine lv_bipush (pc := 27) (v := (-2)) hx hb dX12_misses_27 (by decide) ?_
    have hr9 := ret_p h
    exact fin_i (pc := 29) X rfl Y hr9 rfl rfl dX12_misses_29
  · have h := itp (b2i_t c_6) h
    refine lv_iload_n (pc := 9) hx hb dX12_misses_9 rfl (lv_at hl 2 rfl) ?_
    refine lv_iconst (pc := 10) (v := 0) hx hb dX12_misses_10 (by decide) ?_
    refine lv_iconst (pc := 11) (v := 4) hx hb dX12_misses_11 (by decide) ?_
    refine call_si (pc := 12) (rest := []) [.int v2, .int 0, .int 4] X Y (c_X12_in v2 0 4) sw_X12_107 rfl ⟨rfl, rfl, Nat.le_of_ble_eq_true rfl, Nat.le_of_ble_eq_true rfl⟩ hl rfl (Nat.le_of_ble_eq_true rfl) dX12_misses_12 (fun H locs Y => ?_)
    refine lv_if_eq (pc := 15) (tgt := 27) hx hb dX12_misses_15 (by decide) (fun c_15 => ?_) (fun c_15 => ?_)
    · have h := itn (b2i_f c_15) h
      refine lv_bipush (pc := 27) (v := (-2)) hx hb dX12_misses_27 (by decide) ?_
      have hr9 := ret_p h
      exact fin_i (pc := 29) X rfl Y hr9 rfl rfl dX12_misses_29
    · have h := itp (b2i_t c_15) h
      refine lv_aload_n (pc := 18) hx hb dX12_misses_18 rfl (lv_at hl 0 rfl) ?_
      refine lv_iload_n (pc := 19) hx hb dX12_misses_19 rfl (lv_at hl 1 rfl) ?_
      refine lv_iload_n (pc := 20) hx hb dX12_misses_20 rfl (lv_at hl 2 rfl) ?_
      obtain ⟨r_21, e_21, h⟩ := bnd_s h
      refine call_vi (pc := 21) (rest := []) [.int v1, .int v2] X Y (c_X12_missesOf v1 v2 e_21) sw_X12_285 (rv_X12 X Y) rfl ⟨rfl, rfl, Nat.le_of_ble_eq_true rfl, Nat.le_of_ble_eq_true rfl⟩ hl rfl (Nat.le_of_ble_eq_true rfl) dX12_misses_21 (fun H locs Y => ?_)
      refine lv_goto (pc := 24) (tgt := 29) hx hb dX12_misses_24 (by decide) ?_
      have hr9 := ret_p h
      exact fin_i (pc := 29) X rfl Y hr9 rfl rfl dX12_misses_29
abbrev rm_X12_gotNow : Room := { frames := 0, cells := 0, slots := 0, locals := 0 }
set_option maxHeartbeats 4000000 in
set_option maxRecDepth 100000 in
theorem WB_X12_gotNow_36 {r9 : Int32} (x0 : Int32) (x1 : Int32) (v2 : Int32) (D : Mem) (X : Cx p s m args meth c cX12_gotNow RX12 3 (some .int) dC dI ad bd cI cZ) {kb : Int32 → Int32 → Option Int32} (hkb : ∀ (v1' : Int32) (v2' : Int32) (H : Heap) (locs : List Loc) (ls : Array Slot), Ys s dC dI ad bd cI cZ C D H locs → lv_has ls 3 [(0, .ref (bd 0)), (1, .int v1'), (2, .int v2')] → kb v1' v2' = some r9 → W p l e rm_X12_gotNow s m args below meth c H locs 0 0 (MQ below (QC (some (.int r9)) dC dI ad bd cI cZ C D) args s 0 0 (AD ad bd)) (F0 m 4 ls [])) {H : Heap} {locs : List Loc} {ls : Array Slot} (Y : Ys s dC dI ad bd cI cZ C D H locs) (hl : lv_has ls 3 [(0, .ref (bd 0)), (2, .int v2)]) (h : B_X12_gotNow_36 x0 x1 v2 kb = some r9) : W p l e rm_X12_gotNow s m args below meth c H locs 0 0 (MQ below (QC (some (.int r9)) dC dI ad bd cI cZ C D) args s 0 0 (AD ad bd)) (F0 m 36 ls [.int x1, .int x0]) := by
  have hx := X.1
  have hb := X.2.1
  unfold B_X12_gotNow_36 at h
  refine lv_iadd (pc := 36) hx hb dX12_gotNow_36 ?_
  obtain ⟨v1_37, ev1_37, h⟩ := lt_s_ h
  refine top_i ev1_37 ?_
  refine lv_istore_n (pc := 37) (lv' := [(1, .int v1_37), (0, .ref (bd 0)), (2, .int v2)]) hx hb dX12_gotNow_37 rfl hl (by decide) rfl (fun ls hl => ?_)
  obtain ⟨v2_38, ev2_38, h⟩ := lt_s_ h
  refine lv_iinc (pc := 38) (v := v2_38) (lv' := [(2, .int v2_38), (1, .int v1_37), (0, .ref (bd 0))]) hx hb dX12_gotNow_38 hl (k := 2) rfl (by rw [ev2_38]; rfl) (by decide) rfl (fun ls hl => ?_)
  refine lv_goto (pc := 41) (tgt := 4) hx hb dX12_gotNow_41 (by decide) ?_
  exact hkb v1_37 v2_38 H locs ls Y (lv_sub hl [2, 1, 0] rfl) h
set_option maxHeartbeats 4000000 in
set_option maxRecDepth 100000 in
theorem WL_X12_gotNow_4 {r9 : Int32} (D : Mem) (X : Cx p s m args meth c cX12_gotNow RX12 3 (some .int) dC dI ad bd cI cZ) {kx : Int32 → Option Int32} (hkx : ∀ (v1' : Int32) (H : Heap) (locs : List Loc) (ls : Array Slot), Ys s dC dI ad bd cI cZ C D H locs → lv_has ls 3 [(1, .int v1')] → kx v1' = some r9 → W p l e rm_X12_gotNow s m args below meth c H locs 0 0 (MQ below (QC (some (.int r9)) dC dI ad bd cI cZ C D) args s 0 0 (AD ad bd)) (F0 m 44 ls [])) : ∀ (n_ : Nat) (v1 : Int32) (v2 : Int32) (H : Heap) (locs : List Loc) (ls : Array Slot), Ys s dC dI ad bd cI cZ C D H locs → lv_has ls 3 [(0, .ref (bd 0)), (1, .int v1), (2, .int v2)] → L_X12_gotNow_4 D kx n_ v1 v2 = some r9 → W p l e rm_X12_gotNow s m args below meth c H locs 0 0 (MQ below (QC (some (.int r9)) dC dI ad bd cI cZ C D) args s 0 0 (AD ad bd)) (F0 m 4 ls []) := by
  have hx := X.1
  have hb := X.2.1
  intro n_
  induction n_ with
  | zero =>
    intro v1 v2 H locs ls Y hl h
    cases h
  | succ n_ ih =>
    intro v1 v2 H locs ls Y hl h
    unfold L_X12_gotNow_4 at h
    refine lv_iload_n (pc := 4) hx hb dX12_gotNow_4 rfl (lv_at hl 2 rfl) ?_
    refine lv_aload_n (pc := 5) hx hb dX12_gotNow_5 rfl (lv_at hl 0 rfl) ?_
    refine gf_X12_282 (pc := 6) X Y dX12_gotNow_6 ?_
    refine lv_icmp_ge (pc := 9) (tgt := 44) hx hb dX12_gotNow_9 (by decide) (fun c_9 => ?_) (fun c_9 => ?_)
    · have h := itp c_9 h
      exact hkx v1 H locs ls Y (lv_sub hl [1] rfl) h
    · have h := itn c_9 h
      refine lv_iload_n (pc := 12) hx hb dX12_gotNow_12 rfl (lv_at hl 1 rfl) ?_
      refine lv_aload_n (pc := 13) hx hb dX12_gotNow_13 rfl (lv_at hl 0 rfl) ?_
      refine gf_X12_86 (pc := 14) X Y dX12_gotNow_14 ?_
      refine lv_iload_n (pc := 17) hx hb dX12_gotNow_17 rfl (lv_at hl 2 rfl) ?_
      obtain ⟨g_18, h⟩ := gd_s h
      refine r_ialdm (pc := 18) X Y (cm_25 bd cI cZ) g_18 dX12_gotNow_18 ?_
      refine lv_iconst (pc := 19) (v := 1) hx hb dX12_gotNow_19 (by decide) ?_
      refine lv_icmp_ne (pc := 20) (tgt := 35) hx hb dX12_gotNow_20 (by decide) (fun c_20 => ?_) (fun c_20 => ?_)
      · have h := itn c_20 h
        refine lv_iconst (pc := 35) (v := 0) hx hb dX12_gotNow_35 (by decide) ?_
        exact WB_X12_gotNow_36 v1 0 v2 D X (kb := (L_X12_gotNow_4 D kx n_)) ih Y (lv_sub hl [0, 2] rfl) h
      · have h := itp c_20 h
        refine lv_bipush (pc := 23) (v := 10) hx hb dX12_gotNow_23 (by decide) ?_
        refine lv_aload_n (pc := 25) hx hb dX12_gotNow_25 rfl (lv_at hl 0 rfl) ?_
        refine gf_X12_83 (pc := 26) X Y dX12_gotNow_26 ?_
        refine lv_iload_n (pc := 29) hx hb dX12_gotNow_29 rfl (lv_at hl 2 rfl) ?_
        obtain ⟨g_30, h⟩ := gd_s h
        refine r_ialdm (pc := 30) X Y (cm_24 bd cI cZ) g_30 dX12_gotNow_30 ?_
        refine lv_isub (pc := 31) hx hb dX12_gotNow_31 ?_
        refine lv_goto (pc := 32) (tgt := 36) hx hb dX12_gotNow_32 (by decide) ?_
        exact WB_X12_gotNow_36 v1 (10 - (D 24 v2.toNatClampNeg)) v2 D X (kb := (L_X12_gotNow_4 D kx n_)) ih Y (lv_sub hl [0, 2] rfl) h
set_option maxHeartbeats 4000000 in
set_option maxRecDepth 100000 in
theorem c_X12_gotNow {r9 : Int32} (h : f_X12_gotNow D = some r9) : Ct l dC dI ad bd cI cZ yX12_gotNow cX12_gotNow 3 (some .int) rm_X12_gotNow [.ref (bd 0)] C D (some (.int r9)) C D := by
  unfold f_X12_gotNow at h
  refine Ct.intro (own := RX12) (by decide) rfl (Nat.le_of_ble_eq_true rfl) ?_
  intro p e s m args below meth c H locs ls X Y hl
  have hx := X.1
  have hb := X.2.1
  have hl : lv_has ls 3 [(0, .ref (bd 0))] := hl
  refine lv_iconst (pc := 0) (v := 0) hx hb dX12_gotNow_0 (by decide) ?_
  refine lv_istore_n (pc := 1) (lv' := [(1, .int 0), (0, .ref (bd 0))]) hx hb dX12_gotNow_1 rfl hl (by decide) rfl (fun ls hl => ?_)
  refine lv_iconst (pc := 2) (v := 0) hx hb dX12_gotNow_2 (by decide) ?_
  refine lv_istore_n (pc := 3) (lv' := [(2, .int 0), (1, .int 0), (0, .ref (bd 0))]) hx hb dX12_gotNow_3 rfl hl (by decide) rfl (fun ls hl => ?_)
  refine WL_X12_gotNow_4 D X (fun v1_44 H locs ls Y hl h => ?_) FU 0 0 H locs ls Y (lv_sub hl [2, 1, 0] rfl) h
  refine lv_iload_n (pc := 44) hx hb dX12_gotNow_44 rfl (lv_at hl 0 rfl) ?_
  have hr9 := ret_p h
  exact fin_i (pc := 45) X rfl Y hr9 rfl rfl dX12_gotNow_45
abbrev rm_X12_couldNow : Room := { frames := 0, cells := 0, slots := 0, locals := 0 }
set_option maxHeartbeats 4000000 in
set_option maxRecDepth 100000 in
theorem WB_X12_couldNow_55 {r9 : Int32} (x0 : Int32) (x1 : Int32) (v1 : Int32) (v2 : Int32) (v4 : Int32) (D : Mem) (X : Cx p s m args meth c cX12_couldNow RX12 5 (some .int) dC dI ad bd cI cZ) {kb : Int32 → Int32 → Option Int32} (hkb : ∀ (v3' : Int32) (v4' : Int32) (H : Heap) (locs : List Loc) (ls : Array Slot), Ys s dC dI ad bd cI cZ C D H locs → lv_has ls 5 [(0, .ref (bd 0)), (1, .int v1), (2, .int v2), (3, .int v3'), (4, .int v4')] → kb v3' v4' = some r9 → W p l e rm_X12_couldNow s m args below meth c H locs 0 0 (MQ below (QC (some (.int r9)) dC dI ad bd cI cZ C D) args s 0 0 (AD ad bd)) (F0 m 15 ls [])) {H : Heap} {locs : List Loc} {ls : Array Slot} (Y : Ys s dC dI ad bd cI cZ C D H locs) (hl : lv_has ls 5 [(0, .ref (bd 0)), (1, .int v1), (2, .int v2), (4, .int v4)]) (h : B_X12_couldNow_55 x0 x1 v4 kb = some r9) : W p l e rm_X12_couldNow s m args below meth c H locs 0 0 (MQ below (QC (some (.int r9)) dC dI ad bd cI cZ C D) args s 0 0 (AD ad bd)) (F0 m 55 ls [.int x1, .int x0]) := by
  have hx := X.1
  have hb := X.2.1
  unfold B_X12_couldNow_55 at h
  refine lv_iadd (pc := 55) hx hb dX12_couldNow_55 ?_
  obtain ⟨v3_56, ev3_56, h⟩ := lt_s_ h
  refine top_i ev3_56 ?_
  refine lv_istore_n (pc := 56) (lv' := [(3, .int v3_56), (0, .ref (bd 0)), (1, .int v1), (2, .int v2), (4, .int v4)]) hx hb dX12_couldNow_56 rfl hl (by decide) rfl (fun ls hl => ?_)
  obtain ⟨v4_57, ev4_57, h⟩ := lt_s_ h
  refine lv_iinc (pc := 57) (v := v4_57) (lv' := [(4, .int v4_57), (3, .int v3_56), (0, .ref (bd 0)), (1, .int v1), (2, .int v2)]) hx hb dX12_couldNow_57 hl (k := 4) rfl (by rw [ev4_57]; rfl) (by decide) rfl (fun ls hl => ?_)
  refine lv_goto (pc := 60) (tgt := 15) hx hb dX12_couldNow_60 (by decide) ?_
  exact hkb v3_56 v4_57 H locs ls Y (lv_sub hl [2, 3, 4, 1, 0] rfl) h
set_option maxHeartbeats 4000000 in
set_option maxRecDepth 100000 in
theorem WB_X12_couldNow_54 {r9 : Int32} (x0 : Int32) (v1 : Int32) (v2 : Int32) (v4 : Int32) (D : Mem) (X : Cx p s m args meth c cX12_couldNow RX12 5 (some .int) dC dI ad bd cI cZ) {kb : Int32 → Int32 → Option Int32} (hkb : ∀ (v3' : Int32) (v4' : Int32) (H : Heap) (locs : List Loc) (ls : Array Slot), Ys s dC dI ad bd cI cZ C D H locs → lv_has ls 5 [(0, .ref (bd 0)), (1, .int v1), (2, .int v2), (3, .int v3'), (4, .int v4')] → kb v3' v4' = some r9 → W p l e rm_X12_couldNow s m args below meth c H locs 0 0 (MQ below (QC (some (.int r9)) dC dI ad bd cI cZ C D) args s 0 0 (AD ad bd)) (F0 m 15 ls [])) {H : Heap} {locs : List Loc} {ls : Array Slot} (Y : Ys s dC dI ad bd cI cZ C D H locs) (hl : lv_has ls 5 [(0, .ref (bd 0)), (1, .int v1), (2, .int v2), (4, .int v4)]) (h : B_X12_couldNow_54 x0 v4 kb = some r9) : W p l e rm_X12_couldNow s m args below meth c H locs 0 0 (MQ below (QC (some (.int r9)) dC dI ad bd cI cZ C D) args s 0 0 (AD ad bd)) (F0 m 54 ls [.int x0]) := by
  have hx := X.1
  have hb := X.2.1
  unfold B_X12_couldNow_54 at h
  refine lv_iconst (pc := 54) (v := 0) hx hb dX12_couldNow_54 (by decide) ?_
  exact WB_X12_couldNow_55 x0 0 v1 v2 v4 D X (kb := kb) hkb Y (lv_sub hl [0, 1, 2, 3] rfl) h
set_option maxHeartbeats 4000000 in
set_option maxRecDepth 100000 in
theorem WL_X12_couldNow_15 {r9 : Int32} (v1 : Int32) (v2 : Int32) (D : Mem) (X : Cx p s m args meth c cX12_couldNow RX12 5 (some .int) dC dI ad bd cI cZ) {kx : Int32 → Option Int32} (hkx : ∀ (v3' : Int32) (H : Heap) (locs : List Loc) (ls : Array Slot), Ys s dC dI ad bd cI cZ C D H locs → lv_has ls 5 [(0, .ref (bd 0)), (1, .int v1), (2, .int v2), (3, .int v3')] → kx v3' = some r9 → W p l e rm_X12_couldNow s m args below meth c H locs 0 0 (MQ below (QC (some (.int r9)) dC dI ad bd cI cZ C D) args s 0 0 (AD ad bd)) (F0 m 63 ls [])) : ∀ (n_ : Nat) (v3 : Int32) (v4 : Int32) (H : Heap) (locs : List Loc) (ls : Array Slot), Ys s dC dI ad bd cI cZ C D H locs → lv_has ls 5 [(0, .ref (bd 0)), (1, .int v1), (2, .int v2), (3, .int v3), (4, .int v4)] → L_X12_couldNow_15 v2 D kx n_ v3 v4 = some r9 → W p l e rm_X12_couldNow s m args below meth c H locs 0 0 (MQ below (QC (some (.int r9)) dC dI ad bd cI cZ C D) args s 0 0 (AD ad bd)) (F0 m 15 ls []) := by
  have hx := X.1
  have hb := X.2.1
  intro n_
  induction n_ with
  | zero =>
    intro v3 v4 H locs ls Y hl h
    cases h
  | succ n_ ih =>
    intro v3 v4 H locs ls Y hl h
    unfold L_X12_couldNow_15 at h
    refine lv_iload (pc := 15) hx hb dX12_couldNow_15 (lv_at hl 4 rfl) ?_
    refine lv_aload_n (pc := 17) hx hb dX12_couldNow_17 rfl (lv_at hl 0 rfl) ?_
    refine gf_X12_282 (pc := 18) X Y dX12_couldNow_18 ?_
    refine lv_icmp_ge (pc := 21) (tgt := 63) hx hb dX12_couldNow_21 (by decide) (fun c_21 => ?_) (fun c_21 => ?_)
    · have h := itp c_21 h
      exact hkx v3 H locs ls Y (lv_sub hl [0, 1, 2, 3] rfl) h
    · have h := itn c_21 h
      refine lv_iload_n (pc := 24) hx hb dX12_couldNow_24 rfl (lv_at hl 3 rfl) ?_
      refine lv_aload_n (pc := 25) hx hb dX12_couldNow_25 rfl (lv_at hl 0 rfl) ?_
      refine gf_X12_86 (pc := 26) X Y dX12_couldNow_26 ?_
      refine lv_iload (pc := 29) hx hb dX12_couldNow_29 (lv_at hl 4 rfl) ?_
      obtain ⟨g_31, h⟩ := gd_s h
      refine r_ialdm (pc := 31) X Y (cm_25 bd cI cZ) g_31 dX12_couldNow_31 ?_
      refine lv_iconst (pc := 32) (v := 1) hx hb dX12_couldNow_32 (by decide) ?_
      refine lv_icmp_ne (pc := 33) (tgt := 54) hx hb dX12_couldNow_33 (by decide) (fun c_33 => ?_) (fun c_33 => ?_)
      · have h := itn c_33 h
        exact WB_X12_couldNow_54 v3 v1 v2 v4 D X (kb := (L_X12_couldNow_15 v2 D kx n_)) ih Y (lv_sub hl [0, 1, 2, 4] rfl) h
      · have h := itp c_33 h
        refine lv_aload_n (pc := 36) hx hb dX12_couldNow_36 rfl (lv_at hl 0 rfl) ?_
        refine gf_X12_83 (pc := 37) X Y dX12_couldNow_37 ?_
        refine lv_iload (pc := 40) hx hb dX12_couldNow_40 (lv_at hl 4 rfl) ?_
        obtain ⟨g_42, h⟩ := gd_s h
        refine r_ialdm (pc := 42) X Y (cm_24 bd cI cZ) g_42 dX12_couldNow_42 ?_
        refine lv_iload_n (pc := 43) hx hb dX12_couldNow_43 rfl (lv_at hl 2 rfl) ?_
        refine lv_icmp_gt (pc := 44) (tgt := 54) hx hb dX12_couldNow_44 (by decide) (fun c_44 => ?_) (fun c_44 => ?_)
        · have h := itp c_44 h
          exact WB_X12_couldNow_54 v3 v1 v2 v4 D X (kb := (L_X12_couldNow_15 v2 D kx n_)) ih Y (lv_sub hl [0, 1, 2, 4] rfl) h
        · have h := itn c_44 h
          refine lv_bipush (pc := 47) (v := 10) hx hb dX12_couldNow_47 (by decide) ?_
          refine lv_iload_n (pc := 49) hx hb dX12_couldNow_49 rfl (lv_at hl 2 rfl) ?_
          refine lv_isub (pc := 50) hx hb dX12_couldNow_50 ?_
          refine lv_goto (pc := 51) (tgt := 55) hx hb dX12_couldNow_51 (by decide) ?_
          exact WB_X12_couldNow_55 v3 (10 - v2) v1 v2 v4 D X (kb := (L_X12_couldNow_15 v2 D kx n_)) ih Y (lv_sub hl [0, 1, 2, 4] rfl) h
set_option maxHeartbeats 4000000 in
set_option maxRecDepth 100000 in
theorem WB_X12_couldNow_73 {r9 : Int32} (x0 : Int32) (v2 : Int32) (D : Mem) (X : Cx p s m args meth c cX12_couldNow RX12 5 (some .int) dC dI ad bd cI cZ) {kb : Int32 → Int32 → Option Int32} (hkb : ∀ (v1' : Int32) (v2' : Int32) (H : Heap) (locs : List Loc) (ls : Array Slot), Ys s dC dI ad bd cI cZ C D H locs → lv_has ls 5 [(0, .ref (bd 0)), (1, .int v1'), (2, .int v2')] → kb v1' v2' = some r9 → W p l e rm_X12_couldNow s m args below meth c H locs 0 0 (MQ below (QC (some (.int r9)) dC dI ad bd cI cZ C D) args s 0 0 (AD ad bd)) (F0 m 4 ls [])) {H : Heap} {locs : List Loc} {ls : Array Slot} (Y : Ys s dC dI ad bd cI cZ C D H locs) (hl : lv_has ls 5 [(0, .ref (bd 0)), (2, .int v2)]) (h : B_X12_couldNow_73 x0 v2 kb = some r9) : W p l e rm_X12_couldNow s m args below meth c H locs 0 0 (MQ below (QC (some (.int r9)) dC dI ad bd cI cZ C D) args s 0 0 (AD ad bd)) (F0 m 73 ls [.int x0]) := by
  have hx := X.1
  have hb := X.2.1
  unfold B_X12_couldNow_73 at h
  refine lv_istore_n (pc := 73) (lv' := [(1, .int x0), (0, .ref (bd 0)), (2, .int v2)]) hx hb dX12_couldNow_73 rfl hl (by decide) rfl (fun ls hl => ?_)
  obtain ⟨v2_74, ev2_74, h⟩ := lt_s_ h
  refine lv_iinc (pc := 74) (v := v2_74) (lv' := [(2, .int v2_74), (1, .int x0), (0, .ref (bd 0))]) hx hb dX12_couldNow_74 hl (k := 2) rfl (by rw [ev2_74]; rfl) (by decide) rfl (fun ls hl => ?_)
  refine lv_goto (pc := 77) (tgt := 4) hx hb dX12_couldNow_77 (by decide) ?_
  exact hkb x0 v2_74 H locs ls Y (lv_sub hl [2, 1, 0] rfl) h
set_option maxHeartbeats 4000000 in
set_option maxRecDepth 100000 in
theorem WL_X12_couldNow_4 {r9 : Int32} (D : Mem) (X : Cx p s m args meth c cX12_couldNow RX12 5 (some .int) dC dI ad bd cI cZ) {kx : Int32 → Option Int32} (hkx : ∀ (v1' : Int32) (H : Heap) (locs : List Loc) (ls : Array Slot), Ys s dC dI ad bd cI cZ C D H locs → lv_has ls 5 [(1, .int v1')] → kx v1' = some r9 → W p l e rm_X12_couldNow s m args below meth c H locs 0 0 (MQ below (QC (some (.int r9)) dC dI ad bd cI cZ C D) args s 0 0 (AD ad bd)) (F0 m 80 ls [])) : ∀ (n_ : Nat) (v1 : Int32) (v2 : Int32) (H : Heap) (locs : List Loc) (ls : Array Slot), Ys s dC dI ad bd cI cZ C D H locs → lv_has ls 5 [(0, .ref (bd 0)), (1, .int v1), (2, .int v2)] → L_X12_couldNow_4 D kx n_ v1 v2 = some r9 → W p l e rm_X12_couldNow s m args below meth c H locs 0 0 (MQ below (QC (some (.int r9)) dC dI ad bd cI cZ C D) args s 0 0 (AD ad bd)) (F0 m 4 ls []) := by
  have hx := X.1
  have hb := X.2.1
  intro n_
  induction n_ with
  | zero =>
    intro v1 v2 H locs ls Y hl h
    cases h
  | succ n_ ih =>
    intro v1 v2 H locs ls Y hl h
    unfold L_X12_couldNow_4 at h
    refine lv_iload_n (pc := 4) hx hb dX12_couldNow_4 rfl (lv_at hl 2 rfl) ?_
    refine lv_bipush (pc := 5) (v := 11) hx hb dX12_couldNow_5 (by decide) ?_
    refine lv_icmp_ge (pc := 7) (tgt := 80) hx hb dX12_couldNow_7 (by decide) (fun c_7 => ?_) (fun c_7 => ?_)
    · have h := itp c_7 h
      exact hkx v1 H locs ls Y (lv_sub hl [1] rfl) h
    · have h := itn c_7 h
      refine lv_iconst (pc := 10) (v := 0) hx hb dX12_couldNow_10 (by decide) ?_
      refine lv_istore_n (pc := 11) (lv' := [(3, .int 0), (0, .ref (bd 0)), (1, .int v1), (2, .int v2)]) hx hb dX12_couldNow_11 rfl hl (by decide) rfl (fun ls hl => ?_)
      refine lv_iconst (pc := 12) (v := 0) hx hb dX12_couldNow_12 (by decide) ?_
      refine lv_istore (pc := 13) (lv' := [(4, .int 0), (3, .int 0), (0, .ref (bd 0)), (1, .int v1), (2, .int v2)]) hx hb dX12_couldNow_13 hl (by decide) rfl (fun ls hl => ?_)
      refine WL_X12_couldNow_15 v1 v2 D X (fun v3_63 H locs ls Y hl h => ?_) FU 0 0 H locs ls Y (lv_sub hl [2, 3, 4, 1, 0] rfl) h
      refine lv_iload_n (pc := 63) hx hb dX12_couldNow_63 rfl (lv_at hl 3 rfl) ?_
      refine lv_iload_n (pc := 64) hx hb dX12_couldNow_64 rfl (lv_at hl 1 rfl) ?_
      refine lv_icmp_le (pc := 65) (tgt := 72) hx hb dX12_couldNow_65 (by decide) (fun c_65 => ?_) (fun c_65 => ?_)
      · have h := itp c_65 h
        refine lv_iload_n (pc := 72) hx hb dX12_couldNow_72 rfl (lv_at hl 1 rfl) ?_
        exact WB_X12_couldNow_73 v1 v2 D X (kb := (L_X12_couldNow_4 D kx n_)) ih Y (lv_sub hl [0, 2] rfl) h
      · have h := itn c_65 h
        refine lv_iload_n (pc := 68) hx hb dX12_couldNow_68 rfl (lv_at hl 3 rfl) ?_
        refine lv_goto (pc := 69) (tgt := 73) hx hb dX12_couldNow_69 (by decide) ?_
        exact WB_X12_couldNow_73 v3_63 v2 D X (kb := (L_X12_couldNow_4 D kx n_)) ih Y (lv_sub hl [0, 2] rfl) h
set_option maxHeartbeats 4000000 in
set_option maxRecDepth 100000 in
theorem c_X12_couldNow {r9 : Int32} (h : f_X12_couldNow D = some r9) : Ct l dC dI ad bd cI cZ yX12_couldNow cX12_couldNow 5 (some .int) rm_X12_couldNow [.ref (bd 0)] C D (some (.int r9)) C D := by
  unfold f_X12_couldNow at h
  refine Ct.intro (own := RX12) (by decide) rfl (Nat.le_of_ble_eq_true rfl) ?_
  intro p e s m args below meth c H locs ls X Y hl
  have hx := X.1
  have hb := X.2.1
  have hl : lv_has ls 5 [(0, .ref (bd 0))] := hl
  refine lv_iconst (pc := 0) (v := 0) hx hb dX12_couldNow_0 (by decide) ?_
  refine lv_istore_n (pc := 1) (lv' := [(1, .int 0), (0, .ref (bd 0))]) hx hb dX12_couldNow_1 rfl hl (by decide) rfl (fun ls hl => ?_)
  refine lv_iconst (pc := 2) (v := 0) hx hb dX12_couldNow_2 (by decide) ?_
  refine lv_istore_n (pc := 3) (lv' := [(2, .int 0), (1, .int 0), (0, .ref (bd 0))]) hx hb dX12_couldNow_3 rfl hl (by decide) rfl (fun ls hl => ?_)
  refine WL_X12_couldNow_4 D X (fun v1_80 H locs ls Y hl h => ?_) FU 0 0 H locs ls Y (lv_sub hl [2, 1, 0] rfl) h
  refine lv_iload_n (pc := 80) hx hb dX12_couldNow_80 rfl (lv_at hl 0 rfl) ?_
  have hr9 := ret_p h
  exact fin_i (pc := 81) X rfl Y hr9 rfl rfl dX12_couldNow_81
abbrev rm_X12_learntNow : Room := { frames := 2, cells := 0, slots := 0, locals := 45 }
set_option maxHeartbeats 4000000 in
set_option maxRecDepth 100000 in
theorem WB_X12_learntNow_91 {r9 : Int32} (x0 : Int32) (v1 : Int32) (v2 : Int32) (v4 : Int32) (D : Mem) (X : Cx p s m args meth c cX12_learntNow RX12 6 (some .int) dC dI ad bd cI cZ) {kb : Int32 → Int32 → Int32 → Option Int32} (hkb : ∀ (v2' : Int32) (v3' : Int32) (v4' : Int32) (H : Heap) (locs : List Loc) (ls : Array Slot), Ys s dC dI ad bd cI cZ C D H locs → lv_has ls 6 [(0, .ref (bd 0)), (1, .int v1), (2, .int v2'), (3, .int v3'), (4, .int v4')] → kb v2' v3' v4' = some r9 → W p l e rm_X12_learntNow s m args below meth c H locs 0 0 (MQ below (QC (some (.int r9)) dC dI ad bd cI cZ C D) args s 0 0 (AD ad bd)) (F0 m 45 ls [])) {H : Heap} {locs : List Loc} {ls : Array Slot} (Y : Ys s dC dI ad bd cI cZ C D H locs) (hl : lv_has ls 6 [(0, .ref (bd 0)), (1, .int v1), (2, .int v2), (4, .int v4)]) (h : B_X12_learntNow_91 x0 v2 v4 kb = some r9) : W p l e rm_X12_learntNow s m args below meth c H locs 0 0 (MQ below (QC (some (.int r9)) dC dI ad bd cI cZ C D) args s 0 0 (AD ad bd)) (F0 m 91 ls [.int x0]) := by
  have hx := X.1
  have hb := X.2.1
  unfold B_X12_learntNow_91 at h
  refine lv_istore_n (pc := 91) (lv' := [(3, .int x0), (0, .ref (bd 0)), (1, .int v1), (2, .int v2), (4, .int v4)]) hx hb dX12_learntNow_91 rfl hl (by decide) rfl (fun ls hl => ?_)
  obtain ⟨v4_92, ev4_92, h⟩ := lt_s_ h
  refine lv_iinc (pc := 92) (v := v4_92) (lv' := [(4, .int v4_92), (3, .int x0), (0, .ref (bd 0)), (1, .int v1), (2, .int v2)]) hx hb dX12_learntNow_92 hl (k := 4) rfl (by rw [ev4_92]; rfl) (by decide) rfl (fun ls hl => ?_)
  refine lv_goto (pc := 95) (tgt := 45) hx hb dX12_learntNow_95 (by decide) ?_
  exact hkb v2 x0 v4_92 H locs ls Y (lv_sub hl [2, 3, 4, 1, 0] rfl) h
set_option maxHeartbeats 4000000 in
set_option maxRecDepth 100000 in
theorem WB_X12_learntNow_78 {r9 : Int32} (x0 : Int32) (v1 : Int32) (v3 : Int32) (v4 : Int32) (v5 : Int32) (D : Mem) (X : Cx p s m args meth c cX12_learntNow RX12 6 (some .int) dC dI ad bd cI cZ) {kb : Int32 → Int32 → Int32 → Option Int32} (hkb : ∀ (v2' : Int32) (v3' : Int32) (v4' : Int32) (H : Heap) (locs : List Loc) (ls : Array Slot), Ys s dC dI ad bd cI cZ C D H locs → lv_has ls 6 [(0, .ref (bd 0)), (1, .int v1), (2, .int v2'), (3, .int v3'), (4, .int v4')] → kb v2' v3' v4' = some r9 → W p l e rm_X12_learntNow s m args below meth c H locs 0 0 (MQ below (QC (some (.int r9)) dC dI ad bd cI cZ C D) args s 0 0 (AD ad bd)) (F0 m 45 ls [])) {H : Heap} {locs : List Loc} {ls : Array Slot} (Y : Ys s dC dI ad bd cI cZ C D H locs) (hl : lv_has ls 6 [(0, .ref (bd 0)), (1, .int v1), (3, .int v3), (4, .int v4), (5, .int v5)]) (h : B_X12_learntNow_78 x0 v3 v4 v5 kb = some r9) : W p l e rm_X12_learntNow s m args below meth c H locs 0 0 (MQ below (QC (some (.int r9)) dC dI ad bd cI cZ C D) args s 0 0 (AD ad bd)) (F0 m 78 ls [.int x0]) := by
  have hx := X.1
  have hb := X.2.1
  unfold B_X12_learntNow_78 at h
  refine lv_istore_n (pc := 78) (lv' := [(2, .int x0), (0, .ref (bd 0)), (1, .int v1), (3, .int v3), (4, .int v4), (5, .int v5)]) hx hb dX12_learntNow_78 rfl hl (by decide) rfl (fun ls hl => ?_)
  refine lv_iload (pc := 79) hx hb dX12_learntNow_79 (lv_at hl 5 rfl) ?_
  refine lv_iload_n (pc := 81) hx hb dX12_learntNow_81 rfl (lv_at hl 3 rfl) ?_
  refine lv_icmp_ge (pc := 82) (tgt := 90) hx hb dX12_learntNow_82 (by decide) (fun c_82 => ?_) (fun c_82 => ?_)
  · have h := itp c_82 h
    refine lv_iload_n (pc := 90) hx hb dX12_learntNow_90 rfl (lv_at hl 3 rfl) ?_
    exact WB_X12_learntNow_91 v3 v1 x0 v4 D X (kb := kb) hkb Y (lv_sub hl [1, 2, 0, 4] rfl) h
  · have h := itn c_82 h
    refine lv_iload (pc := 85) hx hb dX12_learntNow_85 (lv_at hl 5 rfl) ?_
    refine lv_goto (pc := 87) (tgt := 91) hx hb dX12_learntNow_87 (by decide) ?_
    exact WB_X12_learntNow_91 v5 v1 x0 v4 D X (kb := kb) hkb Y (lv_sub hl [1, 2, 0, 4] rfl) h
set_option maxHeartbeats 4000000 in
set_option maxRecDepth 100000 in
theorem WL_X12_learntNow_45 {r9 : Int32} (v1 : Int32) (D : Mem) (X : Cx p s m args meth c cX12_learntNow RX12 6 (some .int) dC dI ad bd cI cZ) {kx : Int32 → Int32 → Option Int32} (hkx : ∀ (v2' : Int32) (v3' : Int32) (H : Heap) (locs : List Loc) (ls : Array Slot), Ys s dC dI ad bd cI cZ C D H locs → lv_has ls 6 [(1, .int v1), (2, .int v2'), (3, .int v3')] → kx v2' v3' = some r9 → W p l e rm_X12_learntNow s m args below meth c H locs 0 0 (MQ below (QC (some (.int r9)) dC dI ad bd cI cZ C D) args s 0 0 (AD ad bd)) (F0 m 98 ls [])) : ∀ (n_ : Nat) (v2 : Int32) (v3 : Int32) (v4 : Int32) (H : Heap) (locs : List Loc) (ls : Array Slot), Ys s dC dI ad bd cI cZ C D H locs → lv_has ls 6 [(0, .ref (bd 0)), (1, .int v1), (2, .int v2), (3, .int v3), (4, .int v4)] → L_X12_learntNow_45 D kx n_ v2 v3 v4 = some r9 → W p l e rm_X12_learntNow s m args below meth c H locs 0 0 (MQ below (QC (some (.int r9)) dC dI ad bd cI cZ C D) args s 0 0 (AD ad bd)) (F0 m 45 ls []) := by
  have hx := X.1
  have hb := X.2.1
  intro n_
  induction n_ with
  | zero =>
    intro v2 v3 v4 H locs ls Y hl h
    cases h
  | succ n_ ih =>
    intro v2 v3 v4 H locs ls Y hl h
    unfold L_X12_learntNow_45 at h
    refine lv_iload (pc := 45) hx hb dX12_learntNow_45 (lv_at hl 4 rfl) ?_
    refine lv_bipush (pc := 47) (v := 25) hx hb dX12_learntNow_47 (by decide) ?_
    refine lv_icmp_ge (pc := 49) (tgt := 98) hx hb dX12_learntNow_49 (by decide) (fun c_49 => ?_) (fun c_49 => ?_)
    · have h := itp c_49 h
      exact hkx v2 v3 H locs ls Y (lv_sub hl [1, 2, 3] rfl) h
    · have h := itn c_49 h
      refine lv_aload_n (pc := 52) hx hb dX12_learntNow_52 rfl (lv_at hl 0 rfl) ?_
      refine lv_iload (pc := 53) hx hb dX12_learntNow_53 (lv_at hl 4 rfl) ?_
      refine lv_iconst (pc := 55) (v := 5) hx hb dX12_learntNow_55 (by decide) ?_
      refine lv_idiv (pc := 56) hx hb dX12_learntNow_56 (by decide) ?_
      refine lv_iload (pc := 57) hx hb dX12_learntNow_57 (lv_at hl 4 rfl) ?_
      refine lv_iconst (pc := 59) (v := 5) hx hb dX12_learntNow_59 (by decide) ?_
      refine lv_irem (pc := 60) hx hb dX12_learntNow_60 (by decide) ?_
      obtain ⟨r_61, e_61, h⟩ := bnd_s h
      refine call_vi (pc := 61) (rest := []) [.int (v4 / 5), .int (v4 - v4 / 5 * 5)] X Y (c_X12_missesOf (v4 / 5) (v4 - v4 / 5 * 5) e_61) sw_X12_285 (rv_X12 X Y) rfl ⟨rfl, rfl, Nat.le_of_ble_eq_true rfl, Nat.le_of_ble_eq_true rfl⟩ hl rfl (Nat.le_of_ble_eq_true rfl) dX12_learntNow_61 (fun H locs Y => ?_)
      refine lv_istore (pc := 64) (lv' := [(5, .int r_61), (0, .ref (bd 0)), (1, .int v1), (2, .int v2), (3, .int v3), (4, .int v4)]) hx hb dX12_learntNow_64 hl (by decide) rfl (fun ls hl => ?_)
      refine lv_iload (pc := 66) hx hb dX12_learntNow_66 (lv_at hl 0 rfl) ?_
      refine lv_iload_n (pc := 68) hx hb dX12_learntNow_68 rfl (lv_at hl 4 rfl) ?_
      refine lv_icmp_ge (pc := 69) (tgt := 77) hx hb dX12_learntNow_69 (by decide) (fun c_69 => ?_) (fun c_69 => ?_)
      · have h := itp c_69 h
        refine lv_iload_n (pc := 77) hx hb dX12_learntNow_77 rfl (lv_at hl 3 rfl) ?_
        exact WB_X12_learntNow_78 v2 v1 v3 v4 r_61 D X (kb := (L_X12_learntNow_45 D kx n_)) ih Y (lv_sub hl [1, 2, 4, 5, 0] rfl) h
      · have h := itn c_69 h
        refine lv_iload (pc := 72) hx hb dX12_learntNow_72 (lv_at hl 5 rfl) ?_
        refine lv_goto (pc := 74) (tgt := 78) hx hb dX12_learntNow_74 (by decide) ?_
        exact WB_X12_learntNow_78 v4 v1 v3 v4 r_61 D X (kb := (L_X12_learntNow_45 D kx n_)) ih Y (lv_sub hl [1, 2, 4, 5, 0] rfl) h
set_option maxHeartbeats 4000000 in
set_option maxRecDepth 100000 in
theorem c_X12_learntNow {r9 : Int32} (v1 : Int32) (h : f_X12_learntNow v1 D = some r9) : Ct l dC dI ad bd cI cZ yX12_learntNow cX12_learntNow 6 (some .int) rm_X12_learntNow [.ref (bd 0), .int v1] C D (some (.int r9)) C D := by
  unfold f_X12_learntNow at h
  refine Ct.intro (own := RX12) (by decide) rfl (Nat.le_of_ble_eq_true rfl) ?_
  intro p e s m args below meth c H locs ls X Y hl
  have hx := X.1
  have hb := X.2.1
  have hl : lv_has ls 6 [(0, .ref (bd 0)), (1, .int v1)] := hl
  refine lv_iload_n (pc := 0) hx hb dX12_learntNow_0 rfl (lv_at hl 1 rfl) ?_
  refine lv_iconst (pc := 1) (v := 2) hx hb dX12_learntNow_1 (by decide) ?_
  refine lv_icmp_le (pc := 2) (tgt := 22) hx hb dX12_learntNow_2 (by decide) (fun c_2 => ?_) (fun c_2 => ?_)
  · have h := itp c_2 h
    refine lv_aload_n (pc := 22) hx hb dX12_learntNow_22 rfl (lv_at hl 0 rfl) ?_
    refine gf_X12_282 (pc := 23) X Y dX12_learntNow_23 ?_
    refine lv_iconst (pc := 26) (v := 2) hx hb dX12_learntNow_26 (by decide) ?_
    refine lv_icmp_ge (pc := 27) (tgt := 33) hx hb dX12_learntNow_27 (by decide) (fun c_27 => ?_) (fun c_27 => ?_)
    · have h := itp c_27 h
      refine lv_iconst (pc := 33) (v := 0) hx hb dX12_learntNow_33 (by decide) ?_
      refine lv_istore_n (pc := 34) (lv' := [(2, .int 0), (0, .ref (bd 0)), (1, .int v1)]) hx hb dX12_learntNow_34 rfl hl (by decide) rfl (fun ls hl => ?_)
      refine lv_aload_n (pc := 35) hx hb dX12_learntNow_35 rfl (lv_at hl 1 rfl) ?_
      refine lv_iconst (pc := 36) (v := 0) hx hb dX12_learntNow_36 (by decide) ?_
      refine lv_iconst (pc := 37) (v := 0) hx hb dX12_learntNow_37 (by decide) ?_
      obtain ⟨r_38, e_38, h⟩ := bnd_s h
      refine call_vi (pc := 38) (rest := []) [.int 0, .int 0] X Y (c_X12_missesOf 0 0 e_38) sw_X12_285 (rv_X12 X Y) rfl ⟨rfl, rfl, Nat.le_of_ble_eq_true rfl, Nat.le_of_ble_eq_true rfl⟩ hl rfl (Nat.le_of_ble_eq_true rfl) dX12_learntNow_38 (fun H locs Y => ?_)
      refine lv_istore_n (pc := 41) (lv' := [(3, .int r_38), (2, .int 0), (0, .ref (bd 0)), (1, .int v1)]) hx hb dX12_learntNow_41 rfl hl (by decide) rfl (fun ls hl => ?_)
      refine lv_iconst (pc := 42) (v := 1) hx hb dX12_learntNow_42 (by decide) ?_
      refine lv_istore (pc := 43) (lv' := [(4, .int 1), (3, .int r_38), (2, .int 0), (0, .ref (bd 0)), (1, .int v1)]) hx hb dX12_learntNow_43 hl (by decide) rfl (fun ls hl => ?_)
      refine WL_X12_learntNow_45 v1 D X (fun v2_98 v3_98 H locs ls Y hl h => ?_) FU 0 r_38 1 H locs ls Y (lv_sub hl [3, 4, 2, 1, 0] rfl) h
      refine lv_iload_n (pc := 98) hx hb dX12_learntNow_98 rfl (lv_at hl 0 rfl) ?_
      refine lv_if_ne (pc := 99) (tgt := 108) hx hb dX12_learntNow_99 (by decide) (fun c_99 => ?_) (fun c_99 => ?_)
      · have h := itn c_99 h
        refine lv_iload_n (pc := 108) hx hb dX12_learntNow_108 rfl (lv_at hl 0 rfl) ?_
        refine lv_iconst (pc := 109) (v := 1) hx hb dX12_learntNow_109 (by decide) ?_
        refine lv_icmp_ne (pc := 110) (tgt := 119) hx hb dX12_learntNow_110 (by decide) (fun c_110 => ?_) (fun c_110 => ?_)
        · have h := itn c_110 h
          refine lv_iload_n (pc := 119) hx hb dX12_learntNow_119 rfl (lv_at hl 2 rfl) ?_
          have hr9 := ret_p h
          exact fin_i (pc := 120) X rfl Y hr9 rfl rfl dX12_learntNow_120
        · have h := itp c_110 h
          refine lv_iload_n (pc := 113) hx hb dX12_learntNow_113 rfl (lv_at hl 1 rfl) ?_
          refine lv_iconst (pc := 114) (v := 5) hx hb dX12_learntNow_114 (by decide) ?_
          refine lv_irem (pc := 115) hx hb dX12_learntNow_115 (by decide) ?_
          refine lv_goto (pc := 116) (tgt := 120) hx hb dX12_learntNow_116 (by decide) ?_
          have hr9 := ret_p h
          exact fin_i (pc := 120) X rfl Y hr9 rfl rfl dX12_learntNow_120
      · have h := itp c_99 h
        refine lv_iload_n (pc := 102) hx hb dX12_learntNow_102 rfl (lv_at hl 1 rfl) ?_
        refine lv_iconst (pc := 103) (v := 5) hx hb dX12_learntNow_103 (by decide) ?_
        refine lv_idiv (pc := 104) hx hb dX12_learntNow_104 (by decide) ?_
        refine lv_goto (pc := 105) (tgt := 120) hx hb dX12_learntNow_105 (by decide) ?_
        have hr9 := ret_p h
        exact fin_i (pc := 120) X rfl Y hr9 rfl rfl dX12_learntNow_120
    · have h := itn c_27 h
      refine lv_bipush (pc := 30) (v := (-3)) hx hb dX12_learntNow_30 (by decide) ?_
      have hr9 := ret_p h
      exact fin_i (pc := 32) X rfl Y hr9 rfl rfl dX12_learntNow_32
  · have h := itn c_2 h
    refine lv_iload_n (pc := 5) hx hb dX12_learntNow_5 rfl (lv_at hl 1 rfl) ?_
    refine lv_iconst (pc := 6) (v := 3) hx hb dX12_learntNow_6 (by decide) ?_
    refine lv_icmp_ne (pc := 7) (tgt := 17) hx hb dX12_learntNow_7 (by decide) (fun c_7 => ?_) (fun c_7 => ?_)
    · have h := itn c_7 h
      refine lv_aload_n (pc := 17) hx hb dX12_learntNow_17 rfl (lv_at hl 0 rfl) ?_
      obtain ⟨r_18, e_18, h⟩ := bnd_s h
      refine call_vi (pc := 18) (rest := []) [] X Y (c_X12_couldNow  e_18) sw_X12_291 (rv_X12 X Y) rfl ⟨rfl, rfl, Nat.le_of_ble_eq_true rfl, Nat.le_of_ble_eq_true rfl⟩ hl rfl (Nat.le_of_ble_eq_true rfl) dX12_learntNow_18 (fun H locs Y => ?_)
      have hr9 := ret_p h
      exact fin_i (pc := 21) X rfl Y hr9 rfl rfl dX12_learntNow_21
    · have h := itp c_7 h
      refine lv_aload_n (pc := 10) hx hb dX12_learntNow_10 rfl (lv_at hl 0 rfl) ?_
      obtain ⟨r_11, e_11, h⟩ := bnd_s h
      refine call_vi (pc := 11) (rest := []) [] X Y (c_X12_gotNow  e_11) sw_X12_288 (rv_X12 X Y) rfl ⟨rfl, rfl, Nat.le_of_ble_eq_true rfl, Nat.le_of_ble_eq_true rfl⟩ hl rfl (Nat.le_of_ble_eq_true rfl) dX12_learntNow_11 (fun H locs Y => ?_)
      refine lv_goto (pc := 14) (tgt := 21) hx hb dX12_learntNow_14 (by decide) ?_
      have hr9 := ret_p h
      exact fin_i (pc := 21) X rfl Y hr9 rfl rfl dX12_learntNow_21
abbrev rm_X12_learnt : Room := { frames := 3, cells := 0, slots := 0, locals := 70 }
set_option maxHeartbeats 4000000 in
set_option maxRecDepth 100000 in
theorem c_X12_learnt {r9 : Int32} (v1 : Int32) (h : f_X12_learnt v1 D = some r9) : Ct l dC dI ad bd cI cZ yX12_learnt cX12_learnt 2 (some .int) rm_X12_learnt [.ref (bd 0), .int v1] C D (some (.int r9)) C D := by
  unfold f_X12_learnt at h
  refine Ct.intro (own := RX12) (by decide) rfl (Nat.le_of_ble_eq_true rfl) ?_
  intro p e s m args below meth c H locs ls X Y hl
  have hx := X.1
  have hb := X.2.1
  have hl : lv_has ls 2 [(0, .ref (bd 0)), (1, .int v1)] := hl
  refine lv_iload_n (pc := 0) hx hb dX12_learnt_0 rfl (lv_at hl 1 rfl) ?_
  refine lv_iconst (pc := 1) (v := 0) hx hb dX12_learnt_1 (by decide) ?_
  refine lv_iconst (pc := 2) (v := 4) hx hb dX12_learnt_2 (by decide) ?_
  refine call_si (pc := 3) (rest := []) [.int v1, .int 0, .int 4] X Y (c_X12_in v1 0 4) sw_X12_107 rfl ⟨rfl, rfl, Nat.le_of_ble_eq_true rfl, Nat.le_of_ble_eq_true rfl⟩ hl rfl (Nat.le_of_ble_eq_true rfl) dX12_learnt_3 (fun H locs Y => ?_)
  refine lv_if_eq (pc := 6) (tgt := 17) hx hb dX12_learnt_6 (by decide) (fun c_6 => ?_) (fun c_6 => ?_)
  · have h := itn (b2i_f c_6) h
    refine lv_bipush (pc := 17) (v := (-2)) hx hb dX12_learnt_17 (by decide) ?_
    have hr9 := ret_p h
    exact fin_i (pc := 19) X rfl Y hr9 rfl rfl dX12_learnt_19
  · have h := itp (b2i_t c_6) h
    refine lv_aload_n (pc := 9) hx hb dX12_learnt_9 rfl (lv_at hl 0 rfl) ?_
    refine lv_iload_n (pc := 10) hx hb dX12_learnt_10 rfl (lv_at hl 1 rfl) ?_
    obtain ⟨r_11, e_11, h⟩ := bnd_s h
    refine call_vi (pc := 11) (rest := []) [.int v1] X Y (c_X12_learntNow v1 e_11) sw_X12_294 (rv_X12 X Y) rfl ⟨rfl, rfl, Nat.le_of_ble_eq_true rfl, Nat.le_of_ble_eq_true rfl⟩ hl rfl (Nat.le_of_ble_eq_true rfl) dX12_learnt_11 (fun H locs Y => ?_)
    refine lv_goto (pc := 14) (tgt := 19) hx hb dX12_learnt_14 (by decide) ?_
    have hr9 := ret_p h
    exact fin_i (pc := 19) X rfl Y hr9 rfl rfl dX12_learnt_19
abbrev rm_X12_sheet : Room := { frames := 2, cells := 0, slots := 0, locals := 42 }
set_option maxHeartbeats 4000000 in
set_option maxRecDepth 100000 in
theorem WL_X12_sheet_59 {r9 : Int32} {D9 : Mem} (v1 : Int32) (v3 : Int32) (X : Cx p s m args meth c cX12_sheet RX12 5 (some .int) dC dI ad bd cI cZ) {kx : Mem → Option (Int32 × Mem)} (hkx : ∀ (D' : Mem) (H : Heap) (locs : List Loc) (ls : Array Slot), Ys s dC dI ad bd cI cZ C D' H locs → lv_has ls 5 [(3, .int v3)] → kx D' = some (r9, D9) → W p l e rm_X12_sheet s m args below meth c H locs 0 0 (MQ below (QC (some (.int r9)) dC dI ad bd cI cZ C D9) args s 0 0 (AD ad bd)) (F0 m 85 ls [])) : ∀ (n_ : Nat) (v4 : Int32) (D : Mem) (H : Heap) (locs : List Loc) (ls : Array Slot), Ys s dC dI ad bd cI cZ C D H locs → lv_has ls 5 [(0, .ref (bd 0)), (1, .int v1), (3, .int v3), (4, .int v4)] → L_X12_sheet_59 v1 kx n_ v4 D = some (r9, D9) → W p l e rm_X12_sheet s m args below meth c H locs 0 0 (MQ below (QC (some (.int r9)) dC dI ad bd cI cZ C D9) args s 0 0 (AD ad bd)) (F0 m 59 ls []) := by
  have hx := X.1
  have hb := X.2.1
  intro n_
  induction n_ with
  | zero =>
    intro v4 D H locs ls Y hl h
    cases h
  | succ n_ ih =>
    intro v4 D H locs ls Y hl h
    unfold L_X12_sheet_59 at h
    refine lv_iload (pc := 59) hx hb dX12_sheet_59 (lv_at hl 3 rfl) ?_
    refine lv_bipush (pc := 61) (v := 48) hx hb dX12_sheet_61 (by decide) ?_
    refine lv_icmp_ge (pc := 63) (tgt := 85) hx hb dX12_sheet_63 (by decide) (fun c_63 => ?_) (fun c_63 => ?_)
    · have h := itp c_63 h
      exact hkx D H locs ls Y (lv_sub hl [2] rfl) h
    · have h := itn c_63 h
      refine lv_aload_n (pc := 66) hx hb dX12_sheet_66 rfl (lv_at hl 0 rfl) ?_
      refine gf_X12_99 (pc := 67) X Y dX12_sheet_67 ?_
      refine lv_bipush (pc := 70) (v := 48) hx hb dX12_sheet_70 (by decide) ?_
      refine lv_iload_n (pc := 72) hx hb dX12_sheet_72 rfl (lv_at hl 1 rfl) ?_
      refine lv_imul (pc := 73) hx hb dX12_sheet_73 ?_
      refine lv_iload (pc := 74) hx hb dX12_sheet_74 (lv_at hl 3 rfl) ?_
      refine lv_iadd (pc := 76) hx hb dX12_sheet_76 ?_
      refine lv_iconst (pc := 77) (v := 0) hx hb dX12_sheet_77 (by decide) ?_
      obtain ⟨g_78, h⟩ := gd_s h
      obtain ⟨D_78, hD_78, h⟩ := sto_s h
      refine r_iastm (pc := 78) X Y (cm_29 bd cI cZ) g_78 hD_78 dX12_sheet_78 (fun H locs Y => ?_)
      obtain ⟨v4_79, ev4_79, h⟩ := lt_s_ h
      refine lv_iinc (pc := 79) (v := v4_79) (lv' := [(4, .int v4_79), (0, .ref (bd 0)), (1, .int v1), (3, .int v3)]) hx hb dX12_sheet_79 hl (k := 3) rfl (by rw [ev4_79]; rfl) (by decide) rfl (fun ls hl => ?_)
      refine lv_goto (pc := 82) (tgt := 59) hx hb dX12_sheet_82 (by decide) ?_
      exact ih v4_79 D_78 H locs ls Y (lv_sub hl [1, 2, 3, 0] rfl) h
set_option maxHeartbeats 4000000 in
set_option maxRecDepth 100000 in
theorem c_X12_sheet {r9 : Int32} {D9 : Mem} (v1 : Int32) (v2 : Int32) (v3 : Int32) (h : f_X12_sheet v1 v2 v3 D = some (r9, D9)) : Ct l dC dI ad bd cI cZ yX12_sheet cX12_sheet 5 (some .int) rm_X12_sheet [.ref (bd 0), .int v1, .int v2, .int v3] C D (some (.int r9)) C D9 := by
  unfold f_X12_sheet at h
  refine Ct.intro (own := RX12) (by decide) rfl (Nat.le_of_ble_eq_true rfl) ?_
  intro p e s m args below meth c H locs ls X Y hl
  have hx := X.1
  have hb := X.2.1
  have hl : lv_has ls 5 [(0, .ref (bd 0)), (1, .int v1), (2, .int v2), (3, .int v3)] := hl
  refine lv_iload_n (pc := 0) hx hb dX12_sheet_0 rfl (lv_at hl 1 rfl) ?_
  refine call_si (pc := 1) (rest := []) [.int v1] X Y (c_X12_isSheet v1) sw_X12_131 rfl ⟨rfl, rfl, Nat.le_of_ble_eq_true rfl, Nat.le_of_ble_eq_true rfl⟩ hl rfl (Nat.le_of_ble_eq_true rfl) dX12_sheet_1 (fun H locs Y => ?_)
  refine lv_if_eq (pc := 4) (tgt := 22) hx hb dX12_sheet_4 (by decide) (fun c_4 => ?_) (fun c_4 => ?_)
  · have h := itn (b2i_f c_4) h
    refine lv_bipush (pc := 22) (v := (-2)) hx hb dX12_sheet_22 (by decide) ?_
    obtain ⟨hr9, hm9⟩ := ret_e h
    exact fin_i (pc := 24) X rfl Y hr9 rfl hm9 dX12_sheet_24
  · have h := itp (b2i_t c_4) h
    refine lv_iload_n (pc := 7) hx hb dX12_sheet_7 rfl (lv_at hl 2 rfl) ?_
    refine lv_iconst (pc := 8) (v := 0) hx hb dX12_sheet_8 (by decide) ?_
    refine lv_iconst (pc := 9) (v := 2) hx hb dX12_sheet_9 (by decide) ?_
    refine call_si (pc := 10) (rest := []) [.int v2, .int 0, .int 2] X Y (c_X12_in v2 0 2) sw_X12_107 rfl ⟨rfl, rfl, Nat.le_of_ble_eq_true rfl, Nat.le_of_ble_eq_true rfl⟩ hl rfl (Nat.le_of_ble_eq_true rfl) dX12_sheet_10 (fun H locs Y => ?_)
    refine lv_if_eq (pc := 13) (tgt := 22) hx hb dX12_sheet_13 (by decide) (fun c_13 => ?_) (fun c_13 => ?_)
    · have h := itn (b2i_f c_13) h
      refine lv_bipush (pc := 22) (v := (-2)) hx hb dX12_sheet_22 (by decide) ?_
      obtain ⟨hr9, hm9⟩ := ret_e h
      exact fin_i (pc := 24) X rfl Y hr9 rfl hm9 dX12_sheet_24
    · have h := itp (b2i_t c_13) h
      refine lv_iload_n (pc := 16) hx hb dX12_sheet_16 rfl (lv_at hl 3 rfl) ?_
      refine lv_bipush (pc := 17) (v := 48) hx hb dX12_sheet_17 (by decide) ?_
      refine lv_icmp_le (pc := 19) (tgt := 25) hx hb dX12_sheet_19 (by decide) (fun c_19 => ?_) (fun c_19 => ?_)
      · have h := itp c_19 h
        refine lv_iload_n (pc := 25) hx hb dX12_sheet_25 rfl (lv_at hl 3 rfl) ?_
        refine lv_if_ge (pc := 26) (tgt := 35) hx hb dX12_sheet_26 (by decide) (fun c_26 => ?_) (fun c_26 => ?_)
        · have h := itp c_26 h
          refine lv_aload_n (pc := 35) hx hb dX12_sheet_35 rfl (lv_at hl 0 rfl) ?_
          refine gf_X12_89 (pc := 36) X Y dX12_sheet_36 ?_
          refine lv_iload_n (pc := 39) hx hb dX12_sheet_39 rfl (lv_at hl 1 rfl) ?_
          refine lv_iconst (pc := 40) (v := 1) hx hb dX12_sheet_40 (by decide) ?_
          obtain ⟨g_41, h⟩ := gd_s h
          obtain ⟨D_41, hD_41, h⟩ := sto_s h
          refine r_zastm (pc := 41) X Y (cm_26 bd cI cZ) g_41 hD_41 dX12_sheet_41 (fun H locs Y => ?_)
          refine lv_aload_n (pc := 42) hx hb dX12_sheet_42 rfl (lv_at hl 0 rfl) ?_
          refine gf_X12_93 (pc := 43) X Y dX12_sheet_43 ?_
          refine lv_iload_n (pc := 46) hx hb dX12_sheet_46 rfl (lv_at hl 1 rfl) ?_
          refine lv_iload_n (pc := 47) hx hb dX12_sheet_47 rfl (lv_at hl 2 rfl) ?_
          obtain ⟨g_48, h⟩ := gd_s h
          obtain ⟨D_48, hD_48, h⟩ := sto_s h
          refine r_iastm (pc := 48) X Y (cm_27 bd cI cZ) g_48 hD_48 dX12_sheet_48 (fun H locs Y => ?_)
          refine lv_aload_n (pc := 49) hx hb dX12_sheet_49 rfl (lv_at hl 0 rfl) ?_
          refine gf_X12_96 (pc := 50) X Y dX12_sheet_50 ?_
          refine lv_iload_n (pc := 53) hx hb dX12_sheet_53 rfl (lv_at hl 1 rfl) ?_
          refine lv_iload_n (pc := 54) hx hb dX12_sheet_54 rfl (lv_at hl 3 rfl) ?_
          obtain ⟨g_55, h⟩ := gd_s h
          obtain ⟨D_55, hD_55, h⟩ := sto_s h
          refine r_iastm (pc := 55) X Y (cm_28 bd cI cZ) g_55 hD_55 dX12_sheet_55 (fun H locs Y => ?_)
          refine lv_iconst (pc := 56) (v := 0) hx hb dX12_sheet_56 (by decide) ?_
          refine lv_istore (pc := 57) (lv' := [(4, .int 0), (0, .ref (bd 0)), (1, .int v1), (2, .int v2), (3, .int v3)]) hx hb dX12_sheet_57 hl (by decide) rfl (fun ls hl => ?_)
          refine WL_X12_sheet_59 v1 v3 X (fun D_85 H locs ls Y hl h => ?_) FU 0 D_55 H locs ls Y (lv_sub hl [1, 2, 4, 0] rfl) h
          refine lv_iload_n (pc := 85) hx hb dX12_sheet_85 rfl (lv_at hl 0 rfl) ?_
          obtain ⟨hr9, hm9⟩ := ret_e h
          exact fin_i (pc := 86) X rfl Y hr9 rfl hm9 dX12_sheet_86
        · have h := itn c_26 h
          refine lv_aload_n (pc := 29) hx hb dX12_sheet_29 rfl (lv_at hl 0 rfl) ?_
          refine lv_iconst (pc := 30) (v := 5) hx hb dX12_sheet_30 (by decide) ?_
          obtain ⟨r_31, D_31, e_31, h⟩ := bnd2_s h
          refine call_vi (pc := 31) (rest := []) [.int 5] X Y (c_X12_meets 5 e_31) sw_X12_134 (rv_X12 X Y) rfl ⟨rfl, rfl, Nat.le_of_ble_eq_true rfl, Nat.le_of_ble_eq_true rfl⟩ hl rfl (Nat.le_of_ble_eq_true rfl) dX12_sheet_31 (fun H locs Y => ?_)
          obtain ⟨hr9, hm9⟩ := ret_e h
          exact fin_i (pc := 34) X rfl Y hr9 rfl hm9 dX12_sheet_34
      · have h := itn c_19 h
        refine lv_bipush (pc := 22) (v := (-2)) hx hb dX12_sheet_22 (by decide) ?_
        obtain ⟨hr9, hm9⟩ := ret_e h
        exact fin_i (pc := 24) X rfl Y hr9 rfl hm9 dX12_sheet_24
abbrev rm_X12_lose : Room := { frames := 2, cells := 0, slots := 0, locals := 42 }
set_option maxHeartbeats 4000000 in
set_option maxRecDepth 100000 in
theorem c_X12_lose {r9 : Int32} {D9 : Mem} (v1 : Int32) (h : f_X12_lose v1 D = some (r9, D9)) : Ct l dC dI ad bd cI cZ yX12_lose cX12_lose 2 (some .int) rm_X12_lose [.ref (bd 0), .int v1] C D (some (.int r9)) C D9 := by
  unfold f_X12_lose at h
  refine Ct.intro (own := RX12) (by decide) rfl (Nat.le_of_ble_eq_true rfl) ?_
  intro p e s m args below meth c H locs ls X Y hl
  have hx := X.1
  have hb := X.2.1
  have hl : lv_has ls 2 [(0, .ref (bd 0)), (1, .int v1)] := hl
  refine lv_iload_n (pc := 0) hx hb dX12_lose_0 rfl (lv_at hl 1 rfl) ?_
  refine call_si (pc := 1) (rest := []) [.int v1] X Y (c_X12_isSheet v1) sw_X12_131 rfl ⟨rfl, rfl, Nat.le_of_ble_eq_true rfl, Nat.le_of_ble_eq_true rfl⟩ hl rfl (Nat.le_of_ble_eq_true rfl) dX12_lose_1 (fun H locs Y => ?_)
  refine lv_if_ne (pc := 4) (tgt := 10) hx hb dX12_lose_4 (by decide) (fun c_4 => ?_) (fun c_4 => ?_)
  · have h := itp (b2i_t c_4) h
    refine lv_aload_n (pc := 10) hx hb dX12_lose_10 rfl (lv_at hl 0 rfl) ?_
    refine gf_X12_89 (pc := 11) X Y dX12_lose_11 ?_
    refine lv_iload_n (pc := 14) hx hb dX12_lose_14 rfl (lv_at hl 1 rfl) ?_
    obtain ⟨g_15, h⟩ := gd_s h
    refine r_zaldm (pc := 15) X Y (cm_26 bd cI cZ) g_15 dX12_lose_15 ?_
    refine lv_if_ne (pc := 16) (tgt := 25) hx hb dX12_lose_16 (by decide) (fun c_16 => ?_) (fun c_16 => ?_)
    · have h := itn c_16 h
      refine lv_aload_n (pc := 25) hx hb dX12_lose_25 rfl (lv_at hl 0 rfl) ?_
      refine gf_X12_89 (pc := 26) X Y dX12_lose_26 ?_
      refine lv_iload_n (pc := 29) hx hb dX12_lose_29 rfl (lv_at hl 1 rfl) ?_
      refine lv_iconst (pc := 30) (v := 0) hx hb dX12_lose_30 (by decide) ?_
      obtain ⟨g_31, h⟩ := gd_s h
      obtain ⟨D_31, hD_31, h⟩ := sto_s h
      refine r_zastm (pc := 31) X Y (cm_26 bd cI cZ) g_31 hD_31 dX12_lose_31 (fun H locs Y => ?_)
      refine lv_aload_n (pc := 32) hx hb dX12_lose_32 rfl (lv_at hl 0 rfl) ?_
      refine gf_X12_96 (pc := 33) X Y dX12_lose_33 ?_
      refine lv_iload_n (pc := 36) hx hb dX12_lose_36 rfl (lv_at hl 1 rfl) ?_
      obtain ⟨g_37, h⟩ := gd_s h
      refine r_ialdm (pc := 37) X Y (cm_28 bd cI cZ) g_37 dX12_lose_37 ?_
      obtain ⟨hr9, hm9⟩ := ret_e h
      exact fin_i (pc := 38) X rfl Y hr9 rfl hm9 dX12_lose_38
    · have h := itp c_16 h
      refine lv_aload_n (pc := 19) hx hb dX12_lose_19 rfl (lv_at hl 0 rfl) ?_
      refine lv_iconst (pc := 20) (v := 1) hx hb dX12_lose_20 (by decide) ?_
      obtain ⟨r_21, D_21, e_21, h⟩ := bnd2_s h
      refine call_vi (pc := 21) (rest := []) [.int 1] X Y (c_X12_meets 1 e_21) sw_X12_134 (rv_X12 X Y) rfl ⟨rfl, rfl, Nat.le_of_ble_eq_true rfl, Nat.le_of_ble_eq_true rfl⟩ hl rfl (Nat.le_of_ble_eq_true rfl) dX12_lose_21 (fun H locs Y => ?_)
      obtain ⟨hr9, hm9⟩ := ret_e h
      exact fin_i (pc := 24) X rfl Y hr9 rfl hm9 dX12_lose_24
  · have h := itn (b2i_f c_4) h
    refine lv_bipush (pc := 7) (v := (-2)) hx hb dX12_lose_7 (by decide) ?_
    obtain ⟨hr9, hm9⟩ := ret_e h
    exact fin_i (pc := 9) X rfl Y hr9 rfl hm9 dX12_lose_9
abbrev rm_X12_lacks : Room := { frames := 1, cells := 0, slots := 0, locals := 22 }
set_option maxHeartbeats 4000000 in
set_option maxRecDepth 100000 in
theorem c_X12_lacks {r9 : Int32} (v1 : Int32) (v2 : Int32) (v3 : Int32) (h : f_X12_lacks v1 v2 v3 D = some r9) : Ct l dC dI ad bd cI cZ yX12_lacks cX12_lacks 4 (some .int) rm_X12_lacks [.ref (bd 0), .int v1, .int v2, .int v3] C D (some (.int r9)) C D := by
  unfold f_X12_lacks at h
  refine Ct.intro (own := RX12) (by decide) rfl (Nat.le_of_ble_eq_true rfl) ?_
  intro p e s m args below meth c H locs ls X Y hl
  have hx := X.1
  have hb := X.2.1
  have hl : lv_has ls 4 [(0, .ref (bd 0)), (1, .int v1), (2, .int v2), (3, .int v3)] := hl
  refine lv_aload_n (pc := 0) hx hb dX12_lacks_0 rfl (lv_at hl 0 rfl) ?_
  refine gf_X12_89 (pc := 1) X Y dX12_lacks_1 ?_
  refine lv_iload_n (pc := 4) hx hb dX12_lacks_4 rfl (lv_at hl 1 rfl) ?_
  obtain ⟨g_5, h⟩ := gd_s h
  refine r_zaldm (pc := 5) X Y (cm_26 bd cI cZ) g_5 dX12_lacks_5 ?_
  refine lv_if_ne (pc := 6) (tgt := 13) hx hb dX12_lacks_6 (by decide) (fun c_6 => ?_) (fun c_6 => ?_)
  · have h := itn c_6 h
    refine lv_aload_n (pc := 13) hx hb dX12_lacks_13 rfl (lv_at hl 0 rfl) ?_
    refine gf_X12_93 (pc := 14) X Y dX12_lacks_14 ?_
    refine lv_iload_n (pc := 17) hx hb dX12_lacks_17 rfl (lv_at hl 1 rfl) ?_
    obtain ⟨g_18, h⟩ := gd_s h
    refine r_ialdm (pc := 18) X Y (cm_27 bd cI cZ) g_18 dX12_lacks_18 ?_
    refine lv_iload_n (pc := 19) hx hb dX12_lacks_19 rfl (lv_at hl 2 rfl) ?_
    refine lv_icmp_eq (pc := 20) (tgt := 27) hx hb dX12_lacks_20 (by decide) (fun c_20 => ?_) (fun c_20 => ?_)
    · have h := itp c_20 h
      refine lv_iload_n (pc := 27) hx hb dX12_lacks_27 rfl (lv_at hl 3 rfl) ?_
      refine lv_iconst (pc := 28) (v := 0) hx hb dX12_lacks_28 (by decide) ?_
      refine lv_aload_n (pc := 29) hx hb dX12_lacks_29 rfl (lv_at hl 0 rfl) ?_
      refine gf_X12_96 (pc := 30) X Y dX12_lacks_30 ?_
      refine lv_iload_n (pc := 33) hx hb dX12_lacks_33 rfl (lv_at hl 1 rfl) ?_
      obtain ⟨g_34, h⟩ := gd_s h
      refine r_ialdm (pc := 34) X Y (cm_28 bd cI cZ) g_34 dX12_lacks_34 ?_
      refine lv_iconst (pc := 35) (v := 1) hx hb dX12_lacks_35 (by decide) ?_
      refine lv_isub (pc := 36) hx hb dX12_lacks_36 ?_
      refine call_si (pc := 37) (rest := []) [.int v3, .int 0, .int ((D 28 v1.toNatClampNeg) - 1)] X Y (c_X12_in v3 0 ((D 28 v1.toNatClampNeg) - 1)) sw_X12_107 rfl ⟨rfl, rfl, Nat.le_of_ble_eq_true rfl, Nat.le_of_ble_eq_true rfl⟩ hl rfl (Nat.le_of_ble_eq_true rfl) dX12_lacks_37 (fun H locs Y => ?_)
      refine lv_if_eq (pc := 40) (tgt := 47) hx hb dX12_lacks_40 (by decide) (fun c_40 => ?_) (fun c_40 => ?_)
      · have h := itn (b2i_f c_40) h
        refine lv_iconst (pc := 47) (v := 2) hx hb dX12_lacks_47 (by decide) ?_
        have hr9 := ret_p h
        exact fin_i (pc := 48) X rfl Y hr9 rfl rfl dX12_lacks_48
      · have h := itp (b2i_t c_40) h
        refine lv_iconst (pc := 43) (v := 0) hx hb dX12_lacks_43 (by decide) ?_
        refine lv_goto (pc := 44) (tgt := 48) hx hb dX12_lacks_44 (by decide) ?_
        have hr9 := ret_p h
        exact fin_i (pc := 48) X rfl Y hr9 rfl rfl dX12_lacks_48
    · have h := itn c_20 h
      refine lv_iconst (pc := 23) (v := 3) hx hb dX12_lacks_23 (by decide) ?_
      refine lv_goto (pc := 24) (tgt := 48) hx hb dX12_lacks_24 (by decide) ?_
      have hr9 := ret_p h
      exact fin_i (pc := 48) X rfl Y hr9 rfl rfl dX12_lacks_48
  · have h := itp c_6 h
    refine lv_iconst (pc := 9) (v := 1) hx hb dX12_lacks_9 (by decide) ?_
    refine lv_goto (pc := 10) (tgt := 48) hx hb dX12_lacks_10 (by decide) ?_
    have hr9 := ret_p h
    exact fin_i (pc := 48) X rfl Y hr9 rfl rfl dX12_lacks_48
abbrev rm_X12_keep : Room := { frames := 0, cells := 0, slots := 0, locals := 0 }
set_option maxHeartbeats 4000000 in
set_option maxRecDepth 100000 in
theorem WB_X12_keep_40 {D9 : Mem} (x1 : Int32) (x2 : Int32) (D : Mem) (X : Cx p s m args meth c cX12_keep RX12 4 (none) dC dI ad bd cI cZ) {H : Heap} {locs : List Loc} {ls : Array Slot} (Y : Ys s dC dI ad bd cI cZ C D H locs) (hl : lv_has ls 4 []) (h : B_X12_keep_40 x1 x2 D = some D9) : W p l e rm_X12_keep s m args below meth c H locs 0 0 (MQ below (QC (none) dC dI ad bd cI cZ C D9) args s 0 0 (AD ad bd)) (F0 m 40 ls [.int x2, .int x1, .ref (bd 29)]) := by
  have hx := X.1
  have hb := X.2.1
  unfold B_X12_keep_40 at h
  obtain ⟨g_40, h⟩ := gd_s h
  obtain ⟨D_40, hD_40, h⟩ := sto_s h
  refine r_iastm (pc := 40) X Y (cm_29 bd cI cZ) g_40 hD_40 dX12_keep_40 (fun H locs Y => ?_)
  have hm9 := ret_v h
  exact fin_v (pc := 41) X rfl Y rfl hm9 dX12_keep_41
set_option maxHeartbeats 4000000 in
set_option maxRecDepth 100000 in
theorem c_X12_keep {D9 : Mem} (v1 : Int32) (v2 : Int32) (v3 : Int32) (h : f_X12_keep v1 v2 v3 D = some D9) : Ct l dC dI ad bd cI cZ yX12_keep cX12_keep 4 (none) rm_X12_keep [.ref (bd 0), .int v1, .int v2, .int v3] C D (none) C D9 := by
  unfold f_X12_keep at h
  refine Ct.intro (own := RX12) (by decide) rfl (Nat.le_of_ble_eq_true rfl) ?_
  intro p e s m args below meth c H locs ls X Y hl
  have hx := X.1
  have hb := X.2.1
  have hl : lv_has ls 4 [(0, .ref (bd 0)), (1, .int v1), (2, .int v2), (3, .int v3)] := hl
  refine lv_aload_n (pc := 0) hx hb dX12_keep_0 rfl (lv_at hl 0 rfl) ?_
  refine gf_X12_99 (pc := 1) X Y dX12_keep_1 ?_
  refine lv_bipush (pc := 4) (v := 48) hx hb dX12_keep_4 (by decide) ?_
  refine lv_iload_n (pc := 6) hx hb dX12_keep_6 rfl (lv_at hl 1 rfl) ?_
  refine lv_imul (pc := 7) hx hb dX12_keep_7 ?_
  refine lv_iload_n (pc := 8) hx hb dX12_keep_8 rfl (lv_at hl 2 rfl) ?_
  refine lv_iadd (pc := 9) hx hb dX12_keep_9 ?_
  refine lv_aload_n (pc := 10) hx hb dX12_keep_10 rfl (lv_at hl 0 rfl) ?_
  refine gf_X12_93 (pc := 11) X Y dX12_keep_11 ?_
  refine lv_iload_n (pc := 14) hx hb dX12_keep_14 rfl (lv_at hl 1 rfl) ?_
  obtain ⟨g_15, h⟩ := gd_s h
  refine r_ialdm (pc := 15) X Y (cm_27 bd cI cZ) g_15 dX12_keep_15 ?_
  refine lv_if_ne (pc := 16) (tgt := 24) hx hb dX12_keep_16 (by decide) (fun c_16 => ?_) (fun c_16 => ?_)
  · have h := itn c_16 h
    refine lv_aload_n (pc := 24) hx hb dX12_keep_24 rfl (lv_at hl 0 rfl) ?_
    refine gf_X12_93 (pc := 25) X Y dX12_keep_25 ?_
    refine lv_iload_n (pc := 28) hx hb dX12_keep_28 rfl (lv_at hl 1 rfl) ?_
    obtain ⟨g_29, h⟩ := gd_s h
    refine r_ialdm (pc := 29) X Y (cm_27 bd cI cZ) g_29 dX12_keep_29 ?_
    refine lv_iconst (pc := 30) (v := 1) hx hb dX12_keep_30 (by decide) ?_
    refine lv_icmp_ne (pc := 31) (tgt := 39) hx hb dX12_keep_31 (by decide) (fun c_31 => ?_) (fun c_31 => ?_)
    · have h := itn c_31 h
      refine lv_iload_n (pc := 39) hx hb dX12_keep_39 rfl (lv_at hl 3 rfl) ?_
      exact WB_X12_keep_40 ((48 * v1) + v2) v3 D X Y (lv_sub hl [] rfl) h
    · have h := itp c_31 h
      refine lv_iload_n (pc := 34) hx hb dX12_keep_34 rfl (lv_at hl 3 rfl) ?_
      refine lv_i2s (pc := 35) hx hb dX12_keep_35 rfl ?_
      refine lv_goto (pc := 36) (tgt := 40) hx hb dX12_keep_36 (by decide) ?_
      exact WB_X12_keep_40 ((48 * v1) + v2) (v3.toInt16.toInt32) D X Y (lv_sub hl [] rfl) h
  · have h := itp c_16 h
    refine lv_iload_n (pc := 19) hx hb dX12_keep_19 rfl (lv_at hl 3 rfl) ?_
    refine lv_i2b (pc := 20) hx hb dX12_keep_20 rfl ?_
    refine lv_goto (pc := 21) (tgt := 40) hx hb dX12_keep_21 (by decide) ?_
    exact WB_X12_keep_40 ((48 * v1) + v2) (v3.toInt8.toInt32) D X Y (lv_sub hl [] rfl) h
abbrev rm_X12_put : Room := { frames := 2, cells := 0, slots := 0, locals := 45 }
set_option maxHeartbeats 4000000 in
set_option maxRecDepth 100000 in
theorem c_X12_put {r9 : Int32} {D9 : Mem} (v1 : Int32) (v2 : Int32) (v3 : Int32) (v4 : Int32) (h : f_X12_put v1 v2 v3 v4 D = some (r9, D9)) : Ct l dC dI ad bd cI cZ yX12_put cX12_put 6 (some .int) rm_X12_put [.ref (bd 0), .int v1, .int v2, .int v3, .int v4] C D (some (.int r9)) C D9 := by
  unfold f_X12_put at h
  refine Ct.intro (own := RX12) (by decide) rfl (Nat.le_of_ble_eq_true rfl) ?_
  intro p e s m args below meth c H locs ls X Y hl
  have hx := X.1
  have hb := X.2.1
  have hl : lv_has ls 6 [(0, .ref (bd 0)), (1, .int v1), (2, .int v2), (3, .int v3), (4, .int v4)] := hl
  refine lv_iload_n (pc := 0) hx hb dX12_put_0 rfl (lv_at hl 1 rfl) ?_
  refine call_si (pc := 1) (rest := []) [.int v1] X Y (c_X12_isSheet v1) sw_X12_131 rfl ⟨rfl, rfl, Nat.le_of_ble_eq_true rfl, Nat.le_of_ble_eq_true rfl⟩ hl rfl (Nat.le_of_ble_eq_true rfl) dX12_put_1 (fun H locs Y => ?_)
  refine lv_if_eq (pc := 4) (tgt := 16) hx hb dX12_put_4 (by decide) (fun c_4 => ?_) (fun c_4 => ?_)
  · have h := itn (b2i_f c_4) h
    refine lv_bipush (pc := 16) (v := (-2)) hx hb dX12_put_16 (by decide) ?_
    obtain ⟨hr9, hm9⟩ := ret_e h
    exact fin_i (pc := 18) X rfl Y hr9 rfl hm9 dX12_put_18
  · have h := itp (b2i_t c_4) h
    refine lv_iload_n (pc := 7) hx hb dX12_put_7 rfl (lv_at hl 2 rfl) ?_
    refine lv_iconst (pc := 8) (v := 0) hx hb dX12_put_8 (by decide) ?_
    refine lv_iconst (pc := 9) (v := 2) hx hb dX12_put_9 (by decide) ?_
    refine call_si (pc := 10) (rest := []) [.int v2, .int 0, .int 2] X Y (c_X12_in v2 0 2) sw_X12_107 rfl ⟨rfl, rfl, Nat.le_of_ble_eq_true rfl, Nat.le_of_ble_eq_true rfl⟩ hl rfl (Nat.le_of_ble_eq_true rfl) dX12_put_10 (fun H locs Y => ?_)
    refine lv_if_ne (pc := 13) (tgt := 19) hx hb dX12_put_13 (by decide) (fun c_13 => ?_) (fun c_13 => ?_)
    · have h := itp (b2i_t c_13) h
      refine lv_aload_n (pc := 19) hx hb dX12_put_19 rfl (lv_at hl 0 rfl) ?_
      refine lv_iload_n (pc := 20) hx hb dX12_put_20 rfl (lv_at hl 1 rfl) ?_
      refine lv_iload_n (pc := 21) hx hb dX12_put_21 rfl (lv_at hl 2 rfl) ?_
      refine lv_iload_n (pc := 22) hx hb dX12_put_22 rfl (lv_at hl 3 rfl) ?_
      obtain ⟨r_23, e_23, h⟩ := bnd_s h
      refine call_vi (pc := 23) (rest := []) [.int v1, .int v2, .int v3] X Y (c_X12_lacks v1 v2 v3 e_23) sw_X12_300 (rv_X12 X Y) rfl ⟨rfl, rfl, Nat.le_of_ble_eq_true rfl, Nat.le_of_ble_eq_true rfl⟩ hl rfl (Nat.le_of_ble_eq_true rfl) dX12_put_23 (fun H locs Y => ?_)
      refine lv_istore (pc := 26) (lv' := [(5, .int r_23), (0, .ref (bd 0)), (1, .int v1), (2, .int v2), (3, .int v3), (4, .int v4)]) hx hb dX12_put_26 hl (by decide) rfl (fun ls hl => ?_)
      refine lv_iload (pc := 28) hx hb dX12_put_28 (lv_at hl 0 rfl) ?_
      refine lv_if_le (pc := 30) (tgt := 40) hx hb dX12_put_30 (by decide) (fun c_30 => ?_) (fun c_30 => ?_)
      · have h := itp c_30 h
        refine lv_aload_n (pc := 40) hx hb dX12_put_40 rfl (lv_at hl 1 rfl) ?_
        refine lv_iload_n (pc := 41) hx hb dX12_put_41 rfl (lv_at hl 2 rfl) ?_
        refine lv_iload_n (pc := 42) hx hb dX12_put_42 rfl (lv_at hl 4 rfl) ?_
        refine lv_iload (pc := 43) hx hb dX12_put_43 (lv_at hl 5 rfl) ?_
        obtain ⟨D_45, e_45, h⟩ := bnd_s h
        refine call_vv (pc := 45) (rest := []) [.int v1, .int v3, .int v4] X Y (c_X12_keep v1 v3 v4 e_45) sw_X12_303 (rv_X12 X Y) rfl ⟨rfl, rfl, Nat.le_of_ble_eq_true rfl, Nat.le_of_ble_eq_true rfl⟩ hl rfl (Nat.le_of_ble_eq_true rfl) dX12_put_45 (fun H locs Y => ?_)
        refine lv_iconst (pc := 48) (v := 1) hx hb dX12_put_48 (by decide) ?_
        obtain ⟨hr9, hm9⟩ := ret_e h
        exact fin_i (pc := 49) X rfl Y hr9 rfl hm9 dX12_put_49
      · have h := itn c_30 h
        refine lv_aload_n (pc := 33) hx hb dX12_put_33 rfl (lv_at hl 1 rfl) ?_
        refine lv_iload (pc := 34) hx hb dX12_put_34 (lv_at hl 0 rfl) ?_
        obtain ⟨r_36, D_36, e_36, h⟩ := bnd2_s h
        refine call_vi (pc := 36) (rest := []) [.int r_23] X Y (c_X12_meets r_23 e_36) sw_X12_134 (rv_X12 X Y) rfl ⟨rfl, rfl, Nat.le_of_ble_eq_true rfl, Nat.le_of_ble_eq_true rfl⟩ hl rfl (Nat.le_of_ble_eq_true rfl) dX12_put_36 (fun H locs Y => ?_)
        obtain ⟨hr9, hm9⟩ := ret_e h
        exact fin_i (pc := 39) X rfl Y hr9 rfl hm9 dX12_put_39
    · have h := itn (b2i_f c_13) h
      refine lv_bipush (pc := 16) (v := (-2)) hx hb dX12_put_16 (by decide) ?_
      obtain ⟨hr9, hm9⟩ := ret_e h
      exact fin_i (pc := 18) X rfl Y hr9 rfl hm9 dX12_put_18
abbrev rm_X12_get : Room := { frames := 2, cells := 0, slots := 0, locals := 45 }
set_option maxHeartbeats 4000000 in
set_option maxRecDepth 100000 in
theorem c_X12_get {r9 : Int32} {D9 : Mem} (v1 : Int32) (v2 : Int32) (v3 : Int32) (h : f_X12_get v1 v2 v3 D = some (r9, D9)) : Ct l dC dI ad bd cI cZ yX12_get cX12_get 5 (some .int) rm_X12_get [.ref (bd 0), .int v1, .int v2, .int v3] C D (some (.int r9)) C D9 := by
  unfold f_X12_get at h
  refine Ct.intro (own := RX12) (by decide) rfl (Nat.le_of_ble_eq_true rfl) ?_
  intro p e s m args below meth c H locs ls X Y hl
  have hx := X.1
  have hb := X.2.1
  have hl : lv_has ls 5 [(0, .ref (bd 0)), (1, .int v1), (2, .int v2), (3, .int v3)] := hl
  refine lv_iload_n (pc := 0) hx hb dX12_get_0 rfl (lv_at hl 1 rfl) ?_
  refine call_si (pc := 1) (rest := []) [.int v1] X Y (c_X12_isSheet v1) sw_X12_131 rfl ⟨rfl, rfl, Nat.le_of_ble_eq_true rfl, Nat.le_of_ble_eq_true rfl⟩ hl rfl (Nat.le_of_ble_eq_true rfl) dX12_get_1 (fun H locs Y => ?_)
  refine lv_if_eq (pc := 4) (tgt := 16) hx hb dX12_get_4 (by decide) (fun c_4 => ?_) (fun c_4 => ?_)
  · have h := itn (b2i_f c_4) h
    refine lv_ldcw (pc := 16) (v := (-2147483648)) hx hb X.2.2.2.1 (X.2.2.2.2.1 _ w_aa7113a99a) dX12_get_16 ?_
    obtain ⟨hr9, hm9⟩ := ret_e h
    exact fin_i (pc := 19) X rfl Y hr9 rfl hm9 dX12_get_19
  · have h := itp (b2i_t c_4) h
    refine lv_iload_n (pc := 7) hx hb dX12_get_7 rfl (lv_at hl 2 rfl) ?_
    refine lv_iconst (pc := 8) (v := 0) hx hb dX12_get_8 (by decide) ?_
    refine lv_iconst (pc := 9) (v := 2) hx hb dX12_get_9 (by decide) ?_
    refine call_si (pc := 10) (rest := []) [.int v2, .int 0, .int 2] X Y (c_X12_in v2 0 2) sw_X12_107 rfl ⟨rfl, rfl, Nat.le_of_ble_eq_true rfl, Nat.le_of_ble_eq_true rfl⟩ hl rfl (Nat.le_of_ble_eq_true rfl) dX12_get_10 (fun H locs Y => ?_)
    refine lv_if_ne (pc := 13) (tgt := 20) hx hb dX12_get_13 (by decide) (fun c_13 => ?_) (fun c_13 => ?_)
    · have h := itp (b2i_t c_13) h
      refine lv_aload_n (pc := 20) hx hb dX12_get_20 rfl (lv_at hl 0 rfl) ?_
      refine lv_iload_n (pc := 21) hx hb dX12_get_21 rfl (lv_at hl 1 rfl) ?_
      refine lv_iload_n (pc := 22) hx hb dX12_get_22 rfl (lv_at hl 2 rfl) ?_
      refine lv_iload_n (pc := 23) hx hb dX12_get_23 rfl (lv_at hl 3 rfl) ?_
      obtain ⟨r_24, e_24, h⟩ := bnd_s h
      refine call_vi (pc := 24) (rest := []) [.int v1, .int v2, .int v3] X Y (c_X12_lacks v1 v2 v3 e_24) sw_X12_300 (rv_X12 X Y) rfl ⟨rfl, rfl, Nat.le_of_ble_eq_true rfl, Nat.le_of_ble_eq_true rfl⟩ hl rfl (Nat.le_of_ble_eq_true rfl) dX12_get_24 (fun H locs Y => ?_)
      refine lv_istore (pc := 27) (lv' := [(4, .int r_24), (0, .ref (bd 0)), (1, .int v1), (2, .int v2), (3, .int v3)]) hx hb dX12_get_27 hl (by decide) rfl (fun ls hl => ?_)
      refine lv_iload (pc := 29) hx hb dX12_get_29 (lv_at hl 0 rfl) ?_
      refine lv_if_le (pc := 31) (tgt := 44) hx hb dX12_get_31 (by decide) (fun c_31 => ?_) (fun c_31 => ?_)
      · have h := itp c_31 h
        refine lv_aload_n (pc := 44) hx hb dX12_get_44 rfl (lv_at hl 1 rfl) ?_
        refine gf_X12_99 (pc := 45) X Y dX12_get_45 ?_
        refine lv_bipush (pc := 48) (v := 48) hx hb dX12_get_48 (by decide) ?_
        refine lv_iload_n (pc := 50) hx hb dX12_get_50 rfl (lv_at hl 2 rfl) ?_
        refine lv_imul (pc := 51) hx hb dX12_get_51 ?_
        refine lv_iload_n (pc := 52) hx hb dX12_get_52 rfl (lv_at hl 4 rfl) ?_
        refine lv_iadd (pc := 53) hx hb dX12_get_53 ?_
        obtain ⟨g_54, h⟩ := gd_s h
        refine r_ialdm (pc := 54) X Y (cm_29 bd cI cZ) g_54 dX12_get_54 ?_
        obtain ⟨hr9, hm9⟩ := ret_e h
        exact fin_i (pc := 55) X rfl Y hr9 rfl hm9 dX12_get_55
      · have h := itn c_31 h
        refine lv_aload_n (pc := 34) hx hb dX12_get_34 rfl (lv_at hl 1 rfl) ?_
        refine lv_iload (pc := 35) hx hb dX12_get_35 (lv_at hl 0 rfl) ?_
        obtain ⟨D_37, hD_37, h⟩ := sto_s h
        refine pf_X12_297 (pc := 37) X Y hD_37 dX12_get_37 (fun H locs Y => ?_)
        refine lv_ldcw (pc := 40) (v := (-2147483648)) hx hb X.2.2.2.1 (X.2.2.2.2.1 _ w_aa7113a99a) dX12_get_40 ?_
        obtain ⟨hr9, hm9⟩ := ret_e h
        exact fin_i (pc := 43) X rfl Y hr9 rfl hm9 dX12_get_43
    · have h := itn (b2i_f c_13) h
      refine lv_ldcw (pc := 16) (v := (-2147483648)) hx hb X.2.2.2.1 (X.2.2.2.2.1 _ w_aa7113a99a) dX12_get_16 ?_
      obtain ⟨hr9, hm9⟩ := ret_e h
      exact fin_i (pc := 19) X rfl Y hr9 rfl hm9 dX12_get_19
abbrev rm_X12_copy : Room := { frames := 2, cells := 0, slots := 0, locals := 42 }
set_option maxHeartbeats 4000000 in
set_option maxRecDepth 100000 in
theorem WB_X12_copy_35 {r9 : Int32} {D9 : Mem} (D : Mem) (X : Cx p s m args meth c cX12_copy RX12 7 (some .int) dC dI ad bd cI cZ) {H : Heap} {locs : List Loc} {ls : Array Slot} (Y : Ys s dC dI ad bd cI cZ C D H locs) (hl : lv_has ls 7 [(0, .ref (bd 0))]) (h : B_X12_copy_35 D = some (r9, D9)) : W p l e rm_X12_copy s m args below meth c H locs 0 0 (MQ below (QC (some (.int r9)) dC dI ad bd cI cZ C D9) args s 0 0 (AD ad bd)) (F0 m 35 ls []) := by
  have hx := X.1
  have hb := X.2.1
  unfold B_X12_copy_35 at h
  refine lv_aload_n (pc := 35) hx hb dX12_copy_35 rfl (lv_at hl 0 rfl) ?_
  refine lv_iconst (pc := 36) (v := 1) hx hb dX12_copy_36 (by decide) ?_
  obtain ⟨r_37, D_37, e_37, h⟩ := bnd2_s h
  refine call_vi (pc := 37) (rest := []) [.int 1] X Y (c_X12_meets 1 e_37) sw_X12_134 (rv_X12 X Y) rfl ⟨rfl, rfl, Nat.le_of_ble_eq_true rfl, Nat.le_of_ble_eq_true rfl⟩ hl rfl (Nat.le_of_ble_eq_true rfl) dX12_copy_37 (fun H locs Y => ?_)
  obtain ⟨hr9, hm9⟩ := ret_e h
  exact fin_i (pc := 40) X rfl Y hr9 rfl hm9 dX12_copy_40
set_option maxHeartbeats 4000000 in
set_option maxRecDepth 100000 in
theorem WB_X12_copy_111 {r9 : Int32} {D9 : Mem} (D : Mem) (X : Cx p s m args meth c cX12_copy RX12 7 (some .int) dC dI ad bd cI cZ) {H : Heap} {locs : List Loc} {ls : Array Slot} (Y : Ys s dC dI ad bd cI cZ C D H locs) (hl : lv_has ls 7 [(0, .ref (bd 0))]) (h : B_X12_copy_111 D = some (r9, D9)) : W p l e rm_X12_copy s m args below meth c H locs 0 0 (MQ below (QC (some (.int r9)) dC dI ad bd cI cZ C D9) args s 0 0 (AD ad bd)) (F0 m 111 ls []) := by
  have hx := X.1
  have hb := X.2.1
  unfold B_X12_copy_111 at h
  refine lv_aload_n (pc := 111) hx hb dX12_copy_111 rfl (lv_at hl 0 rfl) ?_
  refine lv_iconst (pc := 112) (v := 2) hx hb dX12_copy_112 (by decide) ?_
  obtain ⟨r_113, D_113, e_113, h⟩ := bnd2_s h
  refine call_vi (pc := 113) (rest := []) [.int 2] X Y (c_X12_meets 2 e_113) sw_X12_134 (rv_X12 X Y) rfl ⟨rfl, rfl, Nat.le_of_ble_eq_true rfl, Nat.le_of_ble_eq_true rfl⟩ hl rfl (Nat.le_of_ble_eq_true rfl) dX12_copy_113 (fun H locs Y => ?_)
  obtain ⟨hr9, hm9⟩ := ret_e h
  exact fin_i (pc := 116) X rfl Y hr9 rfl hm9 dX12_copy_116
set_option maxHeartbeats 4000000 in
set_option maxRecDepth 100000 in
theorem WL_X12_copy_120 {r9 : Int32} {D9 : Mem} (v1 : Int32) (v2 : Int32) (v3 : Int32) (v4 : Int32) (v5 : Int32) (X : Cx p s m args meth c cX12_copy RX12 7 (some .int) dC dI ad bd cI cZ) {kx : Mem → Option (Int32 × Mem)} (hkx : ∀ (D' : Mem) (H : Heap) (locs : List Loc) (ls : Array Slot), Ys s dC dI ad bd cI cZ C D' H locs → lv_has ls 7 [(0, .ref (bd 0)), (3, .int v3), (4, .int v4), (5, .int v5)] → kx D' = some (r9, D9) → W p l e rm_X12_copy s m args below meth c H locs 0 0 (MQ below (QC (some (.int r9)) dC dI ad bd cI cZ C D9) args s 0 0 (AD ad bd)) (F0 m 154 ls [])) : ∀ (n_ : Nat) (v6 : Int32) (D : Mem) (H : Heap) (locs : List Loc) (ls : Array Slot), Ys s dC dI ad bd cI cZ C D H locs → lv_has ls 7 [(0, .ref (bd 0)), (1, .int v1), (2, .int v2), (3, .int v3), (4, .int v4), (5, .int v5), (6, .int v6)] → L_X12_copy_120 v1 v2 v5 kx n_ v6 D = some (r9, D9) → W p l e rm_X12_copy s m args below meth c H locs 0 0 (MQ below (QC (some (.int r9)) dC dI ad bd cI cZ C D9) args s 0 0 (AD ad bd)) (F0 m 120 ls []) := by
  have hx := X.1
  have hb := X.2.1
  intro n_
  induction n_ with
  | zero =>
    intro v6 D H locs ls Y hl h
    cases h
  | succ n_ ih =>
    intro v6 D H locs ls Y hl h
    unfold L_X12_copy_120 at h
    refine lv_iload (pc := 120) hx hb dX12_copy_120 (lv_at hl 6 rfl) ?_
    refine lv_iload (pc := 122) hx hb dX12_copy_122 (lv_at hl 5 rfl) ?_
    refine lv_icmp_ge (pc := 124) (tgt := 154) hx hb dX12_copy_124 (by decide) (fun c_124 => ?_) (fun c_124 => ?_)
    · have h := itp c_124 h
      exact hkx D H locs ls Y (lv_sub hl [0, 3, 4, 5] rfl) h
    · have h := itn c_124 h
      refine lv_aload_n (pc := 127) hx hb dX12_copy_127 rfl (lv_at hl 0 rfl) ?_
      refine gf_X12_102 (pc := 128) X Y dX12_copy_128 ?_
      refine lv_iload (pc := 131) hx hb dX12_copy_131 (lv_at hl 6 rfl) ?_
      refine lv_aload_n (pc := 133) hx hb dX12_copy_133 rfl (lv_at hl 0 rfl) ?_
      refine gf_X12_99 (pc := 134) X Y dX12_copy_134 ?_
      refine lv_bipush (pc := 137) (v := 48) hx hb dX12_copy_137 (by decide) ?_
      refine lv_iload_n (pc := 139) hx hb dX12_copy_139 rfl (lv_at hl 1 rfl) ?_
      refine lv_imul (pc := 140) hx hb dX12_copy_140 ?_
      refine lv_iload_n (pc := 141) hx hb dX12_copy_141 rfl (lv_at hl 2 rfl) ?_
      refine lv_iadd (pc := 142) hx hb dX12_copy_142 ?_
      refine lv_iload (pc := 143) hx hb dX12_copy_143 (lv_at hl 6 rfl) ?_
      refine lv_iadd (pc := 145) hx hb dX12_copy_145 ?_
      obtain ⟨g_146, h⟩ := gd_s h
      refine r_ialdm (pc := 146) X Y (cm_29 bd cI cZ) g_146 dX12_copy_146 ?_
      obtain ⟨g_147, h⟩ := gd_s h
      obtain ⟨D_147, hD_147, h⟩ := sto_s h
      refine r_iastm (pc := 147) X Y (cm_30 bd cI cZ) g_147 hD_147 dX12_copy_147 (fun H locs Y => ?_)
      obtain ⟨v6_148, ev6_148, h⟩ := lt_s_ h
      refine lv_iinc (pc := 148) (v := v6_148) (lv' := [(6, .int v6_148), (0, .ref (bd 0)), (1, .int v1), (2, .int v2), (3, .int v3), (4, .int v4), (5, .int v5)]) hx hb dX12_copy_148 hl (k := 6) rfl (by rw [ev6_148]; rfl) (by decide) rfl (fun ls hl => ?_)
      refine lv_goto (pc := 151) (tgt := 120) hx hb dX12_copy_151 (by decide) ?_
      exact ih v6_148 D_147 H locs ls Y (lv_sub hl [1, 2, 3, 4, 5, 6, 0] rfl) h
set_option maxHeartbeats 4000000 in
set_option maxRecDepth 100000 in
theorem WL_X12_copy_157 {r9 : Int32} {D9 : Mem} (v3 : Int32) (v4 : Int32) (v5 : Int32) (X : Cx p s m args meth c cX12_copy RX12 7 (some .int) dC dI ad bd cI cZ) {kx : Mem → Option (Int32 × Mem)} (hkx : ∀ (D' : Mem) (H : Heap) (locs : List Loc) (ls : Array Slot), Ys s dC dI ad bd cI cZ C D' H locs → lv_has ls 7 [] → kx D' = some (r9, D9) → W p l e rm_X12_copy s m args below meth c H locs 0 0 (MQ below (QC (some (.int r9)) dC dI ad bd cI cZ C D9) args s 0 0 (AD ad bd)) (F0 m 192 ls [])) : ∀ (n_ : Nat) (v6 : Int32) (D : Mem) (H : Heap) (locs : List Loc) (ls : Array Slot), Ys s dC dI ad bd cI cZ C D H locs → lv_has ls 7 [(0, .ref (bd 0)), (3, .int v3), (4, .int v4), (5, .int v5), (6, .int v6)] → L_X12_copy_157 v3 v4 v5 kx n_ v6 D = some (r9, D9) → W p l e rm_X12_copy s m args below meth c H locs 0 0 (MQ below (QC (some (.int r9)) dC dI ad bd cI cZ C D9) args s 0 0 (AD ad bd)) (F0 m 157 ls []) := by
  have hx := X.1
  have hb := X.2.1
  intro n_
  induction n_ with
  | zero =>
    intro v6 D H locs ls Y hl h
    cases h
  | succ n_ ih =>
    intro v6 D H locs ls Y hl h
    unfold L_X12_copy_157 at h
    refine lv_iload (pc := 157) hx hb dX12_copy_157 (lv_at hl 4 rfl) ?_
    refine lv_iload (pc := 159) hx hb dX12_copy_159 (lv_at hl 3 rfl) ?_
    refine lv_icmp_ge (pc := 161) (tgt := 192) hx hb dX12_copy_161 (by decide) (fun c_161 => ?_) (fun c_161 => ?_)
    · have h := itp c_161 h
      exact hkx D H locs ls Y (lv_sub hl [] rfl) h
    · have h := itn c_161 h
      refine lv_aload_n (pc := 164) hx hb dX12_copy_164 rfl (lv_at hl 0 rfl) ?_
      refine gf_X12_99 (pc := 165) X Y dX12_copy_165 ?_
      refine lv_bipush (pc := 168) (v := 48) hx hb dX12_copy_168 (by decide) ?_
      refine lv_iload_n (pc := 170) hx hb dX12_copy_170 rfl (lv_at hl 1 rfl) ?_
      refine lv_imul (pc := 171) hx hb dX12_copy_171 ?_
      refine lv_iload (pc := 172) hx hb dX12_copy_172 (lv_at hl 2 rfl) ?_
      refine lv_iadd (pc := 174) hx hb dX12_copy_174 ?_
      refine lv_iload (pc := 175) hx hb dX12_copy_175 (lv_at hl 4 rfl) ?_
      refine lv_iadd (pc := 177) hx hb dX12_copy_177 ?_
      refine lv_aload_n (pc := 178) hx hb dX12_copy_178 rfl (lv_at hl 0 rfl) ?_
      refine gf_X12_102 (pc := 179) X Y dX12_copy_179 ?_
      refine lv_iload (pc := 182) hx hb dX12_copy_182 (lv_at hl 4 rfl) ?_
      obtain ⟨g_184, h⟩ := gd_s h
      refine r_ialdm (pc := 184) X Y (cm_30 bd cI cZ) g_184 dX12_copy_184 ?_
      obtain ⟨g_185, h⟩ := gd_s h
      obtain ⟨D_185, hD_185, h⟩ := sto_s h
      refine r_iastm (pc := 185) X Y (cm_29 bd cI cZ) g_185 hD_185 dX12_copy_185 (fun H locs Y => ?_)
      obtain ⟨v6_186, ev6_186, h⟩ := lt_s_ h
      refine lv_iinc (pc := 186) (v := v6_186) (lv' := [(6, .int v6_186), (0, .ref (bd 0)), (3, .int v3), (4, .int v4), (5, .int v5)]) hx hb dX12_copy_186 hl (k := 4) rfl (by rw [ev6_186]; rfl) (by decide) rfl (fun ls hl => ?_)
      refine lv_goto (pc := 189) (tgt := 157) hx hb dX12_copy_189 (by decide) ?_
      exact ih v6_186 D_185 H locs ls Y (lv_sub hl [1, 2, 3, 4, 0] rfl) h
set_option maxHeartbeats 4000000 in
set_option maxRecDepth 100000 in
theorem c_X12_copy {r9 : Int32} {D9 : Mem} (v1 : Int32) (v2 : Int32) (v3 : Int32) (v4 : Int32) (v5 : Int32) (h : f_X12_copy v1 v2 v3 v4 v5 D = some (r9, D9)) : Ct l dC dI ad bd cI cZ yX12_copy cX12_copy 7 (some .int) rm_X12_copy [.ref (bd 0), .int v1, .int v2, .int v3, .int v4, .int v5] C D (some (.int r9)) C D9 := by
  unfold f_X12_copy at h
  refine Ct.intro (own := RX12) (by decide) rfl (Nat.le_of_ble_eq_true rfl) ?_
  intro p e s m args below meth c H locs ls X Y hl
  have hx := X.1
  have hb := X.2.1
  have hl : lv_has ls 7 [(0, .ref (bd 0)), (1, .int v1), (2, .int v2), (3, .int v3), (4, .int v4), (5, .int v5)] := hl
  refine lv_iload_n (pc := 0) hx hb dX12_copy_0 rfl (lv_at hl 1 rfl) ?_
  refine call_si (pc := 1) (rest := []) [.int v1] X Y (c_X12_isSheet v1) sw_X12_131 rfl ⟨rfl, rfl, Nat.le_of_ble_eq_true rfl, Nat.le_of_ble_eq_true rfl⟩ hl rfl (Nat.le_of_ble_eq_true rfl) dX12_copy_1 (fun H locs Y => ?_)
  refine lv_if_eq (pc := 4) (tgt := 14) hx hb dX12_copy_4 (by decide) (fun c_4 => ?_) (fun c_4 => ?_)
  · have h := itn (b2i_f c_4) h
    refine lv_bipush (pc := 14) (v := (-2)) hx hb dX12_copy_14 (by decide) ?_
    obtain ⟨hr9, hm9⟩ := ret_e h
    exact fin_i (pc := 16) X rfl Y hr9 rfl hm9 dX12_copy_16
  · have h := itp (b2i_t c_4) h
    refine lv_iload_n (pc := 7) hx hb dX12_copy_7 rfl (lv_at hl 3 rfl) ?_
    refine call_si (pc := 8) (rest := []) [.int v3] X Y (c_X12_isSheet v3) sw_X12_131 rfl ⟨rfl, rfl, Nat.le_of_ble_eq_true rfl, Nat.le_of_ble_eq_true rfl⟩ hl rfl (Nat.le_of_ble_eq_true rfl) dX12_copy_8 (fun H locs Y => ?_)
    refine lv_if_ne (pc := 11) (tgt := 17) hx hb dX12_copy_11 (by decide) (fun c_11 => ?_) (fun c_11 => ?_)
    · have h := itp (b2i_t c_11) h
      refine lv_aload_n (pc := 17) hx hb dX12_copy_17 rfl (lv_at hl 0 rfl) ?_
      refine gf_X12_89 (pc := 18) X Y dX12_copy_18 ?_
      refine lv_iload_n (pc := 21) hx hb dX12_copy_21 rfl (lv_at hl 1 rfl) ?_
      obtain ⟨g_22, h⟩ := gd_s h
      refine r_zaldm (pc := 22) X Y (cm_26 bd cI cZ) g_22 dX12_copy_22 ?_
      refine lv_if_eq (pc := 23) (tgt := 35) hx hb dX12_copy_23 (by decide) (fun c_23 => ?_) (fun c_23 => ?_)
      · have h := itp c_23 h
        exact WB_X12_copy_35  D X Y (lv_sub hl [0] rfl) h
      · have h := itn c_23 h
        refine lv_aload_n (pc := 26) hx hb dX12_copy_26 rfl (lv_at hl 0 rfl) ?_
        refine gf_X12_89 (pc := 27) X Y dX12_copy_27 ?_
        refine lv_iload_n (pc := 30) hx hb dX12_copy_30 rfl (lv_at hl 3 rfl) ?_
        obtain ⟨g_31, h⟩ := gd_s h
        refine r_zaldm (pc := 31) X Y (cm_26 bd cI cZ) g_31 dX12_copy_31 ?_
        refine lv_if_ne (pc := 32) (tgt := 41) hx hb dX12_copy_32 (by decide) (fun c_32 => ?_) (fun c_32 => ?_)
        · have h := itn c_32 h
          refine lv_aload_n (pc := 41) hx hb dX12_copy_41 rfl (lv_at hl 0 rfl) ?_
          refine gf_X12_93 (pc := 42) X Y dX12_copy_42 ?_
          refine lv_iload_n (pc := 45) hx hb dX12_copy_45 rfl (lv_at hl 1 rfl) ?_
          obtain ⟨g_46, h⟩ := gd_s h
          refine r_ialdm (pc := 46) X Y (cm_27 bd cI cZ) g_46 dX12_copy_46 ?_
          refine lv_aload_n (pc := 47) hx hb dX12_copy_47 rfl (lv_at hl 0 rfl) ?_
          refine gf_X12_93 (pc := 48) X Y dX12_copy_48 ?_
          refine lv_iload_n (pc := 51) hx hb dX12_copy_51 rfl (lv_at hl 3 rfl) ?_
          obtain ⟨g_52, h⟩ := gd_s h
          refine r_ialdm (pc := 52) X Y (cm_27 bd cI cZ) g_52 dX12_copy_52 ?_
          refine lv_icmp_eq (pc := 53) (tgt := 62) hx hb dX12_copy_53 (by decide) (fun c_53 => ?_) (fun c_53 => ?_)
          · have h := itp c_53 h
            refine lv_iload_n (pc := 62) hx hb dX12_copy_62 rfl (lv_at hl 2 rfl) ?_
            refine lv_if_lt (pc := 63) (tgt := 111) hx hb dX12_copy_63 (by decide) (fun c_63 => ?_) (fun c_63 => ?_)
            · have h := itp c_63 h
              exact WB_X12_copy_111  D X Y (lv_sub hl [0] rfl) h
            · have h := itn c_63 h
              refine lv_iload (pc := 66) hx hb dX12_copy_66 (lv_at hl 4 rfl) ?_
              refine lv_if_lt (pc := 68) (tgt := 111) hx hb dX12_copy_68 (by decide) (fun c_68 => ?_) (fun c_68 => ?_)
              · have h := itp c_68 h
                exact WB_X12_copy_111  D X Y (lv_sub hl [0] rfl) h
              · have h := itn c_68 h
                refine lv_iload (pc := 71) hx hb dX12_copy_71 (lv_at hl 5 rfl) ?_
                refine lv_if_lt (pc := 73) (tgt := 111) hx hb dX12_copy_73 (by decide) (fun c_73 => ?_) (fun c_73 => ?_)
                · have h := itp c_73 h
                  exact WB_X12_copy_111  D X Y (lv_sub hl [0] rfl) h
                · have h := itn c_73 h
                  refine lv_iload_n (pc := 76) hx hb dX12_copy_76 rfl (lv_at hl 2 rfl) ?_
                  refine lv_i2l (pc := 77) hx hb dX12_copy_77 rfl ?_
                  refine lv_iload (pc := 78) hx hb dX12_copy_78 (lv_at hl 5 rfl) ?_
                  refine lv_i2l (pc := 80) hx hb dX12_copy_80 rfl ?_
                  refine lv_ladd (pc := 81) hx hb dX12_copy_81 ?_
                  refine lv_aload_n (pc := 82) hx hb dX12_copy_82 rfl (lv_at hl 0 rfl) ?_
                  refine gf_X12_96 (pc := 83) X Y dX12_copy_83 ?_
                  refine lv_iload_n (pc := 86) hx hb dX12_copy_86 rfl (lv_at hl 1 rfl) ?_
                  obtain ⟨g_87, h⟩ := gd_s h
                  refine r_ialdm (pc := 87) X Y (cm_28 bd cI cZ) g_87 dX12_copy_87 ?_
                  refine lv_i2l (pc := 88) hx hb dX12_copy_88 rfl ?_
                  refine W.lcmp (pc := 89) hx hb dX12_copy_89 ?_
                  refine lv_if_gt (pc := 90) (tgt := 111) hx hb dX12_copy_90 (by decide) (fun c_90 => ?_) (fun c_90 => ?_)
                  · have h := itp c_90 h
                    exact WB_X12_copy_111  D X Y (lv_sub hl [0] rfl) h
                  · have h := itn c_90 h
                    refine lv_iload (pc := 93) hx hb dX12_copy_93 (lv_at hl 4 rfl) ?_
                    refine lv_i2l (pc := 95) hx hb dX12_copy_95 rfl ?_
                    refine lv_iload (pc := 96) hx hb dX12_copy_96 (lv_at hl 5 rfl) ?_
                    refine lv_i2l (pc := 98) hx hb dX12_copy_98 rfl ?_
                    refine lv_ladd (pc := 99) hx hb dX12_copy_99 ?_
                    refine lv_aload_n (pc := 100) hx hb dX12_copy_100 rfl (lv_at hl 0 rfl) ?_
                    refine gf_X12_96 (pc := 101) X Y dX12_copy_101 ?_
                    refine lv_iload_n (pc := 104) hx hb dX12_copy_104 rfl (lv_at hl 3 rfl) ?_
                    obtain ⟨g_105, h⟩ := gd_s h
                    refine r_ialdm (pc := 105) X Y (cm_28 bd cI cZ) g_105 dX12_copy_105 ?_
                    refine lv_i2l (pc := 106) hx hb dX12_copy_106 rfl ?_
                    refine W.lcmp (pc := 107) hx hb dX12_copy_107 ?_
                    refine lv_if_le (pc := 108) (tgt := 117) hx hb dX12_copy_108 (by decide) (fun c_108 => ?_) (fun c_108 => ?_)
                    · have h := itp c_108 h
                      refine lv_iconst (pc := 117) (v := 0) hx hb dX12_copy_117 (by decide) ?_
                      refine lv_istore (pc := 118) (lv' := [(6, .int 0), (0, .ref (bd 0)), (1, .int v1), (2, .int v2), (3, .int v3), (4, .int v4), (5, .int v5)]) hx hb dX12_copy_118 hl (by decide) rfl (fun ls hl => ?_)
                      refine WL_X12_copy_120 v1 v2 v3 v4 v5 X (fun D_154 H locs ls Y hl h => ?_) FU 0 D H locs ls Y (lv_sub hl [1, 2, 3, 4, 5, 6, 0] rfl) h
                      refine lv_iconst (pc := 154) (v := 0) hx hb dX12_copy_154 (by decide) ?_
                      refine lv_istore (pc := 155) (lv' := [(6, .int 0), (0, .ref (bd 0)), (3, .int v3), (4, .int v4), (5, .int v5)]) hx hb dX12_copy_155 hl (by decide) rfl (fun ls hl => ?_)
                      refine WL_X12_copy_157 v3 v4 v5 X (fun D_192 H locs ls Y hl h => ?_) FU 0 D_154 H locs ls Y (lv_sub hl [1, 2, 3, 4, 0] rfl) h
                      refine lv_iconst (pc := 192) (v := 1) hx hb dX12_copy_192 (by decide) ?_
                      obtain ⟨hr9, hm9⟩ := ret_e h
                      exact fin_i (pc := 193) X rfl Y hr9 rfl hm9 dX12_copy_193
                    · have h := itn c_108 h
                      exact WB_X12_copy_111  D X Y (lv_sub hl [0] rfl) h
          · have h := itn c_53 h
            refine lv_aload_n (pc := 56) hx hb dX12_copy_56 rfl (lv_at hl 0 rfl) ?_
            refine lv_iconst (pc := 57) (v := 4) hx hb dX12_copy_57 (by decide) ?_
            obtain ⟨r_58, D_58, e_58, h⟩ := bnd2_s h
            refine call_vi (pc := 58) (rest := []) [.int 4] X Y (c_X12_meets 4 e_58) sw_X12_134 (rv_X12 X Y) rfl ⟨rfl, rfl, Nat.le_of_ble_eq_true rfl, Nat.le_of_ble_eq_true rfl⟩ hl rfl (Nat.le_of_ble_eq_true rfl) dX12_copy_58 (fun H locs Y => ?_)
            obtain ⟨hr9, hm9⟩ := ret_e h
            exact fin_i (pc := 61) X rfl Y hr9 rfl hm9 dX12_copy_61
        · have h := itp c_32 h
          exact WB_X12_copy_35  D X Y (lv_sub hl [0] rfl) h
    · have h := itn (b2i_f c_11) h
      refine lv_bipush (pc := 14) (v := (-2)) hx hb dX12_copy_14 (by decide) ?_
      obtain ⟨hr9, hm9⟩ := ret_e h
      exact fin_i (pc := 16) X rfl Y hr9 rfl hm9 dX12_copy_16
abbrev rm_X12_write : Room := { frames := 2, cells := 0, slots := 0, locals := 44 }
set_option maxHeartbeats 4000000 in
set_option maxRecDepth 100000 in
theorem WB_X12_write_93 {r9 : Int32} {D9 : Mem} (v1 : Int32) (v2 : Int32) (v3 : Int32) (v4 : Int32) (v5 : Int32) (D : Mem) (X : Cx p s m args meth c cX12_write RX12 6 (some .int) dC dI ad bd cI cZ) {kb : Int32 → Int32 → Mem → Option (Int32 × Mem)} (hkb : ∀ (v4' : Int32) (v5' : Int32) (D' : Mem) (H : Heap) (locs : List Loc) (ls : Array Slot), Ys s dC dI ad bd cI cZ C D' H locs → lv_has ls 6 [(0, .ref (bd 0)), (1, .int v1), (2, .int v2), (3, .int v3), (4, .int v4'), (5, .int v5')] → kb v4' v5' D' = some (r9, D9) → W p l e rm_X12_write s m args below meth c H locs 0 0 (MQ below (QC (some (.int r9)) dC dI ad bd cI cZ C D9) args s 0 0 (AD ad bd)) (F0 m 45 ls [])) {H : Heap} {locs : List Loc} {ls : Array Slot} (Y : Ys s dC dI ad bd cI cZ C D H locs) (hl : lv_has ls 6 [(0, .ref (bd 0)), (1, .int v1), (2, .int v2), (3, .int v3), (4, .int v4), (5, .int v5)]) (h : B_X12_write_93 v4 v5 D kb = some (r9, D9)) : W p l e rm_X12_write s m args below meth c H locs 0 0 (MQ below (QC (some (.int r9)) dC dI ad bd cI cZ C D9) args s 0 0 (AD ad bd)) (F0 m 93 ls []) := by
  have hx := X.1
  have hb := X.2.1
  unfold B_X12_write_93 at h
  obtain ⟨v5_93, ev5_93, h⟩ := lt_s_ h
  refine lv_iinc (pc := 93) (v := v5_93) (lv' := [(5, .int v5_93), (0, .ref (bd 0)), (1, .int v1), (2, .int v2), (3, .int v3), (4, .int v4)]) hx hb dX12_write_93 hl (k := 5) rfl (by rw [ev5_93]; rfl) (by decide) rfl (fun ls hl => ?_)
  refine lv_goto (pc := 96) (tgt := 45) hx hb dX12_write_96 (by decide) ?_
  exact hkb v4 v5_93 D H locs ls Y (lv_sub hl [1, 2, 3, 4, 5, 0] rfl) h
set_option maxHeartbeats 4000000 in
set_option maxRecDepth 100000 in
theorem WL_X12_write_45 {r9 : Int32} {D9 : Mem} (v1 : Int32) (v2 : Int32) (v3 : Int32) (X : Cx p s m args meth c cX12_write RX12 6 (some .int) dC dI ad bd cI cZ) {kx : Int32 → Mem → Option (Int32 × Mem)} (hkx : ∀ (v4' : Int32) (D' : Mem) (H : Heap) (locs : List Loc) (ls : Array Slot), Ys s dC dI ad bd cI cZ C D' H locs → lv_has ls 6 [(4, .int v4')] → kx v4' D' = some (r9, D9) → W p l e rm_X12_write s m args below meth c H locs 0 0 (MQ below (QC (some (.int r9)) dC dI ad bd cI cZ C D9) args s 0 0 (AD ad bd)) (F0 m 99 ls [])) : ∀ (n_ : Nat) (v4 : Int32) (v5 : Int32) (D : Mem) (H : Heap) (locs : List Loc) (ls : Array Slot), Ys s dC dI ad bd cI cZ C D H locs → lv_has ls 6 [(0, .ref (bd 0)), (1, .int v1), (2, .int v2), (3, .int v3), (4, .int v4), (5, .int v5)] → L_X12_write_45 v1 v2 v3 kx n_ v4 v5 D = some (r9, D9) → W p l e rm_X12_write s m args below meth c H locs 0 0 (MQ below (QC (some (.int r9)) dC dI ad bd cI cZ C D9) args s 0 0 (AD ad bd)) (F0 m 45 ls []) := by
  have hx := X.1
  have hb := X.2.1
  intro n_
  induction n_ with
  | zero =>
    intro v4 v5 D H locs ls Y hl h
    cases h
  | succ n_ ih =>
    intro v4 v5 D H locs ls Y hl h
    unfold L_X12_write_45 at h
    refine lv_iload (pc := 45) hx hb dX12_write_45 (lv_at hl 5 rfl) ?_
    refine lv_aload_n (pc := 47) hx hb dX12_write_47 rfl (lv_at hl 0 rfl) ?_
    refine gf_X12_124 (pc := 48) X Y dX12_write_48 ?_
    refine lv_icmp_ge (pc := 51) (tgt := 99) hx hb dX12_write_51 (by decide) (fun c_51 => ?_) (fun c_51 => ?_)
    · have h := itp c_51 h
      exact hkx v4 D H locs ls Y (lv_sub hl [4] rfl) h
    · have h := itn c_51 h
      refine lv_iload (pc := 54) hx hb dX12_write_54 (lv_at hl 4 rfl) ?_
      refine lv_aload_n (pc := 56) hx hb dX12_write_56 rfl (lv_at hl 0 rfl) ?_
      refine gf_X12_96 (pc := 57) X Y dX12_write_57 ?_
      refine lv_iload_n (pc := 60) hx hb dX12_write_60 rfl (lv_at hl 3 rfl) ?_
      obtain ⟨g_61, h⟩ := gd_s h
      refine r_ialdm (pc := 61) X Y (cm_28 bd cI cZ) g_61 dX12_write_61 ?_
      refine lv_icmp_ge (pc := 62) (tgt := 99) hx hb dX12_write_62 (by decide) (fun c_62 => ?_) (fun c_62 => ?_)
      · have h := itp c_62 h
        exact hkx v4 D H locs ls Y (lv_sub hl [4] rfl) h
      · have h := itn c_62 h
        refine lv_aload_n (pc := 65) hx hb dX12_write_65 rfl (lv_at hl 0 rfl) ?_
        refine lv_iload (pc := 66) hx hb dX12_write_66 (lv_at hl 5 rfl) ?_
        refine lv_iload_n (pc := 68) hx hb dX12_write_68 rfl (lv_at hl 1 rfl) ?_
        refine lv_iload_n (pc := 69) hx hb dX12_write_69 rfl (lv_at hl 2 rfl) ?_
        obtain ⟨r_70, e_70, h⟩ := bnd_s h
        refine call_vi (pc := 70) (rest := []) [.int v5, .int v1, .int v2] X Y (c_X12_isOf v5 v1 v2 e_70) sw_X12_141 (rv_X12 X Y) rfl ⟨rfl, rfl, Nat.le_of_ble_eq_true rfl, Nat.le_of_ble_eq_true rfl⟩ hl rfl (Nat.le_of_ble_eq_true rfl) dX12_write_70 (fun H locs Y => ?_)
        refine lv_if_eq (pc := 73) (tgt := 93) hx hb dX12_write_73 (by decide) (fun c_73 => ?_) (fun c_73 => ?_)
        · have h := itn (b2i_f c_73) h
          exact WB_X12_write_93 v1 v2 v3 v4 v5 D X (kb := (L_X12_write_45 v1 v2 v3 kx n_)) ih Y (lv_sub hl [0, 1, 2, 3, 4, 5] rfl) h
        · have h := itp (b2i_t c_73) h
          refine lv_aload_n (pc := 76) hx hb dX12_write_76 rfl (lv_at hl 0 rfl) ?_
          refine lv_iload_n (pc := 77) hx hb dX12_write_77 rfl (lv_at hl 3 rfl) ?_
          refine lv_iload (pc := 78) hx hb dX12_write_78 (lv_at hl 4 rfl) ?_
          refine lv_aload_n (pc := 80) hx hb dX12_write_80 rfl (lv_at hl 0 rfl) ?_
          refine gf_X12_16 (pc := 81) X Y dX12_write_81 ?_
          refine lv_iload (pc := 84) hx hb dX12_write_84 (lv_at hl 5 rfl) ?_
          obtain ⟨g_86, h⟩ := gd_s h
          refine r_ialdm (pc := 86) X Y (cm_3 bd cI cZ) g_86 dX12_write_86 ?_
          obtain ⟨D_87, e_87, h⟩ := bnd_s h
          refine call_vv (pc := 87) (rest := []) [.int v3, .int v4, .int (D 3 v5.toNatClampNeg)] X Y (c_X12_keep v3 v4 (D 3 v5.toNatClampNeg) e_87) sw_X12_303 (rv_X12 X Y) rfl ⟨rfl, rfl, Nat.le_of_ble_eq_true rfl, Nat.le_of_ble_eq_true rfl⟩ hl rfl (Nat.le_of_ble_eq_true rfl) dX12_write_87 (fun H locs Y => ?_)
          obtain ⟨v4_90, ev4_90, h⟩ := lt_s_ h
          refine lv_iinc (pc := 90) (v := v4_90) (lv' := [(4, .int v4_90), (0, .ref (bd 0)), (1, .int v1), (2, .int v2), (3, .int v3), (5, .int v5)]) hx hb dX12_write_90 hl (k := 4) rfl (by rw [ev4_90]; rfl) (by decide) rfl (fun ls hl => ?_)
          exact WB_X12_write_93 v1 v2 v3 v4_90 v5 D_87 X (kb := (L_X12_write_45 v1 v2 v3 kx n_)) ih Y (lv_sub hl [1, 2, 3, 4, 0, 5] rfl) h
set_option maxHeartbeats 4000000 in
set_option maxRecDepth 100000 in
theorem c_X12_write {r9 : Int32} {D9 : Mem} (v1 : Int32) (v2 : Int32) (v3 : Int32) (h : f_X12_write v1 v2 v3 D = some (r9, D9)) : Ct l dC dI ad bd cI cZ yX12_write cX12_write 6 (some .int) rm_X12_write [.ref (bd 0), .int v1, .int v2, .int v3] C D (some (.int r9)) C D9 := by
  unfold f_X12_write at h
  refine Ct.intro (own := RX12) (by decide) rfl (Nat.le_of_ble_eq_true rfl) ?_
  intro p e s m args below meth c H locs ls X Y hl
  have hx := X.1
  have hb := X.2.1
  have hl : lv_has ls 6 [(0, .ref (bd 0)), (1, .int v1), (2, .int v2), (3, .int v3)] := hl
  refine lv_iload_n (pc := 0) hx hb dX12_write_0 rfl (lv_at hl 1 rfl) ?_
  refine call_si (pc := 1) (rest := []) [.int v1] X Y (c_X12_isAny v1) sw_X12_154 rfl ⟨rfl, rfl, Nat.le_of_ble_eq_true rfl, Nat.le_of_ble_eq_true rfl⟩ hl rfl (Nat.le_of_ble_eq_true rfl) dX12_write_1 (fun H locs Y => ?_)
  refine lv_if_eq (pc := 4) (tgt := 21) hx hb dX12_write_4 (by decide) (fun c_4 => ?_) (fun c_4 => ?_)
  · have h := itn (b2i_f c_4) h
    refine lv_bipush (pc := 21) (v := (-2)) hx hb dX12_write_21 (by decide) ?_
    obtain ⟨hr9, hm9⟩ := ret_e h
    exact fin_i (pc := 23) X rfl Y hr9 rfl hm9 dX12_write_23
  · have h := itp (b2i_t c_4) h
    refine lv_iload_n (pc := 7) hx hb dX12_write_7 rfl (lv_at hl 2 rfl) ?_
    refine call_si (pc := 8) (rest := []) [.int v2] X Y (c_X12_isKind v2) sw_X12_115 rfl ⟨rfl, rfl, Nat.le_of_ble_eq_true rfl, Nat.le_of_ble_eq_true rfl⟩ hl rfl (Nat.le_of_ble_eq_true rfl) dX12_write_8 (fun H locs Y => ?_)
    refine lv_if_eq (pc := 11) (tgt := 21) hx hb dX12_write_11 (by decide) (fun c_11 => ?_) (fun c_11 => ?_)
    · have h := itn (b2i_f c_11) h
      refine lv_bipush (pc := 21) (v := (-2)) hx hb dX12_write_21 (by decide) ?_
      obtain ⟨hr9, hm9⟩ := ret_e h
      exact fin_i (pc := 23) X rfl Y hr9 rfl hm9 dX12_write_23
    · have h := itp (b2i_t c_11) h
      refine lv_iload_n (pc := 14) hx hb dX12_write_14 rfl (lv_at hl 3 rfl) ?_
      refine call_si (pc := 15) (rest := []) [.int v3] X Y (c_X12_isSheet v3) sw_X12_131 rfl ⟨rfl, rfl, Nat.le_of_ble_eq_true rfl, Nat.le_of_ble_eq_true rfl⟩ hl rfl (Nat.le_of_ble_eq_true rfl) dX12_write_15 (fun H locs Y => ?_)
      refine lv_if_ne (pc := 18) (tgt := 24) hx hb dX12_write_18 (by decide) (fun c_18 => ?_) (fun c_18 => ?_)
      · have h := itp (b2i_t c_18) h
        refine lv_aload_n (pc := 24) hx hb dX12_write_24 rfl (lv_at hl 0 rfl) ?_
        refine gf_X12_89 (pc := 25) X Y dX12_write_25 ?_
        refine lv_iload_n (pc := 28) hx hb dX12_write_28 rfl (lv_at hl 3 rfl) ?_
        obtain ⟨g_29, h⟩ := gd_s h
        refine r_zaldm (pc := 29) X Y (cm_26 bd cI cZ) g_29 dX12_write_29 ?_
        refine lv_if_ne (pc := 30) (tgt := 39) hx hb dX12_write_30 (by decide) (fun c_30 => ?_) (fun c_30 => ?_)
        · have h := itn c_30 h
          refine lv_iconst (pc := 39) (v := 0) hx hb dX12_write_39 (by decide) ?_
          refine lv_istore (pc := 40) (lv' := [(4, .int 0), (0, .ref (bd 0)), (1, .int v1), (2, .int v2), (3, .int v3)]) hx hb dX12_write_40 hl (by decide) rfl (fun ls hl => ?_)
          refine lv_iconst (pc := 42) (v := 0) hx hb dX12_write_42 (by decide) ?_
          refine lv_istore (pc := 43) (lv' := [(5, .int 0), (4, .int 0), (0, .ref (bd 0)), (1, .int v1), (2, .int v2), (3, .int v3)]) hx hb dX12_write_43 hl (by decide) rfl (fun ls hl => ?_)
          refine WL_X12_write_45 v1 v2 v3 X (fun v4_99 D_99 H locs ls Y hl h => ?_) FU 0 0 D H locs ls Y (lv_sub hl [2, 3, 4, 5, 1, 0] rfl) h
          refine lv_iload (pc := 99) hx hb dX12_write_99 (lv_at hl 0 rfl) ?_
          obtain ⟨hr9, hm9⟩ := ret_e h
          exact fin_i (pc := 101) X rfl Y hr9 rfl hm9 dX12_write_101
        · have h := itp c_30 h
          refine lv_aload_n (pc := 33) hx hb dX12_write_33 rfl (lv_at hl 0 rfl) ?_
          refine lv_iconst (pc := 34) (v := 1) hx hb dX12_write_34 (by decide) ?_
          obtain ⟨r_35, D_35, e_35, h⟩ := bnd2_s h
          refine call_vi (pc := 35) (rest := []) [.int 1] X Y (c_X12_meets 1 e_35) sw_X12_134 (rv_X12 X Y) rfl ⟨rfl, rfl, Nat.le_of_ble_eq_true rfl, Nat.le_of_ble_eq_true rfl⟩ hl rfl (Nat.le_of_ble_eq_true rfl) dX12_write_35 (fun H locs Y => ?_)
          obtain ⟨hr9, hm9⟩ := ret_e h
          exact fin_i (pc := 38) X rfl Y hr9 rfl hm9 dX12_write_38
      · have h := itn (b2i_f c_18) h
        refine lv_bipush (pc := 21) (v := (-2)) hx hb dX12_write_21 (by decide) ?_
        obtain ⟨hr9, hm9⟩ := ret_e h
        exact fin_i (pc := 23) X rfl Y hr9 rfl hm9 dX12_write_23
abbrev rm_X12_knownMany : Room := { frames := 1, cells := 0, slots := 0, locals := 21 }
set_option maxHeartbeats 4000000 in
set_option maxRecDepth 100000 in
theorem WB_X12_knownMany_26 {r9 : Int32} (x0 : Int32) (x1 : Int32) (v2 : Int32) (D : Mem) (X : Cx p s m args meth c cX12_knownMany RX12 3 (some .int) dC dI ad bd cI cZ) {kb : Int32 → Int32 → Option Int32} (hkb : ∀ (v1' : Int32) (v2' : Int32) (H : Heap) (locs : List Loc) (ls : Array Slot), Ys s dC dI ad bd cI cZ C D H locs → lv_has ls 3 [(0, .ref (bd 0)), (1, .int v1'), (2, .int v2')] → kb v1' v2' = some r9 → W p l e rm_X12_knownMany s m args below meth c H locs 0 0 (MQ below (QC (some (.int r9)) dC dI ad bd cI cZ C D) args s 0 0 (AD ad bd)) (F0 m 4 ls [])) {H : Heap} {locs : List Loc} {ls : Array Slot} (Y : Ys s dC dI ad bd cI cZ C D H locs) (hl : lv_has ls 3 [(0, .ref (bd 0)), (2, .int v2)]) (h : B_X12_knownMany_26 x0 x1 v2 kb = some r9) : W p l e rm_X12_knownMany s m args below meth c H locs 0 0 (MQ below (QC (some (.int r9)) dC dI ad bd cI cZ C D) args s 0 0 (AD ad bd)) (F0 m 26 ls [.int x1, .int x0]) := by
  have hx := X.1
  have hb := X.2.1
  unfold B_X12_knownMany_26 at h
  refine lv_iadd (pc := 26) hx hb dX12_knownMany_26 ?_
  obtain ⟨v1_27, ev1_27, h⟩ := lt_s_ h
  refine top_i ev1_27 ?_
  refine lv_istore_n (pc := 27) (lv' := [(1, .int v1_27), (0, .ref (bd 0)), (2, .int v2)]) hx hb dX12_knownMany_27 rfl hl (by decide) rfl (fun ls hl => ?_)
  obtain ⟨v2_28, ev2_28, h⟩ := lt_s_ h
  refine lv_iinc (pc := 28) (v := v2_28) (lv' := [(2, .int v2_28), (1, .int v1_27), (0, .ref (bd 0))]) hx hb dX12_knownMany_28 hl (k := 2) rfl (by rw [ev2_28]; rfl) (by decide) rfl (fun ls hl => ?_)
  refine lv_goto (pc := 31) (tgt := 4) hx hb dX12_knownMany_31 (by decide) ?_
  exact hkb v1_27 v2_28 H locs ls Y (lv_sub hl [2, 1, 0] rfl) h
set_option maxHeartbeats 4000000 in
set_option maxRecDepth 100000 in
theorem WL_X12_knownMany_4 {r9 : Int32} (D : Mem) (X : Cx p s m args meth c cX12_knownMany RX12 3 (some .int) dC dI ad bd cI cZ) {kx : Int32 → Option Int32} (hkx : ∀ (v1' : Int32) (H : Heap) (locs : List Loc) (ls : Array Slot), Ys s dC dI ad bd cI cZ C D H locs → lv_has ls 3 [(1, .int v1')] → kx v1' = some r9 → W p l e rm_X12_knownMany s m args below meth c H locs 0 0 (MQ below (QC (some (.int r9)) dC dI ad bd cI cZ C D) args s 0 0 (AD ad bd)) (F0 m 34 ls [])) : ∀ (n_ : Nat) (v1 : Int32) (v2 : Int32) (H : Heap) (locs : List Loc) (ls : Array Slot), Ys s dC dI ad bd cI cZ C D H locs → lv_has ls 3 [(0, .ref (bd 0)), (1, .int v1), (2, .int v2)] → L_X12_knownMany_4 D kx n_ v1 v2 = some r9 → W p l e rm_X12_knownMany s m args below meth c H locs 0 0 (MQ below (QC (some (.int r9)) dC dI ad bd cI cZ C D) args s 0 0 (AD ad bd)) (F0 m 4 ls []) := by
  have hx := X.1
  have hb := X.2.1
  intro n_
  induction n_ with
  | zero =>
    intro v1 v2 H locs ls Y hl h
    cases h
  | succ n_ ih =>
    intro v1 v2 H locs ls Y hl h
    unfold L_X12_knownMany_4 at h
    refine lv_iload_n (pc := 4) hx hb dX12_knownMany_4 rfl (lv_at hl 2 rfl) ?_
    refine lv_aload_n (pc := 5) hx hb dX12_knownMany_5 rfl (lv_at hl 0 rfl) ?_
    refine gf_X12_124 (pc := 6) X Y dX12_knownMany_6 ?_
    refine lv_icmp_ge (pc := 9) (tgt := 34) hx hb dX12_knownMany_9 (by decide) (fun c_9 => ?_) (fun c_9 => ?_)
    · have h := itp c_9 h
      exact hkx v1 H locs ls Y (lv_sub hl [1] rfl) h
    · have h := itn c_9 h
      refine lv_iload_n (pc := 12) hx hb dX12_knownMany_12 rfl (lv_at hl 1 rfl) ?_
      refine lv_aload_n (pc := 13) hx hb dX12_knownMany_13 rfl (lv_at hl 0 rfl) ?_
      refine lv_iload_n (pc := 14) hx hb dX12_knownMany_14 rfl (lv_at hl 2 rfl) ?_
      obtain ⟨r_15, e_15, h⟩ := bnd_s h
      refine call_vi (pc := 15) (rest := [.int v1]) [.int v2] X Y (c_X12_counts v2 e_15) sw_X12_138 (rv_X12 X Y) rfl ⟨rfl, rfl, Nat.le_of_ble_eq_true rfl, Nat.le_of_ble_eq_true rfl⟩ hl rfl (Nat.le_of_ble_eq_true rfl) dX12_knownMany_15 (fun H locs Y => ?_)
      refine lv_if_eq (pc := 18) (tgt := 25) hx hb dX12_knownMany_18 (by decide) (fun c_18 => ?_) (fun c_18 => ?_)
      · have h := itn (b2i_f c_18) h
        refine lv_iconst (pc := 25) (v := 0) hx hb dX12_knownMany_25 (by decide) ?_
        exact WB_X12_knownMany_26 v1 0 v2 D X (kb := (L_X12_knownMany_4 D kx n_)) ih Y (lv_sub hl [0, 2] rfl) h
      · have h := itp (b2i_t c_18) h
        refine lv_iconst (pc := 21) (v := 1) hx hb dX12_knownMany_21 (by decide) ?_
        refine lv_goto (pc := 22) (tgt := 26) hx hb dX12_knownMany_22 (by decide) ?_
        exact WB_X12_knownMany_26 v1 1 v2 D X (kb := (L_X12_knownMany_4 D kx n_)) ih Y (lv_sub hl [0, 2] rfl) h
set_option maxHeartbeats 4000000 in
set_option maxRecDepth 100000 in
theorem c_X12_knownMany {r9 : Int32} (h : f_X12_knownMany D = some r9) : Ct l dC dI ad bd cI cZ yX12_knownMany cX12_knownMany 3 (some .int) rm_X12_knownMany [.ref (bd 0)] C D (some (.int r9)) C D := by
  unfold f_X12_knownMany at h
  refine Ct.intro (own := RX12) (by decide) rfl (Nat.le_of_ble_eq_true rfl) ?_
  intro p e s m args below meth c H locs ls X Y hl
  have hx := X.1
  have hb := X.2.1
  have hl : lv_has ls 3 [(0, .ref (bd 0))] := hl
  refine lv_iconst (pc := 0) (v := 0) hx hb dX12_knownMany_0 (by decide) ?_
  refine lv_istore_n (pc := 1) (lv' := [(1, .int 0), (0, .ref (bd 0))]) hx hb dX12_knownMany_1 rfl hl (by decide) rfl (fun ls hl => ?_)
  refine lv_iconst (pc := 2) (v := 0) hx hb dX12_knownMany_2 (by decide) ?_
  refine lv_istore_n (pc := 3) (lv' := [(2, .int 0), (1, .int 0), (0, .ref (bd 0))]) hx hb dX12_knownMany_3 rfl hl (by decide) rfl (fun ls hl => ?_)
  refine WL_X12_knownMany_4 D X (fun v1_34 H locs ls Y hl h => ?_) FU 0 0 H locs ls Y (lv_sub hl [2, 1, 0] rfl) h
  refine lv_iload_n (pc := 34) hx hb dX12_knownMany_34 rfl (lv_at hl 0 rfl) ?_
  have hr9 := ret_p h
  exact fin_i (pc := 35) X rfl Y hr9 rfl rfl dX12_knownMany_35
abbrev rm_X12_count : Room := { frames := 2, cells := 0, slots := 0, locals := 43 }
set_option maxHeartbeats 4000000 in
set_option maxRecDepth 100000 in
theorem c_X12_count {r9 : Int32} (v1 : Int32) (h : f_X12_count v1 D = some r9) : Ct l dC dI ad bd cI cZ yX12_count cX12_count 2 (some .int) rm_X12_count [.ref (bd 0), .int v1] C D (some (.int r9)) C D := by
  unfold f_X12_count at h
  refine Ct.intro (own := RX12) (by decide) rfl (Nat.le_of_ble_eq_true rfl) ?_
  intro p e s m args below meth c H locs ls X Y hl
  have hx := X.1
  have hb := X.2.1
  have hl : lv_has ls 2 [(0, .ref (bd 0)), (1, .int v1)] := hl
  refine lv_iload_n (pc := 0) hx hb dX12_count_0 rfl (lv_at hl 1 rfl) ?_
  by_cases c_1_0 : v1 = 0
  · have h := itp c_1_0 h
    refine lv_tableIn (pc := 1) (tgt := 52) hx hb dX12_count_1 (by rw [c_1_0]; decide) (by rw [c_1_0]; decide) (by first | (rw [c_1_0]; done) | (rw [c_1_0]; rfl)) (by decide) ?_
    refine lv_aload_n (pc := 52) hx hb dX12_count_52 rfl (lv_at hl 0 rfl) ?_
    refine gf_X12_124 (pc := 53) X Y dX12_count_53 ?_
    have hr9 := ret_p h
    exact fin_i (pc := 56) X rfl Y hr9 rfl rfl dX12_count_56
  have h := itn c_1_0 h
  by_cases c_1_1 : v1 = 1
  · have h := itp c_1_1 h
    refine lv_tableIn (pc := 1) (tgt := 57) hx hb dX12_count_1 (by rw [c_1_1]; decide) (by rw [c_1_1]; decide) (by first | (rw [c_1_1]; done) | (rw [c_1_1]; rfl)) (by decide) ?_
    refine lv_aload_n (pc := 57) hx hb dX12_count_57 rfl (lv_at hl 0 rfl) ?_
    obtain ⟨r_58, e_58, h⟩ := bnd_s h
    refine call_vi (pc := 58) (rest := []) [] X Y (c_X12_knownMany  e_58) sw_X12_308 (rv_X12 X Y) rfl ⟨rfl, rfl, Nat.le_of_ble_eq_true rfl, Nat.le_of_ble_eq_true rfl⟩ hl rfl (Nat.le_of_ble_eq_true rfl) dX12_count_58 (fun H locs Y => ?_)
    have hr9 := ret_p h
    exact fin_i (pc := 61) X rfl Y hr9 rfl rfl dX12_count_61
  have h := itn c_1_1 h
  by_cases c_1_2 : v1 = 2
  · have h := itp c_1_2 h
    refine lv_tableIn (pc := 1) (tgt := 62) hx hb dX12_count_1 (by rw [c_1_2]; decide) (by rw [c_1_2]; decide) (by first | (rw [c_1_2]; done) | (rw [c_1_2]; rfl)) (by decide) ?_
    refine lv_aload_n (pc := 62) hx hb dX12_count_62 rfl (lv_at hl 0 rfl) ?_
    refine gf_X12_176 (pc := 63) X Y dX12_count_63 ?_
    have hr9 := ret_p h
    exact fin_i (pc := 66) X rfl Y hr9 rfl rfl dX12_count_66
  have h := itn c_1_2 h
  by_cases c_1_3 : v1 = 3
  · have h := itp c_1_3 h
    refine lv_tableIn (pc := 1) (tgt := 67) hx hb dX12_count_1 (by rw [c_1_3]; decide) (by rw [c_1_3]; decide) (by first | (rw [c_1_3]; done) | (rw [c_1_3]; rfl)) (by decide) ?_
    refine lv_aload_n (pc := 67) hx hb dX12_count_67 rfl (lv_at hl 0 rfl) ?_
    refine gf_X12_195 (pc := 68) X Y dX12_count_68 ?_
    have hr9 := ret_p h
    exact fin_i (pc := 71) X rfl Y hr9 rfl rfl dX12_count_71
  have h := itn c_1_3 h
  by_cases c_1_4 : v1 = 4
  · have h := itp c_1_4 h
    refine lv_tableIn (pc := 1) (tgt := 72) hx hb dX12_count_1 (by rw [c_1_4]; decide) (by rw [c_1_4]; decide) (by first | (rw [c_1_4]; done) | (rw [c_1_4]; rfl)) (by decide) ?_
    refine lv_aload_n (pc := 72) hx hb dX12_count_72 rfl (lv_at hl 0 rfl) ?_
    refine gf_X12_209 (pc := 73) X Y dX12_count_73 ?_
    have hr9 := ret_p h
    exact fin_i (pc := 76) X rfl Y hr9 rfl rfl dX12_count_76
  have h := itn c_1_4 h
  by_cases c_1_5 : v1 = 5
  · have h := itp c_1_5 h
    refine lv_tableIn (pc := 1) (tgt := 77) hx hb dX12_count_1 (by rw [c_1_5]; decide) (by rw [c_1_5]; decide) (by first | (rw [c_1_5]; done) | (rw [c_1_5]; rfl)) (by decide) ?_
    refine lv_aload_n (pc := 77) hx hb dX12_count_77 rfl (lv_at hl 0 rfl) ?_
    refine gf_X12_251 (pc := 78) X Y dX12_count_78 ?_
    have hr9 := ret_p h
    exact fin_i (pc := 81) X rfl Y hr9 rfl rfl dX12_count_81
  have h := itn c_1_5 h
  by_cases c_1_6 : v1 = 6
  · have h := itp c_1_6 h
    refine lv_tableIn (pc := 1) (tgt := 82) hx hb dX12_count_1 (by rw [c_1_6]; decide) (by rw [c_1_6]; decide) (by first | (rw [c_1_6]; done) | (rw [c_1_6]; rfl)) (by decide) ?_
    refine lv_aload_n (pc := 82) hx hb dX12_count_82 rfl (lv_at hl 0 rfl) ?_
    refine gf_X12_282 (pc := 83) X Y dX12_count_83 ?_
    have hr9 := ret_p h
    exact fin_i (pc := 86) X rfl Y hr9 rfl rfl dX12_count_86
  have h := itn c_1_6 h
  by_cases c_1_7 : v1 = 7
  · have h := itp c_1_7 h
    refine lv_tableIn (pc := 1) (tgt := 87) hx hb dX12_count_1 (by rw [c_1_7]; decide) (by rw [c_1_7]; decide) (by first | (rw [c_1_7]; done) | (rw [c_1_7]; rfl)) (by decide) ?_
    refine lv_aload_n (pc := 87) hx hb dX12_count_87 rfl (lv_at hl 0 rfl) ?_
    refine gf_X12_28 (pc := 88) X Y dX12_count_88 ?_
    have hr9 := ret_p h
    exact fin_i (pc := 91) X rfl Y hr9 rfl rfl dX12_count_91
  have h := itn c_1_7 h
  by_cases c_1_8 : v1 = 8
  · have h := itp c_1_8 h
    refine lv_tableIn (pc := 1) (tgt := 92) hx hb dX12_count_1 (by rw [c_1_8]; decide) (by rw [c_1_8]; decide) (by first | (rw [c_1_8]; done) | (rw [c_1_8]; rfl)) (by decide) ?_
    refine lv_aload_n (pc := 92) hx hb dX12_count_92 rfl (lv_at hl 0 rfl) ?_
    refine gf_X12_297 (pc := 93) X Y dX12_count_93 ?_
    have hr9 := ret_p h
    exact fin_i (pc := 96) X rfl Y hr9 rfl rfl dX12_count_96
  have h := itn c_1_8 h
  refine lv_tableOut (pc := 1) (tgt := 97) hx hb dX12_count_1 (by have z0 := lv_neT (a := 0) c_1_0 (by decide); have z1 := lv_neT (a := 1) c_1_1 (by decide); have z2 := lv_neT (a := 2) c_1_2 (by decide); have z3 := lv_neT (a := 3) c_1_3 (by decide); have z4 := lv_neT (a := 4) c_1_4 (by decide); have z5 := lv_neT (a := 5) c_1_5 (by decide); have z6 := lv_neT (a := 6) c_1_6 (by decide); have z7 := lv_neT (a := 7) c_1_7 (by decide); have z8 := lv_neT (a := 8) c_1_8 (by decide); omega) (by decide) ?_
  refine lv_bipush (pc := 97) (v := (-2)) hx hb dX12_count_97 (by decide) ?_
  have hr9 := ret_p h
  exact fin_i (pc := 99) X rfl Y hr9 rfl rfl dX12_count_99
abbrev rm_X12_digest : Room := { frames := 6, cells := 0, slots := 0, locals := 146 }
set_option maxHeartbeats 4000000 in
set_option maxRecDepth 100000 in
theorem WL_X12_digest_6 {r9 : Int64} {D9 : Mem} (D : Mem) (X : Cx p s m args meth c cX12_digest RX12 5 (some .long) dC dI ad bd cI cZ) {kx : Int64 → Option (Int64 × Mem)} (hkx : ∀ (v1' : Int64) (H : Heap) (locs : List Loc) (ls : Array Slot), Ys s dC dI ad bd cI cZ C D H locs → lv_has ls 5 [(0, .ref (bd 0)), (1, .long v1')] → kx v1' = some (r9, D9) → W p l e rm_X12_digest s m args below meth c H locs 0 0 (MQ below (QC (some (.long r9)) dC dI ad bd cI cZ C D9) args s 0 0 (AD ad bd)) (F0 m 31 ls [])) : ∀ (n_ : Nat) (v1 : Int64) (v3 : Int32) (H : Heap) (locs : List Loc) (ls : Array Slot), Ys s dC dI ad bd cI cZ C D H locs → lv_has ls 5 [(0, .ref (bd 0)), (1, .long v1), (3, .int v3)] → L_X12_digest_6 D kx n_ v1 v3 = some (r9, D9) → W p l e rm_X12_digest s m args below meth c H locs 0 0 (MQ below (QC (some (.long r9)) dC dI ad bd cI cZ C D9) args s 0 0 (AD ad bd)) (F0 m 6 ls []) := by
  have hx := X.1
  have hb := X.2.1
  intro n_
  induction n_ with
  | zero =>
    intro v1 v3 H locs ls Y hl h
    cases h
  | succ n_ ih =>
    intro v1 v3 H locs ls Y hl h
    unfold L_X12_digest_6 at h
    refine lv_iload_n (pc := 6) hx hb dX12_digest_6 rfl (lv_at hl 2 rfl) ?_
    refine lv_bipush (pc := 7) (v := 8) hx hb dX12_digest_7 (by decide) ?_
    refine lv_icmp_ge (pc := 9) (tgt := 31) hx hb dX12_digest_9 (by decide) (fun c_9 => ?_) (fun c_9 => ?_)
    · have h := itp c_9 h
      exact hkx v1 H locs ls Y (lv_sub hl [0, 1] rfl) h
    · have h := itn c_9 h
      refine lv_ldc2 (pc := 12) (v := 31) hx hb X.2.2.2.1 (X.2.2.2.2.1 _ w_9bad50a6e4) dX12_digest_12 ?_
      refine lv_lload_n (pc := 15) hx hb dX12_digest_15 rfl (lv_at hl 1 rfl) ?_
      refine lv_lmul (pc := 16) hx hb dX12_digest_16 ?_
      refine lv_aload_n (pc := 17) hx hb dX12_digest_17 rfl (lv_at hl 0 rfl) ?_
      refine lv_iload_n (pc := 18) hx hb dX12_digest_18 rfl (lv_at hl 2 rfl) ?_
      obtain ⟨r_19, e_19, h⟩ := bnd_s h
      refine call_vi (pc := 19) (rest := [.long (31 * v1)]) [.int v3] X Y (c_X12_count v3 e_19) sw_X12_315 (rv_X12 X Y) rfl ⟨rfl, rfl, Nat.le_of_ble_eq_true rfl, Nat.le_of_ble_eq_true rfl⟩ hl rfl (Nat.le_of_ble_eq_true rfl) dX12_digest_19 (fun H locs Y => ?_)
      refine lv_i2l (pc := 22) hx hb dX12_digest_22 rfl ?_
      refine lv_ladd (pc := 23) hx hb dX12_digest_23 ?_
      obtain ⟨v1_24, ev1_24, h⟩ := lt_s_ h
      refine top_l ev1_24 ?_
      refine lv_lstore_n (pc := 24) (lv' := [(1, .long v1_24), (0, .ref (bd 0)), (3, .int v3)]) hx hb dX12_digest_24 rfl hl (by decide) rfl (fun ls hl => ?_)
      obtain ⟨v3_25, ev3_25, h⟩ := lt_s_ h
      refine lv_iinc (pc := 25) (v := v3_25) (lv' := [(3, .int v3_25), (1, .long v1_24), (0, .ref (bd 0))]) hx hb dX12_digest_25 hl (k := 2) rfl (by rw [ev3_25]; rfl) (by decide) rfl (fun ls hl => ?_)
      refine lv_goto (pc := 28) (tgt := 6) hx hb dX12_digest_28 (by decide) ?_
      exact ih v1_24 v3_25 H locs ls Y (lv_sub hl [2, 1, 0] rfl) h
set_option maxHeartbeats 4000000 in
set_option maxRecDepth 100000 in
theorem WL_X12_digest_53 {r9 : Int64} {D9 : Mem} (v3 : Int32) (D : Mem) (X : Cx p s m args meth c cX12_digest RX12 5 (some .long) dC dI ad bd cI cZ) {kx : Int64 → Option (Int64 × Mem)} (hkx : ∀ (v1' : Int64) (H : Heap) (locs : List Loc) (ls : Array Slot), Ys s dC dI ad bd cI cZ C D H locs → lv_has ls 5 [(0, .ref (bd 0)), (1, .long v1'), (3, .int v3)] → kx v1' = some (r9, D9) → W p l e rm_X12_digest s m args below meth c H locs 0 0 (MQ below (QC (some (.long r9)) dC dI ad bd cI cZ C D9) args s 0 0 (AD ad bd)) (F0 m 97 ls [])) : ∀ (n_ : Nat) (v1 : Int64) (v4 : Int32) (H : Heap) (locs : List Loc) (ls : Array Slot), Ys s dC dI ad bd cI cZ C D H locs → lv_has ls 5 [(0, .ref (bd 0)), (1, .long v1), (3, .int v3), (4, .int v4)] → L_X12_digest_53 v3 D kx n_ v1 v4 = some (r9, D9) → W p l e rm_X12_digest s m args below meth c H locs 0 0 (MQ below (QC (some (.long r9)) dC dI ad bd cI cZ C D9) args s 0 0 (AD ad bd)) (F0 m 53 ls []) := by
  have hx := X.1
  have hb := X.2.1
  intro n_
  induction n_ with
  | zero =>
    intro v1 v4 H locs ls Y hl h
    cases h
  | succ n_ ih =>
    intro v1 v4 H locs ls Y hl h
    unfold L_X12_digest_53 at h
    refine lv_iload (pc := 53) hx hb dX12_digest_53 (lv_at hl 3 rfl) ?_
    refine lv_iconst (pc := 55) (v := 4) hx hb dX12_digest_55 (by decide) ?_
    refine lv_icmp_ge (pc := 56) (tgt := 97) hx hb dX12_digest_56 (by decide) (fun c_56 => ?_) (fun c_56 => ?_)
    · have h := itp c_56 h
      exact hkx v1 H locs ls Y (lv_sub hl [0, 1, 2] rfl) h
    · have h := itn c_56 h
      refine lv_ldc2 (pc := 59) (v := 31) hx hb X.2.2.2.1 (X.2.2.2.2.1 _ w_9bad50a6e4) dX12_digest_59 ?_
      refine lv_lload_n (pc := 62) hx hb dX12_digest_62 rfl (lv_at hl 1 rfl) ?_
      refine lv_lmul (pc := 63) hx hb dX12_digest_63 ?_
      refine lv_aload_n (pc := 64) hx hb dX12_digest_64 rfl (lv_at hl 0 rfl) ?_
      refine lv_iload_n (pc := 65) hx hb dX12_digest_65 rfl (lv_at hl 2 rfl) ?_
      refine lv_iload (pc := 66) hx hb dX12_digest_66 (lv_at hl 3 rfl) ?_
      refine lv_iconst (pc := 68) (v := 0) hx hb dX12_digest_68 (by decide) ?_
      obtain ⟨r_69, e_69, h⟩ := bnd_s h
      refine call_vi (pc := 69) (rest := [.long (31 * v1)]) [.int v3, .int v4, .int 0] X Y (c_X12_manyNow v3 v4 0 e_69) sw_X12_157 (rv_X12 X Y) rfl ⟨rfl, rfl, Nat.le_of_ble_eq_true rfl, Nat.le_of_ble_eq_true rfl⟩ hl rfl (Nat.le_of_ble_eq_true rfl) dX12_digest_69 (fun H locs Y => ?_)
      refine lv_i2l (pc := 72) hx hb dX12_digest_72 rfl ?_
      refine lv_ladd (pc := 73) hx hb dX12_digest_73 ?_
      obtain ⟨v1_74, ev1_74, h⟩ := lt_s_ h
      refine top_l ev1_74 ?_
      refine lv_lstore_n (pc := 74) (lv' := [(1, .long v1_74), (0, .ref (bd 0)), (3, .int v3), (4, .int v4)]) hx hb dX12_digest_74 rfl hl (by decide) rfl (fun ls hl => ?_)
      refine lv_ldc2 (pc := 75) (v := 31) hx hb X.2.2.2.1 (X.2.2.2.2.1 _ w_9bad50a6e4) dX12_digest_75 ?_
      refine lv_lload_n (pc := 78) hx hb dX12_digest_78 rfl (lv_at hl 0 rfl) ?_
      refine lv_lmul (pc := 79) hx hb dX12_digest_79 ?_
      refine lv_aload_n (pc := 80) hx hb dX12_digest_80 rfl (lv_at hl 1 rfl) ?_
      refine lv_iload_n (pc := 81) hx hb dX12_digest_81 rfl (lv_at hl 2 rfl) ?_
      refine lv_iload (pc := 82) hx hb dX12_digest_82 (lv_at hl 3 rfl) ?_
      refine lv_iconst (pc := 84) (v := 1) hx hb dX12_digest_84 (by decide) ?_
      obtain ⟨r_85, e_85, h⟩ := bnd_s h
      refine call_vi (pc := 85) (rest := [.long (31 * v1_74)]) [.int v3, .int v4, .int 1] X Y (c_X12_manyNow v3 v4 1 e_85) sw_X12_157 (rv_X12 X Y) rfl ⟨rfl, rfl, Nat.le_of_ble_eq_true rfl, Nat.le_of_ble_eq_true rfl⟩ hl rfl (Nat.le_of_ble_eq_true rfl) dX12_digest_85 (fun H locs Y => ?_)
      refine lv_i2l (pc := 88) hx hb dX12_digest_88 rfl ?_
      refine lv_ladd (pc := 89) hx hb dX12_digest_89 ?_
      obtain ⟨v1_90, ev1_90, h⟩ := lt_s_ h
      refine top_l ev1_90 ?_
      refine lv_lstore_n (pc := 90) (lv' := [(1, .long v1_90), (0, .ref (bd 0)), (3, .int v3), (4, .int v4)]) hx hb dX12_digest_90 rfl hl (by decide) rfl (fun ls hl => ?_)
      obtain ⟨v4_91, ev4_91, h⟩ := lt_s_ h
      refine lv_iinc (pc := 91) (v := v4_91) (lv' := [(4, .int v4_91), (1, .long v1_90), (0, .ref (bd 0)), (3, .int v3)]) hx hb dX12_digest_91 hl (k := 3) rfl (by rw [ev4_91]; rfl) (by decide) rfl (fun ls hl => ?_)
      refine lv_goto (pc := 94) (tgt := 53) hx hb dX12_digest_94 (by decide) ?_
      exact ih v1_90 v4_91 H locs ls Y (lv_sub hl [2, 1, 3, 0] rfl) h
set_option maxHeartbeats 4000000 in
set_option maxRecDepth 100000 in
theorem WL_X12_digest_45 {r9 : Int64} {D9 : Mem} (D : Mem) (X : Cx p s m args meth c cX12_digest RX12 5 (some .long) dC dI ad bd cI cZ) {kx : Int64 → Option (Int64 × Mem)} (hkx : ∀ (v1' : Int64) (H : Heap) (locs : List Loc) (ls : Array Slot), Ys s dC dI ad bd cI cZ C D H locs → lv_has ls 5 [(0, .ref (bd 0)), (1, .long v1')] → kx v1' = some (r9, D9) → W p l e rm_X12_digest s m args below meth c H locs 0 0 (MQ below (QC (some (.long r9)) dC dI ad bd cI cZ C D9) args s 0 0 (AD ad bd)) (F0 m 103 ls [])) : ∀ (n_ : Nat) (v1 : Int64) (v3 : Int32) (H : Heap) (locs : List Loc) (ls : Array Slot), Ys s dC dI ad bd cI cZ C D H locs → lv_has ls 5 [(0, .ref (bd 0)), (1, .long v1), (3, .int v3)] → L_X12_digest_45 D kx n_ v1 v3 = some (r9, D9) → W p l e rm_X12_digest s m args below meth c H locs 0 0 (MQ below (QC (some (.long r9)) dC dI ad bd cI cZ C D9) args s 0 0 (AD ad bd)) (F0 m 45 ls []) := by
  have hx := X.1
  have hb := X.2.1
  intro n_
  induction n_ with
  | zero =>
    intro v1 v3 H locs ls Y hl h
    cases h
  | succ n_ ih =>
    intro v1 v3 H locs ls Y hl h
    unfold L_X12_digest_45 at h
    refine lv_iload_n (pc := 45) hx hb dX12_digest_45 rfl (lv_at hl 2 rfl) ?_
    refine lv_iconst (pc := 46) (v := 4) hx hb dX12_digest_46 (by decide) ?_
    refine lv_icmp_ge (pc := 47) (tgt := 103) hx hb dX12_digest_47 (by decide) (fun c_47 => ?_) (fun c_47 => ?_)
    · have h := itp c_47 h
      exact hkx v1 H locs ls Y (lv_sub hl [0, 1] rfl) h
    · have h := itn c_47 h
      refine lv_iconst (pc := 50) (v := 0) hx hb dX12_digest_50 (by decide) ?_
      refine lv_istore (pc := 51) (lv' := [(4, .int 0), (0, .ref (bd 0)), (1, .long v1), (3, .int v3)]) hx hb dX12_digest_51 hl (by decide) rfl (fun ls hl => ?_)
      refine WL_X12_digest_53 v3 D X (fun v1_97 H locs ls Y hl h => ?_) FU v1 0 H locs ls Y (lv_sub hl [1, 2, 3, 0] rfl) h
      obtain ⟨v3_97, ev3_97, h⟩ := lt_s_ h
      refine lv_iinc (pc := 97) (v := v3_97) (lv' := [(3, .int v3_97), (0, .ref (bd 0)), (1, .long v1_97)]) hx hb dX12_digest_97 hl (k := 2) rfl (by rw [ev3_97]; rfl) (by decide) rfl (fun ls hl => ?_)
      refine lv_goto (pc := 100) (tgt := 45) hx hb dX12_digest_100 (by decide) ?_
      exact ih v1_97 v3_97 H locs ls Y (lv_sub hl [1, 2, 0] rfl) h
set_option maxHeartbeats 4000000 in
set_option maxRecDepth 100000 in
theorem WL_X12_digest_157 {r9 : Int64} {D9 : Mem} (v3 : Int32) (D : Mem) (X : Cx p s m args meth c cX12_digest RX12 5 (some .long) dC dI ad bd cI cZ) {kx : Int64 → Option (Int64 × Mem)} (hkx : ∀ (v1' : Int64) (H : Heap) (locs : List Loc) (ls : Array Slot), Ys s dC dI ad bd cI cZ C D H locs → lv_has ls 5 [(0, .ref (bd 0)), (1, .long v1'), (3, .int v3)] → kx v1' = some (r9, D9) → W p l e rm_X12_digest s m args below meth c H locs 0 0 (MQ below (QC (some (.long r9)) dC dI ad bd cI cZ C D9) args s 0 0 (AD ad bd)) (F0 m 184 ls [])) : ∀ (n_ : Nat) (v1 : Int64) (v4 : Int32) (H : Heap) (locs : List Loc) (ls : Array Slot), Ys s dC dI ad bd cI cZ C D H locs → lv_has ls 5 [(0, .ref (bd 0)), (1, .long v1), (3, .int v3), (4, .int v4)] → L_X12_digest_157 v3 D kx n_ v1 v4 = some (r9, D9) → W p l e rm_X12_digest s m args below meth c H locs 0 0 (MQ below (QC (some (.long r9)) dC dI ad bd cI cZ C D9) args s 0 0 (AD ad bd)) (F0 m 157 ls []) := by
  have hx := X.1
  have hb := X.2.1
  intro n_
  induction n_ with
  | zero =>
    intro v1 v4 H locs ls Y hl h
    cases h
  | succ n_ ih =>
    intro v1 v4 H locs ls Y hl h
    unfold L_X12_digest_157 at h
    refine lv_iload (pc := 157) hx hb dX12_digest_157 (lv_at hl 3 rfl) ?_
    refine lv_iconst (pc := 159) (v := 3) hx hb dX12_digest_159 (by decide) ?_
    refine lv_icmp_ge (pc := 160) (tgt := 184) hx hb dX12_digest_160 (by decide) (fun c_160 => ?_) (fun c_160 => ?_)
    · have h := itp c_160 h
      exact hkx v1 H locs ls Y (lv_sub hl [0, 1, 2] rfl) h
    · have h := itn c_160 h
      refine lv_ldc2 (pc := 163) (v := 31) hx hb X.2.2.2.1 (X.2.2.2.2.1 _ w_9bad50a6e4) dX12_digest_163 ?_
      refine lv_lload_n (pc := 166) hx hb dX12_digest_166 rfl (lv_at hl 1 rfl) ?_
      refine lv_lmul (pc := 167) hx hb dX12_digest_167 ?_
      refine lv_aload_n (pc := 168) hx hb dX12_digest_168 rfl (lv_at hl 0 rfl) ?_
      refine lv_iload_n (pc := 169) hx hb dX12_digest_169 rfl (lv_at hl 2 rfl) ?_
      refine lv_iload (pc := 170) hx hb dX12_digest_170 (lv_at hl 3 rfl) ?_
      obtain ⟨r_172, e_172, h⟩ := bnd_s h
      refine call_vi (pc := 172) (rest := [.long (31 * v1)]) [.int v3, .int v4] X Y (c_X12_lineNow v3 v4 e_172) sw_X12_183 (rv_X12 X Y) rfl ⟨rfl, rfl, Nat.le_of_ble_eq_true rfl, Nat.le_of_ble_eq_true rfl⟩ hl rfl (Nat.le_of_ble_eq_true rfl) dX12_digest_172 (fun H locs Y => ?_)
      refine lv_i2l (pc := 175) hx hb dX12_digest_175 rfl ?_
      refine lv_ladd (pc := 176) hx hb dX12_digest_176 ?_
      obtain ⟨v1_177, ev1_177, h⟩ := lt_s_ h
      refine top_l ev1_177 ?_
      refine lv_lstore_n (pc := 177) (lv' := [(1, .long v1_177), (0, .ref (bd 0)), (3, .int v3), (4, .int v4)]) hx hb dX12_digest_177 rfl hl (by decide) rfl (fun ls hl => ?_)
      obtain ⟨v4_178, ev4_178, h⟩ := lt_s_ h
      refine lv_iinc (pc := 178) (v := v4_178) (lv' := [(4, .int v4_178), (1, .long v1_177), (0, .ref (bd 0)), (3, .int v3)]) hx hb dX12_digest_178 hl (k := 3) rfl (by rw [ev4_178]; rfl) (by decide) rfl (fun ls hl => ?_)
      refine lv_goto (pc := 181) (tgt := 157) hx hb dX12_digest_181 (by decide) ?_
      exact ih v1_177 v4_178 H locs ls Y (lv_sub hl [2, 1, 3, 0] rfl) h
set_option maxHeartbeats 4000000 in
set_option maxRecDepth 100000 in
theorem WL_X12_digest_146 {r9 : Int64} {D9 : Mem} (D : Mem) (X : Cx p s m args meth c cX12_digest RX12 5 (some .long) dC dI ad bd cI cZ) {kx : Int64 → Option (Int64 × Mem)} (hkx : ∀ (v1' : Int64) (H : Heap) (locs : List Loc) (ls : Array Slot), Ys s dC dI ad bd cI cZ C D H locs → lv_has ls 5 [(0, .ref (bd 0)), (1, .long v1')] → kx v1' = some (r9, D9) → W p l e rm_X12_digest s m args below meth c H locs 0 0 (MQ below (QC (some (.long r9)) dC dI ad bd cI cZ C D9) args s 0 0 (AD ad bd)) (F0 m 190 ls [])) : ∀ (n_ : Nat) (v1 : Int64) (v3 : Int32) (H : Heap) (locs : List Loc) (ls : Array Slot), Ys s dC dI ad bd cI cZ C D H locs → lv_has ls 5 [(0, .ref (bd 0)), (1, .long v1), (3, .int v3)] → L_X12_digest_146 D kx n_ v1 v3 = some (r9, D9) → W p l e rm_X12_digest s m args below meth c H locs 0 0 (MQ below (QC (some (.long r9)) dC dI ad bd cI cZ C D9) args s 0 0 (AD ad bd)) (F0 m 146 ls []) := by
  have hx := X.1
  have hb := X.2.1
  intro n_
  induction n_ with
  | zero =>
    intro v1 v3 H locs ls Y hl h
    cases h
  | succ n_ ih =>
    intro v1 v3 H locs ls Y hl h
    unfold L_X12_digest_146 at h
    refine lv_iload_n (pc := 146) hx hb dX12_digest_146 rfl (lv_at hl 2 rfl) ?_
    refine lv_aload_n (pc := 147) hx hb dX12_digest_147 rfl (lv_at hl 0 rfl) ?_
    refine gf_X12_176 (pc := 148) X Y dX12_digest_148 ?_
    refine lv_icmp_ge (pc := 151) (tgt := 190) hx hb dX12_digest_151 (by decide) (fun c_151 => ?_) (fun c_151 => ?_)
    · have h := itp c_151 h
      exact hkx v1 H locs ls Y (lv_sub hl [0, 1] rfl) h
    · have h := itn c_151 h
      refine lv_iconst (pc := 154) (v := 0) hx hb dX12_digest_154 (by decide) ?_
      refine lv_istore (pc := 155) (lv' := [(4, .int 0), (0, .ref (bd 0)), (1, .long v1), (3, .int v3)]) hx hb dX12_digest_155 hl (by decide) rfl (fun ls hl => ?_)
      refine WL_X12_digest_157 v3 D X (fun v1_184 H locs ls Y hl h => ?_) FU v1 0 H locs ls Y (lv_sub hl [1, 2, 3, 0] rfl) h
      obtain ⟨v3_184, ev3_184, h⟩ := lt_s_ h
      refine lv_iinc (pc := 184) (v := v3_184) (lv' := [(3, .int v3_184), (0, .ref (bd 0)), (1, .long v1_184)]) hx hb dX12_digest_184 hl (k := 2) rfl (by rw [ev3_184]; rfl) (by decide) rfl (fun ls hl => ?_)
      refine lv_goto (pc := 187) (tgt := 146) hx hb dX12_digest_187 (by decide) ?_
      exact ih v1_184 v3_184 H locs ls Y (lv_sub hl [1, 2, 0] rfl) h
set_option maxHeartbeats 4000000 in
set_option maxRecDepth 100000 in
theorem WL_X12_digest_192 {r9 : Int64} {D9 : Mem} (D : Mem) (X : Cx p s m args meth c cX12_digest RX12 5 (some .long) dC dI ad bd cI cZ) {kx : Int64 → Option (Int64 × Mem)} (hkx : ∀ (v1' : Int64) (H : Heap) (locs : List Loc) (ls : Array Slot), Ys s dC dI ad bd cI cZ C D H locs → lv_has ls 5 [(0, .ref (bd 0)), (1, .long v1')] → kx v1' = some (r9, D9) → W p l e rm_X12_digest s m args below meth c H locs 0 0 (MQ below (QC (some (.long r9)) dC dI ad bd cI cZ C D9) args s 0 0 (AD ad bd)) (F0 m 219 ls [])) : ∀ (n_ : Nat) (v1 : Int64) (v3 : Int32) (H : Heap) (locs : List Loc) (ls : Array Slot), Ys s dC dI ad bd cI cZ C D H locs → lv_has ls 5 [(0, .ref (bd 0)), (1, .long v1), (3, .int v3)] → L_X12_digest_192 D kx n_ v1 v3 = some (r9, D9) → W p l e rm_X12_digest s m args below meth c H locs 0 0 (MQ below (QC (some (.long r9)) dC dI ad bd cI cZ C D9) args s 0 0 (AD ad bd)) (F0 m 192 ls []) := by
  have hx := X.1
  have hb := X.2.1
  intro n_
  induction n_ with
  | zero =>
    intro v1 v3 H locs ls Y hl h
    cases h
  | succ n_ ih =>
    intro v1 v3 H locs ls Y hl h
    unfold L_X12_digest_192 at h
    refine lv_iload_n (pc := 192) hx hb dX12_digest_192 rfl (lv_at hl 2 rfl) ?_
    refine lv_aload_n (pc := 193) hx hb dX12_digest_193 rfl (lv_at hl 0 rfl) ?_
    refine gf_X12_195 (pc := 194) X Y dX12_digest_194 ?_
    refine lv_icmp_ge (pc := 197) (tgt := 219) hx hb dX12_digest_197 (by decide) (fun c_197 => ?_) (fun c_197 => ?_)
    · have h := itp c_197 h
      exact hkx v1 H locs ls Y (lv_sub hl [0, 1] rfl) h
    · have h := itn c_197 h
      refine lv_ldc2 (pc := 200) (v := 31) hx hb X.2.2.2.1 (X.2.2.2.2.1 _ w_9bad50a6e4) dX12_digest_200 ?_
      refine lv_lload_n (pc := 203) hx hb dX12_digest_203 rfl (lv_at hl 1 rfl) ?_
      refine lv_lmul (pc := 204) hx hb dX12_digest_204 ?_
      refine lv_aload_n (pc := 205) hx hb dX12_digest_205 rfl (lv_at hl 0 rfl) ?_
      refine lv_iload_n (pc := 206) hx hb dX12_digest_206 rfl (lv_at hl 2 rfl) ?_
      obtain ⟨r_207, e_207, h⟩ := bnd_s h
      refine call_vi (pc := 207) (rest := [.long (31 * v1)]) [.int v3] X Y (c_X12_hisNow v3 e_207) sw_X12_201 (rv_X12 X Y) rfl ⟨rfl, rfl, Nat.le_of_ble_eq_true rfl, Nat.le_of_ble_eq_true rfl⟩ hl rfl (Nat.le_of_ble_eq_true rfl) dX12_digest_207 (fun H locs Y => ?_)
      refine lv_i2l (pc := 210) hx hb dX12_digest_210 rfl ?_
      refine lv_ladd (pc := 211) hx hb dX12_digest_211 ?_
      obtain ⟨v1_212, ev1_212, h⟩ := lt_s_ h
      refine top_l ev1_212 ?_
      refine lv_lstore_n (pc := 212) (lv' := [(1, .long v1_212), (0, .ref (bd 0)), (3, .int v3)]) hx hb dX12_digest_212 rfl hl (by decide) rfl (fun ls hl => ?_)
      obtain ⟨v3_213, ev3_213, h⟩ := lt_s_ h
      refine lv_iinc (pc := 213) (v := v3_213) (lv' := [(3, .int v3_213), (1, .long v1_212), (0, .ref (bd 0))]) hx hb dX12_digest_213 hl (k := 2) rfl (by rw [ev3_213]; rfl) (by decide) rfl (fun ls hl => ?_)
      refine lv_goto (pc := 216) (tgt := 192) hx hb dX12_digest_216 (by decide) ?_
      exact ih v1_212 v3_213 H locs ls Y (lv_sub hl [2, 1, 0] rfl) h
set_option maxHeartbeats 4000000 in
set_option maxRecDepth 100000 in
theorem WL_X12_digest_221 {r9 : Int64} {D9 : Mem} (X : Cx p s m args meth c cX12_digest RX12 5 (some .long) dC dI ad bd cI cZ) {kx : Int64 → Mem → Option (Int64 × Mem)} (hkx : ∀ (v1' : Int64) (D' : Mem) (H : Heap) (locs : List Loc) (ls : Array Slot), Ys s dC dI ad bd cI cZ C D' H locs → lv_has ls 5 [(0, .ref (bd 0)), (1, .long v1')] → kx v1' D' = some (r9, D9) → W p l e rm_X12_digest s m args below meth c H locs 0 0 (MQ below (QC (some (.long r9)) dC dI ad bd cI cZ C D9) args s 0 0 (AD ad bd)) (F0 m 247 ls [])) : ∀ (n_ : Nat) (v1 : Int64) (v3 : Int32) (D : Mem) (H : Heap) (locs : List Loc) (ls : Array Slot), Ys s dC dI ad bd cI cZ C D H locs → lv_has ls 5 [(0, .ref (bd 0)), (1, .long v1), (3, .int v3)] → L_X12_digest_221 kx n_ v1 v3 D = some (r9, D9) → W p l e rm_X12_digest s m args below meth c H locs 0 0 (MQ below (QC (some (.long r9)) dC dI ad bd cI cZ C D9) args s 0 0 (AD ad bd)) (F0 m 221 ls []) := by
  have hx := X.1
  have hb := X.2.1
  intro n_
  induction n_ with
  | zero =>
    intro v1 v3 D H locs ls Y hl h
    cases h
  | succ n_ ih =>
    intro v1 v3 D H locs ls Y hl h
    unfold L_X12_digest_221 at h
    refine lv_iload_n (pc := 221) hx hb dX12_digest_221 rfl (lv_at hl 2 rfl) ?_
    refine lv_bipush (pc := 222) (v := 6) hx hb dX12_digest_222 (by decide) ?_
    refine lv_icmp_ge (pc := 224) (tgt := 247) hx hb dX12_digest_224 (by decide) (fun c_224 => ?_) (fun c_224 => ?_)
    · have h := itp c_224 h
      exact hkx v1 D H locs ls Y (lv_sub hl [0, 1] rfl) h
    · have h := itn c_224 h
      refine lv_ldc2 (pc := 227) (v := 31) hx hb X.2.2.2.1 (X.2.2.2.2.1 _ w_9bad50a6e4) dX12_digest_227 ?_
      refine lv_lload_n (pc := 230) hx hb dX12_digest_230 rfl (lv_at hl 1 rfl) ?_
      refine lv_lmul (pc := 231) hx hb dX12_digest_231 ?_
      refine lv_aload_n (pc := 232) hx hb dX12_digest_232 rfl (lv_at hl 0 rfl) ?_
      refine lv_iconst (pc := 233) (v := 0) hx hb dX12_digest_233 (by decide) ?_
      refine lv_iload_n (pc := 234) hx hb dX12_digest_234 rfl (lv_at hl 2 rfl) ?_
      obtain ⟨r_235, D_235, e_235, h⟩ := bnd2_s h
      refine call_vi (pc := 235) (rest := [.long (31 * v1)]) [.int 0, .int v3] X Y (c_X12_reckonNow 0 v3 e_235) sw_X12_240 (rv_X12 X Y) rfl ⟨rfl, rfl, Nat.le_of_ble_eq_true rfl, Nat.le_of_ble_eq_true rfl⟩ hl rfl (Nat.le_of_ble_eq_true rfl) dX12_digest_235 (fun H locs Y => ?_)
      refine lv_i2l (pc := 238) hx hb dX12_digest_238 rfl ?_
      refine lv_ladd (pc := 239) hx hb dX12_digest_239 ?_
      obtain ⟨v1_240, ev1_240, h⟩ := lt_s_ h
      refine top_l ev1_240 ?_
      refine lv_lstore_n (pc := 240) (lv' := [(1, .long v1_240), (0, .ref (bd 0)), (3, .int v3)]) hx hb dX12_digest_240 rfl hl (by decide) rfl (fun ls hl => ?_)
      obtain ⟨v3_241, ev3_241, h⟩ := lt_s_ h
      refine lv_iinc (pc := 241) (v := v3_241) (lv' := [(3, .int v3_241), (1, .long v1_240), (0, .ref (bd 0))]) hx hb dX12_digest_241 hl (k := 2) rfl (by rw [ev3_241]; rfl) (by decide) rfl (fun ls hl => ?_)
      refine lv_goto (pc := 244) (tgt := 221) hx hb dX12_digest_244 (by decide) ?_
      exact ih v1_240 v3_241 D_235 H locs ls Y (lv_sub hl [2, 1, 0] rfl) h
set_option maxHeartbeats 4000000 in
set_option maxRecDepth 100000 in
theorem WL_X12_digest_249 {r9 : Int64} {D9 : Mem} (X : Cx p s m args meth c cX12_digest RX12 5 (some .long) dC dI ad bd cI cZ) {kx : Int64 → Mem → Option (Int64 × Mem)} (hkx : ∀ (v1' : Int64) (D' : Mem) (H : Heap) (locs : List Loc) (ls : Array Slot), Ys s dC dI ad bd cI cZ C D' H locs → lv_has ls 5 [(0, .ref (bd 0)), (1, .long v1')] → kx v1' D' = some (r9, D9) → W p l e rm_X12_digest s m args below meth c H locs 0 0 (MQ below (QC (some (.long r9)) dC dI ad bd cI cZ C D9) args s 0 0 (AD ad bd)) (F0 m 274 ls [])) : ∀ (n_ : Nat) (v1 : Int64) (v3 : Int32) (D : Mem) (H : Heap) (locs : List Loc) (ls : Array Slot), Ys s dC dI ad bd cI cZ C D H locs → lv_has ls 5 [(0, .ref (bd 0)), (1, .long v1), (3, .int v3)] → L_X12_digest_249 kx n_ v1 v3 D = some (r9, D9) → W p l e rm_X12_digest s m args below meth c H locs 0 0 (MQ below (QC (some (.long r9)) dC dI ad bd cI cZ C D9) args s 0 0 (AD ad bd)) (F0 m 249 ls []) := by
  have hx := X.1
  have hb := X.2.1
  intro n_
  induction n_ with
  | zero =>
    intro v1 v3 D H locs ls Y hl h
    cases h
  | succ n_ ih =>
    intro v1 v3 D H locs ls Y hl h
    unfold L_X12_digest_249 at h
    refine lv_iload_n (pc := 249) hx hb dX12_digest_249 rfl (lv_at hl 2 rfl) ?_
    refine lv_iconst (pc := 250) (v := 3) hx hb dX12_digest_250 (by decide) ?_
    refine lv_icmp_ge (pc := 251) (tgt := 274) hx hb dX12_digest_251 (by decide) (fun c_251 => ?_) (fun c_251 => ?_)
    · have h := itp c_251 h
      exact hkx v1 D H locs ls Y (lv_sub hl [0, 1] rfl) h
    · have h := itn c_251 h
      refine lv_ldc2 (pc := 254) (v := 31) hx hb X.2.2.2.1 (X.2.2.2.2.1 _ w_9bad50a6e4) dX12_digest_254 ?_
      refine lv_lload_n (pc := 257) hx hb dX12_digest_257 rfl (lv_at hl 1 rfl) ?_
      refine lv_lmul (pc := 258) hx hb dX12_digest_258 ?_
      refine lv_aload_n (pc := 259) hx hb dX12_digest_259 rfl (lv_at hl 0 rfl) ?_
      refine lv_iconst (pc := 260) (v := 4) hx hb dX12_digest_260 (by decide) ?_
      refine lv_iload_n (pc := 261) hx hb dX12_digest_261 rfl (lv_at hl 2 rfl) ?_
      obtain ⟨r_262, D_262, e_262, h⟩ := bnd2_s h
      refine call_vi (pc := 262) (rest := [.long (31 * v1)]) [.int 4, .int v3] X Y (c_X12_reckonNow 4 v3 e_262) sw_X12_240 (rv_X12 X Y) rfl ⟨rfl, rfl, Nat.le_of_ble_eq_true rfl, Nat.le_of_ble_eq_true rfl⟩ hl rfl (Nat.le_of_ble_eq_true rfl) dX12_digest_262 (fun H locs Y => ?_)
      refine lv_i2l (pc := 265) hx hb dX12_digest_265 rfl ?_
      refine lv_ladd (pc := 266) hx hb dX12_digest_266 ?_
      obtain ⟨v1_267, ev1_267, h⟩ := lt_s_ h
      refine top_l ev1_267 ?_
      refine lv_lstore_n (pc := 267) (lv' := [(1, .long v1_267), (0, .ref (bd 0)), (3, .int v3)]) hx hb dX12_digest_267 rfl hl (by decide) rfl (fun ls hl => ?_)
      obtain ⟨v3_268, ev3_268, h⟩ := lt_s_ h
      refine lv_iinc (pc := 268) (v := v3_268) (lv' := [(3, .int v3_268), (1, .long v1_267), (0, .ref (bd 0))]) hx hb dX12_digest_268 hl (k := 2) rfl (by rw [ev3_268]; rfl) (by decide) rfl (fun ls hl => ?_)
      refine lv_goto (pc := 271) (tgt := 249) hx hb dX12_digest_271 (by decide) ?_
      exact ih v1_267 v3_268 D_262 H locs ls Y (lv_sub hl [2, 1, 0] rfl) h
set_option maxHeartbeats 4000000 in
set_option maxRecDepth 100000 in
theorem WL_X12_digest_288 {r9 : Int64} {D9 : Mem} (X : Cx p s m args meth c cX12_digest RX12 5 (some .long) dC dI ad bd cI cZ) {kx : Int64 → Mem → Option (Int64 × Mem)} (hkx : ∀ (v1' : Int64) (D' : Mem) (H : Heap) (locs : List Loc) (ls : Array Slot), Ys s dC dI ad bd cI cZ C D' H locs → lv_has ls 5 [(0, .ref (bd 0)), (1, .long v1')] → kx v1' D' = some (r9, D9) → W p l e rm_X12_digest s m args below meth c H locs 0 0 (MQ below (QC (some (.long r9)) dC dI ad bd cI cZ C D9) args s 0 0 (AD ad bd)) (F0 m 315 ls [])) : ∀ (n_ : Nat) (v1 : Int64) (v3 : Int32) (D : Mem) (H : Heap) (locs : List Loc) (ls : Array Slot), Ys s dC dI ad bd cI cZ C D H locs → lv_has ls 5 [(0, .ref (bd 0)), (1, .long v1), (3, .int v3)] → L_X12_digest_288 kx n_ v1 v3 D = some (r9, D9) → W p l e rm_X12_digest s m args below meth c H locs 0 0 (MQ below (QC (some (.long r9)) dC dI ad bd cI cZ C D9) args s 0 0 (AD ad bd)) (F0 m 288 ls []) := by
  have hx := X.1
  have hb := X.2.1
  intro n_
  induction n_ with
  | zero =>
    intro v1 v3 D H locs ls Y hl h
    cases h
  | succ n_ ih =>
    intro v1 v3 D H locs ls Y hl h
    unfold L_X12_digest_288 at h
    refine lv_iload_n (pc := 288) hx hb dX12_digest_288 rfl (lv_at hl 2 rfl) ?_
    refine lv_aload_n (pc := 289) hx hb dX12_digest_289 rfl (lv_at hl 0 rfl) ?_
    refine gf_X12_251 (pc := 290) X Y dX12_digest_290 ?_
    refine lv_icmp_ge (pc := 293) (tgt := 315) hx hb dX12_digest_293 (by decide) (fun c_293 => ?_) (fun c_293 => ?_)
    · have h := itp c_293 h
      exact hkx v1 D H locs ls Y (lv_sub hl [0, 1] rfl) h
    · have h := itn c_293 h
      refine lv_ldc2 (pc := 296) (v := 31) hx hb X.2.2.2.1 (X.2.2.2.2.1 _ w_9bad50a6e4) dX12_digest_296 ?_
      refine lv_lload_n (pc := 299) hx hb dX12_digest_299 rfl (lv_at hl 1 rfl) ?_
      refine lv_lmul (pc := 300) hx hb dX12_digest_300 ?_
      refine lv_aload_n (pc := 301) hx hb dX12_digest_301 rfl (lv_at hl 0 rfl) ?_
      refine lv_iload_n (pc := 302) hx hb dX12_digest_302 rfl (lv_at hl 2 rfl) ?_
      obtain ⟨r_303, D_303, e_303, h⟩ := bnd2_s h
      refine call_vi (pc := 303) (rest := [.long (31 * v1)]) [.int v3] X Y (c_X12_goesNow v3 e_303) sw_X12_266 (rv_X12 X Y) rfl ⟨rfl, rfl, Nat.le_of_ble_eq_true rfl, Nat.le_of_ble_eq_true rfl⟩ hl rfl (Nat.le_of_ble_eq_true rfl) dX12_digest_303 (fun H locs Y => ?_)
      refine lv_i2l (pc := 306) hx hb dX12_digest_306 rfl ?_
      refine lv_ladd (pc := 307) hx hb dX12_digest_307 ?_
      obtain ⟨v1_308, ev1_308, h⟩ := lt_s_ h
      refine top_l ev1_308 ?_
      refine lv_lstore_n (pc := 308) (lv' := [(1, .long v1_308), (0, .ref (bd 0)), (3, .int v3)]) hx hb dX12_digest_308 rfl hl (by decide) rfl (fun ls hl => ?_)
      obtain ⟨v3_309, ev3_309, h⟩ := lt_s_ h
      refine lv_iinc (pc := 309) (v := v3_309) (lv' := [(3, .int v3_309), (1, .long v1_308), (0, .ref (bd 0))]) hx hb dX12_digest_309 hl (k := 2) rfl (by rw [ev3_309]; rfl) (by decide) rfl (fun ls hl => ?_)
      refine lv_goto (pc := 312) (tgt := 288) hx hb dX12_digest_312 (by decide) ?_
      exact ih v1_308 v3_309 D_303 H locs ls Y (lv_sub hl [2, 1, 0] rfl) h
set_option maxHeartbeats 4000000 in
set_option maxRecDepth 100000 in
theorem WL_X12_digest_329 {r9 : Int64} {D9 : Mem} (D : Mem) (X : Cx p s m args meth c cX12_digest RX12 5 (some .long) dC dI ad bd cI cZ) {kx : Int64 → Option (Int64 × Mem)} (hkx : ∀ (v1' : Int64) (H : Heap) (locs : List Loc) (ls : Array Slot), Ys s dC dI ad bd cI cZ C D H locs → lv_has ls 5 [(1, .long v1')] → kx v1' = some (r9, D9) → W p l e rm_X12_digest s m args below meth c H locs 0 0 (MQ below (QC (some (.long r9)) dC dI ad bd cI cZ C D9) args s 0 0 (AD ad bd)) (F0 m 353 ls [])) : ∀ (n_ : Nat) (v1 : Int64) (v3 : Int32) (H : Heap) (locs : List Loc) (ls : Array Slot), Ys s dC dI ad bd cI cZ C D H locs → lv_has ls 5 [(0, .ref (bd 0)), (1, .long v1), (3, .int v3)] → L_X12_digest_329 D kx n_ v1 v3 = some (r9, D9) → W p l e rm_X12_digest s m args below meth c H locs 0 0 (MQ below (QC (some (.long r9)) dC dI ad bd cI cZ C D9) args s 0 0 (AD ad bd)) (F0 m 329 ls []) := by
  have hx := X.1
  have hb := X.2.1
  intro n_
  induction n_ with
  | zero =>
    intro v1 v3 H locs ls Y hl h
    cases h
  | succ n_ ih =>
    intro v1 v3 H locs ls Y hl h
    unfold L_X12_digest_329 at h
    refine lv_iload_n (pc := 329) hx hb dX12_digest_329 rfl (lv_at hl 2 rfl) ?_
    refine lv_iconst (pc := 330) (v := 5) hx hb dX12_digest_330 (by decide) ?_
    refine lv_icmp_ge (pc := 331) (tgt := 353) hx hb dX12_digest_331 (by decide) (fun c_331 => ?_) (fun c_331 => ?_)
    · have h := itp c_331 h
      exact hkx v1 H locs ls Y (lv_sub hl [1] rfl) h
    · have h := itn c_331 h
      refine lv_ldc2 (pc := 334) (v := 31) hx hb X.2.2.2.1 (X.2.2.2.2.1 _ w_9bad50a6e4) dX12_digest_334 ?_
      refine lv_lload_n (pc := 337) hx hb dX12_digest_337 rfl (lv_at hl 1 rfl) ?_
      refine lv_lmul (pc := 338) hx hb dX12_digest_338 ?_
      refine lv_aload_n (pc := 339) hx hb dX12_digest_339 rfl (lv_at hl 0 rfl) ?_
      refine lv_iload_n (pc := 340) hx hb dX12_digest_340 rfl (lv_at hl 2 rfl) ?_
      obtain ⟨r_341, e_341, h⟩ := bnd_s h
      refine call_vi (pc := 341) (rest := [.long (31 * v1)]) [.int v3] X Y (c_X12_learntNow v3 e_341) sw_X12_294 (rv_X12 X Y) rfl ⟨rfl, rfl, Nat.le_of_ble_eq_true rfl, Nat.le_of_ble_eq_true rfl⟩ hl rfl (Nat.le_of_ble_eq_true rfl) dX12_digest_341 (fun H locs Y => ?_)
      refine lv_i2l (pc := 344) hx hb dX12_digest_344 rfl ?_
      refine lv_ladd (pc := 345) hx hb dX12_digest_345 ?_
      obtain ⟨v1_346, ev1_346, h⟩ := lt_s_ h
      refine top_l ev1_346 ?_
      refine lv_lstore_n (pc := 346) (lv' := [(1, .long v1_346), (0, .ref (bd 0)), (3, .int v3)]) hx hb dX12_digest_346 rfl hl (by decide) rfl (fun ls hl => ?_)
      obtain ⟨v3_347, ev3_347, h⟩ := lt_s_ h
      refine lv_iinc (pc := 347) (v := v3_347) (lv' := [(3, .int v3_347), (1, .long v1_346), (0, .ref (bd 0))]) hx hb dX12_digest_347 hl (k := 2) rfl (by rw [ev3_347]; rfl) (by decide) rfl (fun ls hl => ?_)
      refine lv_goto (pc := 350) (tgt := 329) hx hb dX12_digest_350 (by decide) ?_
      exact ih v1_346 v3_347 H locs ls Y (lv_sub hl [2, 1, 0] rfl) h
set_option maxHeartbeats 4000000 in
set_option maxRecDepth 100000 in
theorem c_X12_digest {r9 : Int64} {D9 : Mem} (h : f_X12_digest D = some (r9, D9)) : Ct l dC dI ad bd cI cZ yX12_digest cX12_digest 5 (some .long) rm_X12_digest [.ref (bd 0)] C D (some (.long r9)) C D9 := by
  unfold f_X12_digest at h
  refine Ct.intro (own := RX12) (by decide) rfl (Nat.le_of_ble_eq_true rfl) ?_
  intro p e s m args below meth c H locs ls X Y hl
  have hx := X.1
  have hb := X.2.1
  have hl : lv_has ls 5 [(0, .ref (bd 0))] := hl
  refine lv_ldc2 (pc := 0) (v := 17) hx hb X.2.2.2.1 (X.2.2.2.2.1 _ w_6fa8426b91) dX12_digest_0 ?_
  refine lv_lstore_n (pc := 3) (lv' := [(1, .long 17), (0, .ref (bd 0))]) hx hb dX12_digest_3 rfl hl (by decide) rfl (fun ls hl => ?_)
  refine lv_iconst (pc := 4) (v := 0) hx hb dX12_digest_4 (by decide) ?_
  refine lv_istore_n (pc := 5) (lv' := [(3, .int 0), (1, .long 17), (0, .ref (bd 0))]) hx hb dX12_digest_5 rfl hl (by decide) rfl (fun ls hl => ?_)
  refine WL_X12_digest_6 D X (fun v1_31 H locs ls Y hl h => ?_) FU 17 0 H locs ls Y (lv_sub hl [2, 1, 0] rfl) h
  refine lv_ldc2 (pc := 31) (v := 31) hx hb X.2.2.2.1 (X.2.2.2.2.1 _ w_9bad50a6e4) dX12_digest_31 ?_
  refine lv_lload_n (pc := 34) hx hb dX12_digest_34 rfl (lv_at hl 1 rfl) ?_
  refine lv_lmul (pc := 35) hx hb dX12_digest_35 ?_
  refine lv_aload_n (pc := 36) hx hb dX12_digest_36 rfl (lv_at hl 0 rfl) ?_
  obtain ⟨r_37, D_37, e_37, h⟩ := bnd2_s h
  refine call_vi (pc := 37) (rest := [.long (31 * v1_31)]) [] X Y (c_X12_faultNow  e_37) sw_X12_222 (rv_X12 X Y) rfl ⟨rfl, rfl, Nat.le_of_ble_eq_true rfl, Nat.le_of_ble_eq_true rfl⟩ hl rfl (Nat.le_of_ble_eq_true rfl) dX12_digest_37 (fun H locs Y => ?_)
  refine lv_i2l (pc := 40) hx hb dX12_digest_40 rfl ?_
  refine lv_ladd (pc := 41) hx hb dX12_digest_41 ?_
  obtain ⟨v1_42, ev1_42, h⟩ := lt_s_ h
  refine top_l ev1_42 ?_
  refine lv_lstore_n (pc := 42) (lv' := [(1, .long v1_42), (0, .ref (bd 0))]) hx hb dX12_digest_42 rfl hl (by decide) rfl (fun ls hl => ?_)
  refine lv_iconst (pc := 43) (v := (-1)) hx hb dX12_digest_43 (by decide) ?_
  refine lv_istore_n (pc := 44) (lv' := [(3, .int (-1)), (1, .long v1_42), (0, .ref (bd 0))]) hx hb dX12_digest_44 rfl hl (by decide) rfl (fun ls hl => ?_)
  refine WL_X12_digest_45 D_37 X (fun v1_103 H locs ls Y hl h => ?_) FU v1_42 (-1) H locs ls Y (lv_sub hl [2, 1, 0] rfl) h
  refine lv_ldc2 (pc := 103) (v := 31) hx hb X.2.2.2.1 (X.2.2.2.2.1 _ w_9bad50a6e4) dX12_digest_103 ?_
  refine lv_lload_n (pc := 106) hx hb dX12_digest_106 rfl (lv_at hl 1 rfl) ?_
  refine lv_lmul (pc := 107) hx hb dX12_digest_107 ?_
  refine lv_aload_n (pc := 108) hx hb dX12_digest_108 rfl (lv_at hl 0 rfl) ?_
  refine lv_iconst (pc := 109) (v := (-1)) hx hb dX12_digest_109 (by decide) ?_
  refine lv_iconst (pc := 110) (v := 0) hx hb dX12_digest_110 (by decide) ?_
  refine lv_iconst (pc := 111) (v := 0) hx hb dX12_digest_111 (by decide) ?_
  obtain ⟨r_112, e_112, h⟩ := bnd_s h
  refine call_vl (pc := 112) (rest := [.long (31 * v1_103)]) [.int (-1), .int 0, .int 0] X Y (c_X12_meanNow (-1) 0 0 e_112) sw_X12_172 (rv_X12 X Y) rfl ⟨rfl, rfl, Nat.le_of_ble_eq_true rfl, Nat.le_of_ble_eq_true rfl⟩ hl rfl (Nat.le_of_ble_eq_true rfl) dX12_digest_112 (fun H locs Y => ?_)
  refine lv_ladd (pc := 115) hx hb dX12_digest_115 ?_
  obtain ⟨v1_116, ev1_116, h⟩ := lt_s_ h
  refine top_l ev1_116 ?_
  refine lv_lstore_n (pc := 116) (lv' := [(1, .long v1_116), (0, .ref (bd 0))]) hx hb dX12_digest_116 rfl hl (by decide) rfl (fun ls hl => ?_)
  refine lv_ldc2 (pc := 117) (v := 31) hx hb X.2.2.2.1 (X.2.2.2.2.1 _ w_9bad50a6e4) dX12_digest_117 ?_
  refine lv_lload_n (pc := 120) hx hb dX12_digest_120 rfl (lv_at hl 0 rfl) ?_
  refine lv_lmul (pc := 121) hx hb dX12_digest_121 ?_
  refine lv_aload_n (pc := 122) hx hb dX12_digest_122 rfl (lv_at hl 1 rfl) ?_
  refine lv_iconst (pc := 123) (v := (-1)) hx hb dX12_digest_123 (by decide) ?_
  refine lv_iconst (pc := 124) (v := 0) hx hb dX12_digest_124 (by decide) ?_
  refine lv_iconst (pc := 125) (v := 1) hx hb dX12_digest_125 (by decide) ?_
  obtain ⟨r_126, e_126, h⟩ := bnd_s h
  refine call_vl (pc := 126) (rest := [.long (31 * v1_116)]) [.int (-1), .int 0, .int 1] X Y (c_X12_meanNow (-1) 0 1 e_126) sw_X12_172 (rv_X12 X Y) rfl ⟨rfl, rfl, Nat.le_of_ble_eq_true rfl, Nat.le_of_ble_eq_true rfl⟩ hl rfl (Nat.le_of_ble_eq_true rfl) dX12_digest_126 (fun H locs Y => ?_)
  refine lv_ladd (pc := 129) hx hb dX12_digest_129 ?_
  obtain ⟨v1_130, ev1_130, h⟩ := lt_s_ h
  refine top_l ev1_130 ?_
  refine lv_lstore_n (pc := 130) (lv' := [(1, .long v1_130), (0, .ref (bd 0))]) hx hb dX12_digest_130 rfl hl (by decide) rfl (fun ls hl => ?_)
  refine lv_ldc2 (pc := 131) (v := 31) hx hb X.2.2.2.1 (X.2.2.2.2.1 _ w_9bad50a6e4) dX12_digest_131 ?_
  refine lv_lload_n (pc := 134) hx hb dX12_digest_134 rfl (lv_at hl 0 rfl) ?_
  refine lv_lmul (pc := 135) hx hb dX12_digest_135 ?_
  refine lv_aload_n (pc := 136) hx hb dX12_digest_136 rfl (lv_at hl 1 rfl) ?_
  refine lv_iconst (pc := 137) (v := (-1)) hx hb dX12_digest_137 (by decide) ?_
  obtain ⟨r_138, e_138, h⟩ := bnd_s h
  refine call_vi (pc := 138) (rest := [.long (31 * v1_130)]) [.int (-1)] X Y (c_X12_bestNow (-1) e_138) sw_X12_192 (rv_X12 X Y) rfl ⟨rfl, rfl, Nat.le_of_ble_eq_true rfl, Nat.le_of_ble_eq_true rfl⟩ hl rfl (Nat.le_of_ble_eq_true rfl) dX12_digest_138 (fun H locs Y => ?_)
  refine lv_i2l (pc := 141) hx hb dX12_digest_141 rfl ?_
  refine lv_ladd (pc := 142) hx hb dX12_digest_142 ?_
  obtain ⟨v1_143, ev1_143, h⟩ := lt_s_ h
  refine top_l ev1_143 ?_
  refine lv_lstore_n (pc := 143) (lv' := [(1, .long v1_143), (0, .ref (bd 0))]) hx hb dX12_digest_143 rfl hl (by decide) rfl (fun ls hl => ?_)
  refine lv_iconst (pc := 144) (v := 0) hx hb dX12_digest_144 (by decide) ?_
  refine lv_istore_n (pc := 145) (lv' := [(3, .int 0), (1, .long v1_143), (0, .ref (bd 0))]) hx hb dX12_digest_145 rfl hl (by decide) rfl (fun ls hl => ?_)
  refine WL_X12_digest_146 D_37 X (fun v1_190 H locs ls Y hl h => ?_) FU v1_143 0 H locs ls Y (lv_sub hl [2, 1, 0] rfl) h
  refine lv_iconst (pc := 190) (v := 0) hx hb dX12_digest_190 (by decide) ?_
  refine lv_istore_n (pc := 191) (lv' := [(3, .int 0), (0, .ref (bd 0)), (1, .long v1_190)]) hx hb dX12_digest_191 rfl hl (by decide) rfl (fun ls hl => ?_)
  refine WL_X12_digest_192 D_37 X (fun v1_219 H locs ls Y hl h => ?_) FU v1_190 0 H locs ls Y (lv_sub hl [1, 2, 0] rfl) h
  refine lv_iconst (pc := 219) (v := 0) hx hb dX12_digest_219 (by decide) ?_
  refine lv_istore_n (pc := 220) (lv' := [(3, .int 0), (0, .ref (bd 0)), (1, .long v1_219)]) hx hb dX12_digest_220 rfl hl (by decide) rfl (fun ls hl => ?_)
  refine WL_X12_digest_221 X (fun v1_247 D_247 H locs ls Y hl h => ?_) FU v1_219 0 D_37 H locs ls Y (lv_sub hl [1, 2, 0] rfl) h
  refine lv_iconst (pc := 247) (v := 0) hx hb dX12_digest_247 (by decide) ?_
  refine lv_istore_n (pc := 248) (lv' := [(3, .int 0), (0, .ref (bd 0)), (1, .long v1_247)]) hx hb dX12_digest_248 rfl hl (by decide) rfl (fun ls hl => ?_)
  refine WL_X12_digest_249 X (fun v1_274 D_274 H locs ls Y hl h => ?_) FU v1_247 0 D_247 H locs ls Y (lv_sub hl [1, 2, 0] rfl) h
  refine lv_ldc2 (pc := 274) (v := 31) hx hb X.2.2.2.1 (X.2.2.2.2.1 _ w_9bad50a6e4) dX12_digest_274 ?_
  refine lv_lload_n (pc := 277) hx hb dX12_digest_277 rfl (lv_at hl 1 rfl) ?_
  refine lv_lmul (pc := 278) hx hb dX12_digest_278 ?_
  refine lv_aload_n (pc := 279) hx hb dX12_digest_279 rfl (lv_at hl 0 rfl) ?_
  obtain ⟨r_280, D_280, e_280, h⟩ := bnd2_s h
  refine call_vi (pc := 280) (rest := [.long (31 * v1_274)]) [] X Y (c_X12_temperNow  e_280) sw_X12_243 (rv_X12 X Y) rfl ⟨rfl, rfl, Nat.le_of_ble_eq_true rfl, Nat.le_of_ble_eq_true rfl⟩ hl rfl (Nat.le_of_ble_eq_true rfl) dX12_digest_280 (fun H locs Y => ?_)
  refine lv_i2l (pc := 283) hx hb dX12_digest_283 rfl ?_
  refine lv_ladd (pc := 284) hx hb dX12_digest_284 ?_
  obtain ⟨v1_285, ev1_285, h⟩ := lt_s_ h
  refine top_l ev1_285 ?_
  refine lv_lstore_n (pc := 285) (lv' := [(1, .long v1_285), (0, .ref (bd 0))]) hx hb dX12_digest_285 rfl hl (by decide) rfl (fun ls hl => ?_)
  refine lv_iconst (pc := 286) (v := 0) hx hb dX12_digest_286 (by decide) ?_
  refine lv_istore_n (pc := 287) (lv' := [(3, .int 0), (1, .long v1_285), (0, .ref (bd 0))]) hx hb dX12_digest_287 rfl hl (by decide) rfl (fun ls hl => ?_)
  refine WL_X12_digest_288 X (fun v1_315 D_315 H locs ls Y hl h => ?_) FU v1_285 0 D_280 H locs ls Y (lv_sub hl [2, 1, 0] rfl) h
  refine lv_ldc2 (pc := 315) (v := 31) hx hb X.2.2.2.1 (X.2.2.2.2.1 _ w_9bad50a6e4) dX12_digest_315 ?_
  refine lv_lload_n (pc := 318) hx hb dX12_digest_318 rfl (lv_at hl 1 rfl) ?_
  refine lv_lmul (pc := 319) hx hb dX12_digest_319 ?_
  refine lv_aload_n (pc := 320) hx hb dX12_digest_320 rfl (lv_at hl 0 rfl) ?_
  obtain ⟨r_321, D_321, e_321, h⟩ := bnd2_s h
  refine call_vi (pc := 321) (rest := [.long (31 * v1_315)]) [] X Y (c_X12_lookedNow  e_321) sw_X12_272 (rv_X12 X Y) rfl ⟨rfl, rfl, Nat.le_of_ble_eq_true rfl, Nat.le_of_ble_eq_true rfl⟩ hl rfl (Nat.le_of_ble_eq_true rfl) dX12_digest_321 (fun H locs Y => ?_)
  refine lv_i2l (pc := 324) hx hb dX12_digest_324 rfl ?_
  refine lv_ladd (pc := 325) hx hb dX12_digest_325 ?_
  obtain ⟨v1_326, ev1_326, h⟩ := lt_s_ h
  refine top_l ev1_326 ?_
  refine lv_lstore_n (pc := 326) (lv' := [(1, .long v1_326), (0, .ref (bd 0))]) hx hb dX12_digest_326 rfl hl (by decide) rfl (fun ls hl => ?_)
  refine lv_iconst (pc := 327) (v := 0) hx hb dX12_digest_327 (by decide) ?_
  refine lv_istore_n (pc := 328) (lv' := [(3, .int 0), (1, .long v1_326), (0, .ref (bd 0))]) hx hb dX12_digest_328 rfl hl (by decide) rfl (fun ls hl => ?_)
  refine WL_X12_digest_329 D_321 X (fun v1_353 H locs ls Y hl h => ?_) FU v1_326 0 H locs ls Y (lv_sub hl [2, 1, 0] rfl) h
  refine lv_lload_n (pc := 353) hx hb dX12_digest_353 rfl (lv_at hl 0 rfl) ?_
  obtain ⟨hr9, hm9⟩ := ret_e h
  exact fin_l (pc := 354) X rfl Y hr9 rfl hm9 dX12_digest_354
end walk
