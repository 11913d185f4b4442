/-! pair, takeBack, asOf; how many count -/
theorem told_eq {n : Nat} {C D : Mem} (hP : RP n C D) (t : Int32) : f_X4_mayBeTold t C = f_X12_in t (D 0 7) 999 := by
  obtain ⟨z, hz, e1, e2⟩ := hP.2.2.2.2.1
  unfold f_X4_mayBeTold f_X11_isTime
  rw [wi_in, e1, e2]
  have key : f_X12_in t (nI z) 999 = true ↔ f_X12_in t 0 999 = true ∧ ¬ t < nI z := by
    rw [in_c, in_c, Int32.not_lt]
    have h0 : (0 : Int32) ≤ nI z := nI_pos' (by omega)
    exact ⟨fun h => ⟨⟨Int32.le_trans h0 h.1, h.2⟩, h.1⟩, fun h => ⟨h.2, h.1.2⟩⟩
  by_cases h1 : f_X12_in t 0 999 = true
  · rw [if_pos h1]
    by_cases h2 : t < nI z
    · rw [if_pos h2]
      cases h3 : f_X12_in t (nI z) 999
      · rfl
      · exact absurd h2 (key.mp h3).2
    · rw [if_neg h2]
      exact (key.mpr ⟨h1, h2⟩).symm
  · rw [if_neg h1]
    cases h3 : f_X12_in t (nI z) 999
    · rfl
    · exact absurd (key.mp h3).1 h1
theorem told_nat {n : Nat} {C D : Mem} (hP : RP n C D) {t : Int32} (h : f_X12_in t (D 0 7) 999 = true) : ∃ z, z ≤ 999 ∧ t = nI z := by
  obtain ⟨z, hz, e1, e2⟩ := hP.2.2.2.2.1
  rw [e2] at h
  have h2 := (in_c _ _ _).mp h
  exact in_nI (n := 999) rfl (by decide) ((in_c _ _ _).mpr ⟨Int32.le_trans (nI_pos' (by omega)) h2.1, h2.2⟩)
/-- a pair more -/
theorem add_P {C D : Mem} (hI : Inv C D) (a1 a2 : Int32) {j : Nat} (hj : j ≤ 10) (a4 : Int32) (h4 : a4 = 0 ∨ a4 = 1) {z : Nat} (hz : z ≤ 999) (hz2 : True) : ∃ (r : Int32) (C1 D1 : Mem), f_X4_add a1 a2 (nI j) a4 (nI z) C = some (r, C1) ∧ (if (D 0 0) = 60 then some ((-4), D) else gd (inb (D 0 0) 60) (sto D 1 (D 0 0).toNatClampNeg a1 (fun D_79 => gd (inb (D_79 0 0) 60) (sto D_79 2 (D_79 0 0).toNatClampNeg a2 (fun D_89 => gd (inb (D_89 0 0) 60) (sto D_89 3 (D_89 0 0).toNatClampNeg (nI j) (fun D_99 => gd (inb (D_99 0 0) 60) (sto D_99 4 (D_99 0 0).toNatClampNeg a4 (fun D_110 => gd (inb (D_110 0 0) 60) (sto D_110 5 (D_110 0 0).toNatClampNeg (nI z) (fun D_121 => gd (inb (D_121 0 0) 60) (sto D_121 6 (D_121 0 0).toNatClampNeg (-1) (fun D_131 => sto D_131 0 7 (nI z) (fun D_135 => sto D_135 0 0 ((D_135 0 0) + 1) (fun D_145 => some (((D_145 0 0) - 1), D_145)))))))))))))))) = some (r, D1) ∧ Inv C1 D1 := by
  obtain ⟨n, hP⟩ := hI.1
  have hP0 := hP
  obtain ⟨hn, e1, e2, hz8, hz7, hp⟩ := hP0
  unfold f_X4_add
  by_cases hf : n = 60
  · subst hf
    refine ⟨-4, C, D, ?_, ?_, hI⟩
    · rw [e1, if_neg (by decide)]
    · rw [e2, if_pos (show nI 60 = (60 : Int32) from rfl)]
  · have hlt : n < 60 := by omega
    simp only [sto]
    have i0 : ∀ (M : Mem) (k i : Nat) (v : Int32), k ≠ 0 → st2 M k i v 0 0 = M 0 0 := fun M k i v h => by rw [st2_n _ _ _ (Ne.symm h)]
    have i1 : ∀ (M : Mem) (k i : Nat) (v : Int32), k ≠ 1 → st2 M k i v 1 6 = M 1 6 := fun M k i v h => by rw [st2_n _ _ _ (Ne.symm h)]
    have s1 : ∀ (M : Mem) (v : Int32), st2 M 1 7 v 1 6 = M 1 6 := fun M v => by rw [st2_s, upd_n _ _ (by decide)]
    have s0 : ∀ (M : Mem) (v : Int32), st2 M 0 7 v 0 0 = M 0 0 := fun M v => by rw [st2_s, upd_n _ _ (by decide)]
    simp only [i0 _ 1 _ _ (by decide), i0 _ 2 _ _ (by decide), i0 _ 3 _ _ (by decide), i0 _ 4 _ _ (by decide), i0 _ 5 _ _ (by decide), i0 _ 6 _ _ (by decide), i1 _ 2 _ _ (by decide), i1 _ 3 _ _ (by decide), i1 _ 4 _ _ (by decide), i1 _ 5 _ _ (by decide), i1 _ 6 _ _ (by decide), i1 _ 7 _ _ (by decide), s1, s0, e1, e2, gdn hlt (show 60 ≤ 1000000 by decide), cl_nI (show n ≤ 1000000 by omega)]
    rw [if_pos (show nI n < 60 from (lt_nI (b := 60) (by omega) (by decide)).mpr hlt), if_neg (show ¬ nI n = (60 : Int32) from fun q => hf ((eq_nI (b := 60) (by omega) (by decide)).mp q))]
    refine ⟨_, _, _, rfl, by rw [show ∀ (M : Mem) (v : Int32), st2 M 0 0 v 0 0 = v from fun M v => rfl, show ∀ (M : Mem) (v : Int32), st2 M 1 6 v 1 6 = v from fun M v => rfl], ?_⟩
    obtain ⟨-, h2, h3, h5, h6, h7, h8, h9⟩ := hI
    refine ⟨⟨n + 1, hlt, ?_, ?_, hz8, ⟨z, hz, rfl, rfl⟩, fun k hk => ?_⟩, keepW h2 rfl rfl rfl rfl rfl rfl, keepB h3 rfl rfl rfl rfl rfl rfl, keepT h5 rfl rfl rfl rfl, keepS h6 rfl rfl, keepR h7 rfl rfl rfl rfl rfl rfl, keepH h8 rfl rfl rfl rfl rfl rfl rfl rfl rfl, keepG h9 (fun c a b => ?_) rfl rfl⟩
    · exact nI_1 n
    · exact nI_1 n
    · show upd (C 2) n a1 k = upd (D 1) n a1 k ∧ upd (C 3) n a2 k = upd (D 2) n a2 k ∧ upd (C 4) n (nI j) k = upd (D 3) n (nI j) k ∧ upd (C 5) n a4 k = upd (D 4) n a4 k ∧ upd (C 6) n (nI z) k = upd (D 5) n (nI z) k ∧ (∃ j2, j2 ≤ 10 ∧ upd (D 3) n (nI j) k = nI j2) ∧ (upd (D 4) n a4 k = 0 ∨ upd (D 4) n a4 k = 1) ∧ ((upd (C 7) n 1000 k = nI 1000 ∧ upd (D 6) n (-1) k = -1) ∨ ∃ j2, j2 ≤ 999 ∧ upd (C 7) n 1000 k = nI j2 ∧ upd (D 6) n (-1) k = nI j2)
      by_cases q : k = n
      · subst q
        simp only [upd_s]
        exact ⟨trivial, trivial, trivial, trivial, trivial, ⟨j, hj, rfl⟩, h4, Or.inl ⟨rfl, trivial⟩⟩
      · simp only [upd_n _ _ q]
        exact hp k (by omega)
    · rw [st2_n _ _ _ (by omega), st2_n _ _ _ (by omega), st2_n _ _ _ (by omega), st2_n _ _ _ (by omega), st2_n _ _ _ (by omega), st2_n _ _ _ (by omega), st2_n _ _ _ (by omega), st2_n _ _ _ (by omega)]
theorem pair_both {C D : Mem} (hI : Inv C D) (a1 : Int32) (a2 : Int32) (a3 : Int32) (a4 : Int32) (a5 : Int32) : ∃ (r : Int32) (C1 : Mem) (D1 : Mem), f_X11_pair a1 a2 a3 a4 a5 C = some (r, C1) ∧ f_X12_pairMore a1 a2 a3 a4 a5 D = some (r, D1) ∧ Inv C1 D1 := by
  obtain ⟨n, hP⟩ := hI.1
  unfold f_X11_pair f_X12_pairMore B_X11_pair_42 B_X12_pairMore_33
  rw [told_eq hP, show f_X11_isKind a2 = f_X12_isKind a2 from rfl, show f_X11_isOffer a3 = f_X12_isOffer a3 from rfl, show f_X11_isAnswer a4 = f_X12_in a4 0 1 from rfl, show f_X11_isPeople a1 = f_X12_isPeople a1 from rfl]
  by_cases h1 : f_X12_isPeople a1 = true
  · by_cases h2 : f_X12_isKind a2 = true
    · by_cases h3 : f_X12_isOffer a3 = true
      · rw [if_pos h1, if_pos h1, if_pos h2, if_pos h2, if_pos h3, if_pos h3]
        by_cases h4 : f_X12_in a4 0 1 = true
        · rw [if_pos h4]
          obtain ⟨x, hx, rfl⟩ := in_nI (n := 1) rfl (by decide) h4
          obtain ⟨j, hj, rfl⟩ := in_nI (n := 10) rfl (by decide) h3
          have h01 : nI x = 0 ∨ nI x = 1 := by
            rcases (show x = 0 ∨ x = 1 by omega) with q | q
            · subst q; exact Or.inl rfl
            · subst q; exact Or.inr rfl
          have fin : ∃ (r : Int32) (C1 : Mem) (D1 : Mem), (if f_X12_in a5 (D 0 7) 999 = true then bnd2 (f_X4_add a1 a2 (nI j) (nI x) a5 C) (fun r_68 C_68 => some (r_68, C_68)) else some ((-2), C)) = some (r, C1) ∧ (if (f_X12_in a5 (D 0 7) 999) = true then (if (D 0 0) = 60 then some ((-4), D) else gd (inb (D 0 0) 60) (sto D 1 (D 0 0).toNatClampNeg a1 (fun D_79 => gd (inb (D_79 0 0) 60) (sto D_79 2 (D_79 0 0).toNatClampNeg a2 (fun D_89 => gd (inb (D_89 0 0) 60) (sto D_89 3 (D_89 0 0).toNatClampNeg (nI j) (fun D_99 => gd (inb (D_99 0 0) 60) (sto D_99 4 (D_99 0 0).toNatClampNeg (nI x) (fun D_110 => gd (inb (D_110 0 0) 60) (sto D_110 5 (D_110 0 0).toNatClampNeg a5 (fun D_121 => gd (inb (D_121 0 0) 60) (sto D_121 6 (D_121 0 0).toNatClampNeg (-1) (fun D_131 => sto D_131 0 7 a5 (fun D_135 => sto D_135 0 0 ((D_135 0 0) + 1) (fun D_145 => some (((D_145 0 0) - 1), D_145)))))))))))))))) else some ((-2), D)) = some (r, D1) ∧ Inv C1 D1 := by
            by_cases h5 : f_X12_in a5 (D 0 7) 999 = true
            · rw [if_pos h5, if_pos h5]
              obtain ⟨z, hz, rfl⟩ := told_nat hP h5
              rw [bnd2_id]
              exact add_P hI a1 a2 hj (nI x) h01 hz trivial
            · exact ⟨-2, C, D, by rw [if_neg h5], by rw [if_neg h5], hI⟩
          by_cases q1 : a2 = 1
          · rw [if_pos q1, if_pos q1]
            by_cases q0 : nI x = 0
            · rw [if_pos q0, q0]
              exact ⟨-2, C, D, rfl, by rw [if_neg (by decide)], hI⟩
            · have e1 : nI x = 1 := h01.resolve_left q0
              rw [if_neg q0, if_pos (show f_X12_in (nI x) 1 1 = true by rw [e1]; rfl)]
              exact fin
          · rw [if_neg q1, if_neg q1, if_pos h4]
            exact fin
        · rw [if_neg h4]
          refine ⟨-2, C, D, rfl, ?_, hI⟩
          by_cases q1 : a2 = 1
          · rw [if_pos q1, if_neg]
            intro q
            have := (in_c _ _ _).mp q
            exact h4 ((in_c _ _ _).mpr ⟨Int32.le_trans (by decide) this.1, this.2⟩)
          · rw [if_neg q1, if_neg h4]
      · exact ⟨-2, C, D, by rw [if_pos h1, if_pos h2, if_neg h3], by rw [if_pos h1, if_pos h2, if_neg h3], hI⟩
    · exact ⟨-2, C, D, by rw [if_pos h1, if_neg h2], by rw [if_pos h1, if_neg h2], hI⟩
  · exact ⟨-2, C, D, by rw [if_neg h1], by rw [if_neg h1], hI⟩
theorem ok_pair {C D : Mem} (hI : Inv C D) (a1 : Int32) (a2 : Int32) (a3 : Int32) (a4 : Int32) (a5 : Int32) : ∃ (r : Int32) (C1 : Mem) (D1 : Mem), f_X11_pair a1 a2 a3 a4 a5 C = some (r, C1) ∧ f_X12_pair a1 a2 a3 a4 a5 D = some (r, D1) ∧ Inv C1 D1 := by
  unfold f_X12_pair
  rw [bnd2_id]
  exact pair_both hI a1 a2 a3 a4 a5
theorem has_eq {n : Nat} {C D : Mem} (hP : RP n C D) (a : Int32) : f_X4_has a C = f_X12_in a 0 ((D 0 0) - 1) := by
  have hn := hP.1
  unfold f_X4_has f_X12_in
  rw [hP.2.1, hP.2.2.1]
  by_cases h : a < 0
  · rw [if_pos h, if_pos h]
  · rw [if_neg h, if_neg h]
    have key : nI n ≤ a ↔ nI n - 1 < a := by
      rw [Int32.le_iff_toInt_le, Int32.lt_iff_toInt_lt, show (1 : Int32) = nI 1 from rfl, pk_sub_toInt (by omega) (by decide), nI_toInt (by omega)]
      omega
    by_cases h2 : nI n ≤ a
    · rw [if_pos h2, if_pos (key.mp h2)]
    · rw [if_neg h2, if_neg (fun q => h2 (key.mpr q))]
theorem in_lt {a : Int32} {n : Nat} (hn : n ≤ 1000000) (h : f_X12_in a 0 (nI n - 1) = true) : ∃ k, k < n ∧ a = nI k := by
  obtain ⟨h1, h2⟩ := (in_c _ _ _).mp h
  obtain ⟨k, hk, rfl⟩ := nI_of (x := a) (Int32.not_lt.mpr h1)
  refine ⟨k, ?_, rfl⟩
  rw [Int32.le_iff_toInt_le, show (1 : Int32) = nI 1 from rfl, pk_sub_toInt (by omega) (by decide), nI_toInt hk] at h2
  omega
theorem ok_takeBack {C D : Mem} (hI : Inv C D) (a1 : Int32) (a2 : Int32) : ∃ (r : Int32) (C1 : Mem) (D1 : Mem), f_X11_takeBack a1 a2 C = some (r, C1) ∧ f_X12_takeBack a1 a2 D = some (r, D1) ∧ Inv C1 D1 := by
  obtain ⟨n, hP⟩ := hI.1
  have hn := hP.1
  unfold f_X11_takeBack f_X12_takeBack
  rw [told_eq hP, has_eq hP]
  by_cases h1 : f_X12_in a1 0 (D 0 0 - 1) = true
  · by_cases h2 : f_X12_in a2 (D 0 7) 999 = true
    · rw [if_pos h1, if_pos h1, if_pos h2, if_pos h2, bnd2_id]
      rw [hP.2.2.1] at h1
      obtain ⟨k, hk, rfl⟩ := in_lt (by omega) h1
      obtain ⟨z, hz, rfl⟩ := told_nat hP h2
      unfold f_X4_withdraw
      simp only [gdn (show k < 60 by omega) (show 60 ≤ 1000000 by decide), cl_nI (show k ≤ 1000000 by omega), sto]
      rcases (hP.2.2.2.2.2 k hk).2.2.2.2.2.2.2 with ⟨e1, e2⟩ | ⟨j, hj, e1, e2⟩
      · rw [e1, e2, if_pos (show nI 1000 = (1000 : Int32) from rfl), if_pos rfl]
        refine ⟨_, _, _, rfl, rfl, ?_⟩
        obtain ⟨-, h2, h3, h5, h6, h7, h8, h9⟩ := hI
        obtain ⟨-, c6, d0, hz8, hz7, hp⟩ := hP
        refine ⟨⟨n, hn, c6, d0, hz8, ⟨z, hz, rfl, rfl⟩, fun i hi => ?_⟩, keepW h2 rfl rfl rfl rfl rfl rfl, keepB h3 rfl rfl rfl rfl rfl rfl, keepT h5 rfl rfl rfl rfl, keepS h6 rfl rfl, keepR h7 rfl rfl rfl rfl rfl rfl, keepH h8 rfl rfl rfl rfl rfl rfl rfl rfl rfl, keepG h9 (fun c a b => ?_) rfl rfl⟩
        · obtain ⟨g1, g2, g3, g4, g5, g6, g7, g8⟩ := hp i hi
          refine ⟨g1, g2, g3, g4, g5, g6, g7, ?_⟩
          show ((upd (C 7) k (nI z) i = nI 1000 ∧ upd (D 6) k (nI z) i = -1) ∨ ∃ j, j ≤ 999 ∧ upd (C 7) k (nI z) i = nI j ∧ upd (D 6) k (nI z) i = nI j)
          by_cases q : i = k
          · subst q
            rw [upd_s, upd_s]
            exact Or.inr ⟨z, hz, rfl, rfl⟩
          · rw [upd_n _ _ q, upd_n _ _ q]
            exact g8
        · rw [st2_n _ _ _ (by omega), st2_n _ _ _ (by omega)]
      · have n1 : ¬ nI j = (1000 : Int32) := fun q => by
          have := (eq_nI (b := 1000) (by omega) (by decide)).mp q
          omega
        have n2 : ¬ nI j = (-1 : Int32) := fun q => by
          have := congrArg Int32.toInt q
          rw [nI_toInt (by omega), show (-1 : Int32).toInt = -1 from by decide] at this
          omega
        rw [e1, e2, if_neg n1, if_neg n2]
        exact ⟨_, _, _, rfl, rfl, hI⟩
    · exact ⟨-2, C, D, by rw [if_pos h1, if_neg h2], by rw [if_pos h1, if_neg h2], hI⟩
  · exact ⟨-2, C, D, by rw [if_neg h1], by rw [if_neg h1], hI⟩
theorem ok_asOf {C D : Mem} (hI : Inv C D) (a1 : Int32) : ∃ (r : Int32) (C1 : Mem) (D1 : Mem), f_X11_asOf a1 C = some (r, C1) ∧ f_X12_asOf a1 D = some (r, D1) ∧ Inv C1 D1 := by
  obtain ⟨n, hP⟩ := hI.1
  unfold f_X11_asOf f_X12_asOf
  rw [show f_X11_isTime a1 = f_X12_in a1 0 999 from rfl]
  by_cases h1 : f_X12_in a1 0 999 = true
  · rw [if_pos h1, if_pos h1]
    simp only [lt_, sto]
    obtain ⟨z, hz, rfl⟩ := in_nI (n := 999) rfl (by decide) h1
    obtain ⟨hn, c6, d0, ⟨y, hy, e1, e2⟩, hz7, hp⟩ := hP
    refine ⟨nI y, _, _, by rw [e1], by rw [e2], ?_⟩
    obtain ⟨-, h2, h3, h5, h6, h7, h8, h9⟩ := hI
    refine ⟨⟨n, hn, c6, d0, ⟨z, hz, rfl, rfl⟩, hz7, hp⟩, keepW h2 rfl rfl rfl rfl rfl rfl, keepB h3 rfl rfl rfl rfl rfl rfl, keepT h5 rfl rfl rfl rfl, keepS h6 rfl rfl, keepR h7 rfl rfl rfl rfl rfl rfl, keepH h8 rfl rfl rfl rfl rfl rfl rfl rfl rfl, keepG h9 (fun c a b => ?_) rfl rfl⟩
    rw [st2_n _ _ _ (by omega)]
  · exact ⟨-2, C, D, by rw [if_neg h1], by rw [if_neg h1], hI⟩
theorem known_C {n : Nat} {C D : Mem} (hP : RP n C D) : f_X4_howManyCount C = some (nI (ctn (cnD D) n)) := by
  have hn := hP.1
  unfold f_X4_howManyCount
  refine up_FU (N := n) (by omega) (fun f a i => L_X4_howManyCount_4 C (fun v => some v) f a i) (fun k => nI (ctn (cnD D) k)) _ (fun f => ?_) (fun f k hk => ?_)
  · show L_X4_howManyCount_4 C _ (f + 1) _ (nI n) = _
    rw [L_X4_howManyCount_4, hP.2.1, if_pos (Int32.le_refl _)]
  · show L_X4_howManyCount_4 C _ (f + 1) _ (nI k) = L_X4_howManyCount_4 C _ f _ (nI (k + 1))
    rw [L_X4_howManyCount_4, hP.2.1, if_neg (by rw [le_nI (by omega) (by omega)]; omega), counts_C hP hk, bnd_e]
    unfold B_X4_howManyCount_26 lt_
    simp only [ctn, nI_1]
    split
    · rfl
    · simp only [Int32.add_zero, Nat.add_zero]
theorem known_D {n : Nat} {D : Mem} (hn : n ≤ 60) (h0 : D 0 0 = nI n) : f_X12_knownMany D = some (nI (ctn (cnD D) n)) := by
  unfold f_X12_knownMany
  refine up_FU (N := n) (by omega) (fun f a i => L_X12_knownMany_4 D (fun v => some v) f a i) (fun k => nI (ctn (cnD D) k)) _ (fun f => ?_) (fun f k hk => ?_)
  · show L_X12_knownMany_4 D _ (f + 1) _ (nI n) = _
    rw [L_X12_knownMany_4, h0, if_pos (Int32.le_refl _)]
  · show L_X12_knownMany_4 D _ (f + 1) _ (nI k) = L_X12_knownMany_4 D _ f _ (nI (k + 1))
    rw [L_X12_knownMany_4, h0, if_neg (by rw [le_nI (by omega) (by omega)]; omega), counts_D D (by omega), bnd_e]
    unfold B_X12_knownMany_26 lt_
    simp only [ctn, nI_1]
    split
    · rfl
    · simp only [Int32.add_zero, Nat.add_zero]
