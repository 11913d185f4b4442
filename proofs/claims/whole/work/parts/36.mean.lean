/-! means, refusals, moves -/
theorem gS_nat {D : Mem} (p kd : Int32) : ∀ n, (∀ k, k < n → ∃ j, j ≤ 10 ∧ D 3 k = nI j) → ∃ v, v ≤ 10 * n ∧ sm (gS D p kd) n = nI v
  | 0, _ => ⟨0, by omega, rfl⟩
  | n + 1, h => by
    obtain ⟨v, hv, e⟩ := gS_nat p kd n (fun k hk => h k (by omega))
    obtain ⟨j, hj, e2⟩ := h n (by omega)
    rw [sm, e]
    unfold gS
    split
    · rw [e2, nI_add]; exact ⟨v + j, by omega, rfl⟩
    · rw [Int32.add_zero]; exact ⟨v, by omega, rfl⟩
theorem gN_nat {D : Mem} (p kd : Int32) : ∀ n, (∀ k, k < n → D 4 k = 0 ∨ D 4 k = 1) → ∃ v, v ≤ n ∧ sm (gN D p kd) n = nI v
  | 0, _ => ⟨0, by omega, rfl⟩
  | n + 1, h => by
    obtain ⟨v, hv, e⟩ := gN_nat p kd n (fun k hk => h k (by omega))
    rw [sm, e]
    unfold gN
    split
    · rcases h n (by omega) with z | z
      · rw [z]; exact ⟨v + 1, by omega, nI_1 v⟩
      · rw [z]; exact ⟨v, by omega, Int32.add_zero _⟩
    · rw [Int32.add_zero]; exact ⟨v, by omega, rfl⟩
theorem TS_2 (C D : Mem) (t : Nat) (p kd : Int32) (n : Nat) : TS C D t p kd n t 2 = sm (gC D p kd) n := by unfold TS; rw [TM_o, o3_2]
theorem TS_3 (C D : Mem) (t : Nat) (p kd : Int32) (n : Nat) : TS C D t p kd n t 3 = sm (gN D p kd) n := by unfold TS; rw [TM_o, o3_3]
theorem TS_4 (C D : Mem) (t : Nat) (p kd : Int32) (n : Nat) : TS C D t p kd n t 4 = sm (gS D p kd) n := by unfold TS; rw [TM_o, o3_4]
theorem mean_D {n : Nat} {C D : Mem} (hP : RP n C D) (p kd w : Int32) : ∃ r, f_X12_meanNow p kd w D = some r ∧ (if (TS C D 8 p kd n 8 2) = 0 then some ((f_X11_asLong (-3)), TS C D 8 p kd n) else Option.bind (f_X11_fraction ((TS C D 8 p kd n 8 4).toInt64) ((TS C D 8 p kd n 8 2).toInt64) w) (fun r_73 => some (r_73, TS C D 8 p kd n))) = some (r, TS C D 8 p kd n) := by
  have hn := hP.1
  have h0 := hP.2.2.1
  unfold f_X12_meanNow
  rw [countOf_D hn h0, bnd_e, sumOf_D hn h0, TS_2, TS_4, gC_ctn]
  have hcn : ctn (isD D p kd) n ≤ 60 := Nat.le_trans (ctn_le _ _) hn
  rcases Nat.eq_zero_or_pos (ctn (isD D p kd) n) with z | z
  · rw [z, if_pos (show nI 0 = (0 : Int32) from rfl), if_pos (show nI 0 = (0 : Int32) from rfl)]
    exact ⟨_, rfl, rfl⟩
  · rw [if_neg (nI_ne0 z (by omega)), if_neg (nI_ne0 z (by omega)), bnd_e]
    obtain ⟨r, e1, e2⟩ := fr_eq (sm (gS D p kd) n).toInt64 (nI (ctn (isD D p kd) n)).toInt64 w (i2l_lo _) (i2l_pos z (by omega))
    rw [e1, e2, bnd_e, bnd_e]
    exact ⟨r, rfl, rfl⟩
theorem ok_mean {C D : Mem} (hI : Inv C D) (a1 : Int32) (a2 : Int32) (a3 : Int32) : ∃ (r : Int64) (C1 : Mem), f_X11_mean a1 a2 a3 C = some (r, C1) ∧ f_X12_mean a1 a2 a3 D = some r ∧ Inv C1 D := by
  obtain ⟨n, hP⟩ := hI.1
  unfold f_X11_mean f_X12_mean B_X11_mean_21 B_X12_mean_33
  rw [any_c, show f_X11_isKind a2 = f_X12_isKind a2 from rfl, show f_X11_isPart a3 = f_X12_in a3 0 1 from rfl]
  by_cases h1 : f_X12_isAny a1 = true
  · by_cases h2 : f_X12_isKind a2 = true
    · by_cases h3 : f_X12_in a3 0 1 = true
      · rw [if_pos h1, if_pos h1, if_pos h2, if_pos h2, if_pos h3, if_pos h3, tally_C hP _ _ (by decide), bnd_e]
        obtain ⟨r, e1, e2⟩ := mean_D hP a1 a2 a3
        rw [e1, bnd_e]
        exact ⟨r, _, e2, rfl, hI.keepC (Kp.TS (by decide) (by decide) _ _ _)⟩
      · exact ⟨_, C, by rw [if_pos h1, if_pos h2, if_neg h3], by rw [if_pos h1, if_pos h2, if_neg h3]; rfl, hI⟩
    · exact ⟨_, C, by rw [if_pos h1, if_neg h2], by rw [if_pos h1, if_neg h2]; rfl, hI⟩
  · exact ⟨_, C, by rw [if_neg h1], by rw [if_neg h1]; rfl, hI⟩
theorem ref_D {n : Nat} {D : Mem} (hn : n ≤ 60) (h0 : D 0 0 = nI n) (p kd : Int32) (j : Nat) (kx : Int32 → Int32 → Option Int64) : L_X12_refused_46 p kd (nI j) D kx FU 0 0 0 = kx (sm (gF D p kd j) n) (sm (gR D p kd j) n) := by
  refine up_FU (N := n) (by omega) (fun f (a : Int32 × Int32) i => L_X12_refused_46 p kd (nI j) D kx f a.1 a.2 i) (fun k => (sm (gF D p kd j) k, sm (gR D p kd j) k)) (kx (sm (gF D p kd j) n) (sm (gR D p kd j) n)) (fun f => ?_) (fun f k hk => ?_)
  · show L_X12_refused_46 p kd (nI j) D _ (f + 1) _ _ (nI n) = _
    rw [L_X12_refused_46, h0, if_pos (Int32.le_refl _)]
  · show L_X12_refused_46 p kd (nI j) D _ (f + 1) _ _ (nI k) = L_X12_refused_46 p kd (nI j) D _ f _ _ (nI (k + 1))
    rw [L_X12_refused_46, h0, if_neg (by rw [le_nI (by omega) (by omega)]; omega), isOf_D D p kd (by omega), bnd_e]
    unfold B_X12_refused_81 B_X12_refused_82 B_X12_refused_96 B_X12_refused_119 lt_
    simp only [gdn (show k < 60 by omega) (show 60 ≤ 1000000 by decide), cl_nI (show k ≤ 1000000 by omega), nI_1, sm, gF, gR, if_neg (show ¬ (1 : Int32) = 0 by decide), if_true]
    by_cases h : isD D p kd k = true
    · rw [if_pos h, if_pos h, if_pos h]
      by_cases h2 : D 3 k = nI j
      · rw [if_pos h2, if_pos h2, if_pos h2]
      · rw [if_neg h2, if_neg h2, if_neg h2]
    · rw [if_neg h, if_neg h, if_neg h]
theorem ok_refused {C D : Mem} (hI : Inv C D) (a1 : Int32) (a2 : Int32) (a3 : Int32) (a4 : Int32) : ∃ (r : Int64) (C1 : Mem), f_X11_refused a1 a2 a3 a4 C = some (r, C1) ∧ f_X12_refused a1 a2 a3 a4 D = some r ∧ Inv C1 D := by
  obtain ⟨n, hP⟩ := hI.1
  have hn := hP.1
  unfold f_X11_refused f_X12_refused B_X11_refused_29 B_X12_refused_31
  rw [any_c, show f_X11_isKind a2 = f_X12_isKind a2 from rfl, show f_X11_isOffer a3 = f_X12_isOffer a3 from rfl, show f_X11_isPart a4 = f_X12_in a4 0 1 from rfl]
  by_cases h1 : f_X12_isAny a1 = true
  · by_cases h2 : f_X12_isKind a2 = true
    · by_cases h3 : f_X12_isOffer a3 = true
      · by_cases h4 : f_X12_in a4 0 1 = true
        · rw [if_pos h1, if_pos h1, if_pos h2, if_pos h2, if_pos h3, if_pos h3, if_pos h4, if_pos h4, tally_C hP _ _ (by decide), bnd_e]
          obtain ⟨j, hj, rfl⟩ := in_nI (n := 10) rfl (by decide) h3
          rw [ref_D hn hP.2.2.1]
          simp only [gdn (show j < 11 by omega) (show 11 ≤ 1000000 by decide), cl_nI (show j ≤ 1000000 by omega)]
          have eF : TS C D 8 a1 a2 n 9 j = nI (ctn (bF D a1 a2 j) n) := by
            rw [← gF_ctn]
            show (if j < 11 then sm (gF D a1 a2 j) n else _) = _
            rw [if_pos (by omega)]
          have eR : TS C D 8 a1 a2 n 10 j = sm (gR D a1 a2 j) n := by
            show (if j < 11 then sm (gR D a1 a2 j) n else _) = _
            rw [if_pos (by omega)]
          rw [eF, eR, gF_ctn]
          have hcn : ctn (bF D a1 a2 j) n ≤ 60 := Nat.le_trans (ctn_le _ _) hn
          have hk : Inv (TS C D 8 a1 a2 n) D := hI.keepC (Kp.TS (by decide) (by decide) _ _ _)
          rcases Nat.eq_zero_or_pos (ctn (bF D a1 a2 j) n) with z | z
          · rw [z, if_pos (show nI 0 = (0 : Int32) from rfl), if_pos (show nI 0 = (0 : Int32) from rfl)]
            exact ⟨_, _, rfl, rfl, hk⟩
          · rw [if_neg (nI_ne0 z (by omega)), if_neg (nI_ne0 z (by omega))]
            obtain ⟨r, e1, e2⟩ := fr_eq (sm (gR D a1 a2 j) n).toInt64 (nI (ctn (bF D a1 a2 j) n)).toInt64 a4 (i2l_lo _) (i2l_pos z (by omega))
            rw [e1, e2, bnd_e, bnd_e]
            exact ⟨r, _, rfl, rfl, hk⟩
        · exact ⟨_, C, by rw [if_pos h1, if_pos h2, if_pos h3, if_neg h4], by rw [if_pos h1, if_pos h2, if_pos h3, if_neg h4]; rfl, hI⟩
      · exact ⟨_, C, by rw [if_pos h1, if_pos h2, if_neg h3], by rw [if_pos h1, if_pos h2, if_neg h3]; rfl, hI⟩
    · exact ⟨_, C, by rw [if_pos h1, if_neg h2], by rw [if_pos h1, if_neg h2]; rfl, hI⟩
  · exact ⟨_, C, by rw [if_neg h1], by rw [if_neg h1]; rfl, hI⟩
/-! moves -/
theorem sub_l {a b : Nat} (ha : a ≤ 1000000) (hb : b ≤ 1000000) : (nI a - nI b).toInt64 = lN a - lN b := by
  apply Int64.toInt_inj.mp
  rw [Int32.toInt_toInt64, pk_sub_toInt (by omega) (by omega), Int64.toInt_sub, lN_toInt (by omega), lN_toInt (by omega), Int.bmod_eq_of_le (by omega) (by omega)]
theorem mv_eq {a b n m : Nat} (ha : a ≤ 1000) (hb : b ≤ 1000) (hn : n ≤ 60) (hm : m ≤ 60) (hn0 : 0 < n) (hm0 : 0 < m) (w : Int32) : ∃ r, f_X11_fraction ((nI a * nI m - nI b * nI n).toInt64) ((nI n * nI m).toInt64) w = some r ∧ f_X12_lowest ((nI a).toInt64 * (nI m).toInt64 - (nI b).toInt64 * (nI n).toInt64) ((nI n).toInt64 * (nI m).toInt64) w = some r := by
  have h1 : a * m ≤ 1000 * 60 := Nat.mul_le_mul ha hm
  have h2 : b * n ≤ 1000 * 60 := Nat.mul_le_mul hb hn
  have h3 : n * m ≤ 60 * 60 := Nat.mul_le_mul hn hm
  have h4 : 0 < n * m := Nat.mul_pos hn0 hm0
  rw [pk_mul, pk_mul, pk_mul, sub_l (by omega) (by omega), nI_l (n := a) (by omega), nI_l (n := b) (by omega), nI_l (n := n) (by omega), nI_l (n := m) (by omega), lN_mul, lN_mul, lN_mul, nI_l (by omega)]
  refine fr_eq _ _ w ?_ ?_
  · rw [Int64.toInt_sub, lN_toInt (by omega), lN_toInt (by omega), Int.bmod_eq_of_le (by omega) (by omega)]
    omega
  · rw [Int64.lt_iff_toInt_lt, lN_toInt (by omega)]
    have e : (0 : Int64).toInt = 0 := by decide
    omega
theorem l0 {n : Nat} (h : n ≤ 1000000) : (lg_cmp (nI n).toInt64 0) = 0 ↔ n = 0 := by
  rw [lg0, nI_l (by omega), lN0 (by omega)]
theorem ok_moves {C D : Mem} (hI : Inv C D) (a1 : Int32) (a2 : Int32) (a3 : Int32) : ∃ (r : Int64) (C1 : Mem), f_X11_moves a1 a2 a3 C = some (r, C1) ∧ f_X12_moves a1 a2 a3 D = some r ∧ Inv C1 D := by
  obtain ⟨n, hP⟩ := hI.1
  have hn := hP.1
  have h0 := hP.2.2.1
  have hof := fun k hk => (hP.2.2.2.2.2 k hk).2.2.2.2.2.1
  have han := fun k hk => (hP.2.2.2.2.2 k hk).2.2.2.2.2.2.1
  have core : ∀ (k1 k2 : Int32) (b : Bool), ∃ (r : Int64), (let C1 := TS (TS C D 8 a1 k1 n) D 11 a1 k2 n; (if C1 8 2 = 0 then some (f_X11_asLong (-3), C1) else if C1 11 2 = 0 then some (f_X11_asLong (-3), C1) else if b = true then Option.bind (f_X11_fraction (((C1 8 3 * C1 11 2) - (C1 11 3 * C1 8 2)).toInt64) ((C1 8 2 * C1 11 2).toInt64) a3) (fun r => some (r, C1)) else Option.bind (f_X11_fraction (((C1 8 4 * C1 11 2) - (C1 11 4 * C1 8 2)).toInt64) ((C1 8 2 * C1 11 2).toInt64) a3) (fun r => some (r, C1))) = some (r, C1)) ∧ (if lg_cmp ((sm (gC D a1 k1) n).toInt64) 0 = 0 then some (f_X12_no (-3)) else if lg_cmp ((sm (gC D a1 k2) n).toInt64) 0 = 0 then some (f_X12_no (-3)) else if b = true then f_X12_lowest ((sm (gN D a1 k1) n).toInt64 * (sm (gC D a1 k2) n).toInt64 - (sm (gN D a1 k2) n).toInt64 * (sm (gC D a1 k1) n).toInt64) ((sm (gC D a1 k1) n).toInt64 * (sm (gC D a1 k2) n).toInt64) a3 else f_X12_lowest ((sm (gS D a1 k1) n).toInt64 * (sm (gC D a1 k2) n).toInt64 - (sm (gS D a1 k2) n).toInt64 * (sm (gC D a1 k1) n).toInt64) ((sm (gC D a1 k1) n).toInt64 * (sm (gC D a1 k2) n).toInt64) a3) = some r := by
    intro k1 k2 b
    have e8 : ∀ i, TS (TS C D 8 a1 k1 n) D 11 a1 k2 n 8 i = TS C D 8 a1 k1 n 8 i := fun i => by
      have : TS (TS C D 8 a1 k1 n) D 11 a1 k2 n 8 = TS C D 8 a1 k1 n 8 := TM_k _ _ _ _ _ (Or.inl (by decide))
      rw [this]
    simp only [e8, TS_2, TS_3, TS_4]
    obtain ⟨s1, hs1, es1⟩ := gS_nat a1 k1 n hof
    obtain ⟨s2, hs2, es2⟩ := gS_nat a1 k2 n hof
    obtain ⟨t1, ht1, et1⟩ := gN_nat a1 k1 n han
    obtain ⟨t2, ht2, et2⟩ := gN_nat a1 k2 n han
    have c1 : ctn (isD D a1 k1) n ≤ 60 := Nat.le_trans (ctn_le _ _) hn
    have c2 : ctn (isD D a1 k2) n ≤ 60 := Nat.le_trans (ctn_le _ _) hn
    rw [gC_ctn, gC_ctn, es1, es2, et1, et2]
    generalize ctn (isD D a1 k1) n = x at c1 ⊢
    generalize ctn (isD D a1 k2) n = y at c2 ⊢
    rcases Nat.eq_zero_or_pos x with z | z
    · subst z
      rw [if_pos (show nI 0 = (0 : Int32) from rfl), if_pos ((l0 (by decide)).mpr rfl)]
      exact ⟨_, rfl, rfl⟩
    · rw [if_neg (nI_ne0 z (by omega)), if_neg (fun q => absurd ((l0 (by omega)).mp q) (by omega))]
      rcases Nat.eq_zero_or_pos y with z2 | z2
      · subst z2
        rw [if_pos (show nI 0 = (0 : Int32) from rfl), if_pos ((l0 (by decide)).mpr rfl)]
        exact ⟨_, rfl, rfl⟩
      · rw [if_neg (nI_ne0 z2 (by omega)), if_neg (fun q => absurd ((l0 (by omega)).mp q) (by omega))]
        cases b
        · obtain ⟨r, e1, e2⟩ := mv_eq (a := s1) (b := s2) (n := x) (m := y) (by omega) (by omega) c1 c2 z z2 a3
          refine ⟨r, ?_, ?_⟩
          · simp only [e1, bnd_e, Bool.false_eq_true, if_false]
          · simp only [e2, Bool.false_eq_true, if_false]
        · obtain ⟨r, e1, e2⟩ := mv_eq (a := t1) (b := t2) (n := x) (m := y) (by omega) (by omega) c1 c2 z z2 a3
          refine ⟨r, ?_, ?_⟩
          · simp only [e1, bnd_e, if_true]
          · simp only [e2, if_true]
  have both : ∀ (k1 k2 : Int32), f_X11_lessKind a2 = k2 → ∃ (r : Int64) (C1 : Mem), B_X11_moves_43 a1 k1 a1 a2 a3 C = some (r, C1) ∧ B_X12_moves_61 k2 a1 a2 a3 k1 D = some r ∧ Inv C1 D := by
    intro k1 k2 hk2
    obtain ⟨r, e1, e2⟩ := core k1 k2 (decide (a2 = 2))
    refine ⟨r, _, ?_, ?_, ((hI.keepC (Kp.TS (D := D) (t := 8) (by decide) (by decide) a1 k1 n)).keepC (Kp.TS (D := D) (t := 11) (by decide) (by decide) a1 k2 n))⟩
    · rw [← e1]
      unfold B_X11_moves_43 B_X11_moves_86 B_X11_moves_114 B_X11_moves_138
      have hP' : RP n (TS C D 8 a1 k1 n) D := RP_TM hP 8 (by decide) _ _ _
      rw [tally_C hP _ _ (by decide), bnd_e, hk2, tally_C hP' _ _ (by decide), bnd_e]
      by_cases h : a2 = 2
      · simp only [h, if_true, decide_true]
      · simp only [h, if_false, decide_false, Bool.false_eq_true]
    · rw [← e2]
      unfold B_X12_moves_61 B_X12_moves_97 B_X12_moves_127 B_X12_moves_153
      simp only [countOf_D hn h0, noesOf_D hn h0, sumOf_D hn h0, bnd_e, lt_, bnd_id]
      by_cases h : a2 = 2
      · simp only [h, if_true, decide_true]
      · simp only [h, if_false, decide_false, Bool.false_eq_true]
  unfold f_X11_moves f_X12_moves B_X11_moves_22 B_X12_moves_25
  rw [any_c, show f_X11_isWithin a2 2 = f_X12_in a2 0 2 from rfl, show f_X11_isPart a3 = f_X12_in a3 0 1 from rfl]
  by_cases h1 : f_X12_isAny a1 = true
  · by_cases h2 : f_X12_in a2 0 2 = true
    · by_cases h3 : f_X12_in a3 0 1 = true
      · rw [if_pos h1, if_pos h1, if_pos h2, if_pos h2, if_pos h3, if_pos h3]
        unfold B_X12_moves_41
        by_cases q1 : a2 = 1
        · rw [if_pos q1, if_pos q1, if_neg (by rw [q1]; decide), if_pos q1]
          exact both 3 0 (by rw [q1]; rfl)
        · rw [if_neg q1, if_neg q1]
          by_cases q0 : a2 = 0
          · rw [if_pos q0]
            exact both 0 1 (by rw [q0]; rfl)
          · rw [if_neg q0, if_neg q1]
            exact both 0 2 (by unfold f_X11_lessKind; rw [if_neg q0, if_neg q1])
      · exact ⟨_, C, by rw [if_pos h1, if_pos h2, if_neg h3], by rw [if_pos h1, if_pos h2, if_neg h3]; rfl, hI⟩
    · exact ⟨_, C, by rw [if_pos h1, if_neg h2], by rw [if_pos h1, if_neg h2]; rfl, hI⟩
  · exact ⟨_, C, by rw [if_neg h1], by rw [if_neg h1]; rfl, hI⟩
