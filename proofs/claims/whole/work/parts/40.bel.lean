/-! beliefs -/
theorem ix_c (b o : Nat) : nI b * 11 + nI o = nI (11 * b + o) := by rw [show (11 : Int32) = nI 11 from rfl, pk_mul, nI_add, Nat.mul_comm]
theorem ix_d (b o : Nat) : 11 * nI b + nI o = nI (11 * b + o) := by rw [show (11 : Int32) = nI 11 from rfl, pk_mul, nI_add]
theorem said_C {C D : Mem} (h : ∀ k, k < 88 → C 20 k = D 10 k) {b o : Nat} (hb : b < 8) (ho : o < 11) : f_X0_said (nI b) (nI o) C = some (D 10 (11 * b + o)) := by
  unfold f_X0_said
  rw [ix_c, gdn (show 11 * b + o < 88 by omega) (by decide), cl_nI (by omega), h _ (by omega)]
def vB (D : Mem) (b o : Nat) : Int32 := (10 - nI o) * D 10 (11 * b + o)
theorem hisBest_C {C D : Mem} (h : ∀ k, k < 88 → C 20 k = D 10 k) {b : Nat} (hb : b < 8) : f_X0_bestOffer (nI b) C = some (nI (bs (vB D b) 11), up2 C 21 (fw 11 (vB D b) (C 21))) := by
  unfold f_X0_bestOffer
  have h9 := up_FU (N := 11) (by decide) (fun f a i => L_X0_bestOffer_2 (nI b) (fun C_31 => Option.bind (f_X11_firstGreatest 21 11 C_31) (fun r_35 => some (r_35, C_31))) f i a) (fun k => up2 C 21 (fw k (vB D b) (C 21))) (some (nI (bs (vB D b) 11), up2 C 21 (fw 11 (vB D b) (C 21)))) (fun f => ?_) (fun f k hk => ?_)
  · simp only [fw_0, up2_self] at h9
    exact h9
  · show L_X0_bestOffer_2 (nI b) _ (f + 1) (nI 11) _ = _
    rw [L_X0_bestOffer_2, if_pos (show (11 : Int32) ≤ nI 11 from Int32.le_refl _), first_C 21 (vB D b) _ (fun j hj => by rw [up2_s]; exact if_pos hj), bnd_e]
  · show L_X0_bestOffer_2 (nI b) _ (f + 1) (nI k) _ = L_X0_bestOffer_2 (nI b) _ f (nI (k + 1)) _
    rw [L_X0_bestOffer_2, show (11 : Int32) = nI 11 from rfl, if_neg (by rw [le_nI (by omega) (by omega)]; omega)]
    rw [said_C (C := up2 C 21 (fw k (vB D b) (C 21))) (D := D) (by rw [up2_n _ _ (show 20 ≠ 21 by decide)]; exact h) hb hk, bnd_e, gdn hk (by decide)]
    unfold sto lt_
    rw [cl_nI (by omega), nI_1]
    show L_X0_bestOffer_2 (nI b) _ f (nI (k + 1)) (st2 _ 21 k _) = _
    unfold st2
    rw [up2_up2, up2_s]
    exact congrArg _ (congrArg _ (fw_succ k (vB D b) (C 21)))
theorem his_D {D : Mem} {b : Nat} (hb : b < 8) : f_X12_hisNow (nI b) D = some (nI (bs (vB D b) 11)) := by
  unfold f_X12_hisNow
  have hF := FU_ge
  have h9 := up_loop (N := 11) (fun f a i => L_X12_hisNow_4 (nI b) D (fun v => some v) f a i) (fun j => nI (bs (vB D b) j)) (some (nI (bs (vB D b) 11))) (fun f => ?_) (fun f j hj => ?_) 10 1 FU rfl (by omega)
  · rw [bs_1] at h9
    exact h9
  · show L_X12_hisNow_4 (nI b) D _ (f + 1) _ (nI 11) = _
    rw [L_X12_hisNow_4, if_pos (show (11 : Int32) ≤ nI 11 from Int32.le_refl _)]
  · show L_X12_hisNow_4 (nI b) D _ (f + 1) (nI (bs (vB D b) j)) (nI j) = L_X12_hisNow_4 (nI b) D _ f (nI (bs (vB D b) (j + 1))) (nI (j + 1))
    have hb2 := bs_lt (vB D b) j
    rw [L_X12_hisNow_4, if_neg (show ¬ (11 : Int32) ≤ nI j from fun q => by have := (le_nI (a := 11) (by decide) (by omega)).mp q; omega), ix_d, ix_d, gdn (show 11 * b + j < 88 by omega) (by decide), gdn (show 11 * b + bs (vB D b) j < 88 by omega) (by decide), cl_nI (by omega), cl_nI (by omega)]
    unfold B_X12_hisNow_50 lt_
    rw [nI_1, bs]
    show (if vB D b j ≤ vB D b (bs (vB D b) j) then _ else _) = _
    split <;> rfl
theorem Kp21 (C : Mem) (f : Nat → Int32) : Kp C (up2 C 21 f) := Kp.up f rfl (by decide) (by decide)
theorem his_both {C D : Mem} (hI : Inv C D) {b : Nat} (hb : b < 8) : ∃ (x : Int32) (C1 : Mem), f_X0_bestOffer (nI b) C = some (x, C1) ∧ f_X12_hisNow (nI b) D = some x ∧ Inv C1 D :=
  ⟨_, _, hisBest_C hI.2.2.1.2 hb, his_D hb, hI.keepC (Kp21 _ _)⟩
theorem ok_hisBest {C D : Mem} (hI : Inv C D) (a1 : Int32) : ∃ (r : Int32) (C1 : Mem), f_X11_hisBest a1 C = some (r, C1) ∧ f_X12_hisBest a1 D = some r ∧ Inv C1 D := by
  obtain ⟨n, hn, e1, e2, hp⟩ := hI.2.2.1.1
  unfold f_X11_hisBest f_X12_hisBest f_X0_has f_X12_isBelief
  rw [e1, hasG (by omega), e2, bnd_id, bnd2_id]
  by_cases h1 : f_X12_in a1 0 (nI n - 1) = true
  · rw [if_pos h1, if_pos h1]
    obtain ⟨b, hb, rfl⟩ := in_lt (by omega) h1
    exact his_both hI (by omega)
  · exact ⟨_, C, by rw [if_neg h1], by rw [if_neg h1], hI⟩
theorem ok_belief {C D : Mem} (hI : Inv C D) (a1 : Int32) : ∃ (r : Int32) (C1 : Mem) (D1 : Mem), f_X11_belief a1 C = some (r, C1) ∧ f_X12_belief a1 D = some (r, D1) ∧ Inv C1 D1 := by
  obtain ⟨n, hn, e1, e2, hp⟩ := hI.2.2.1.1
  unfold f_X11_belief f_X12_belief
  rw [show f_X11_isPeople a1 = f_X12_isPeople a1 from rfl]
  by_cases h1 : f_X12_isPeople a1 = true
  · rw [if_pos h1, if_pos h1, bnd2_id]
    unfold f_X0_add
    by_cases hf : n = 8
    · subst hf
      exact ⟨-4, C, D, by rw [e1, if_neg (by decide)], by rw [e2, if_pos (show nI 8 = (8 : Int32) from rfl)], hI⟩
    · have hlt : n < 8 := by omega
      simp only [sto]
      have i1 : ∀ (M : Mem) (k i : Nat) (v : Int32), k ≠ 18 → st2 M k i v 18 3 = M 18 3 := fun M k i v h => by rw [st2_n _ _ _ (Ne.symm h)]
      have i0 : ∀ (M : Mem) (k i : Nat) (v : Int32), k ≠ 0 → st2 M k i v 0 12 = M 0 12 := fun M k i v h => by rw [st2_n _ _ _ (Ne.symm h)]
      simp only [i1 _ 19 _ _ (by decide), i0 _ 9 _ _ (by decide), e1, e2, gdn hlt (show 8 ≤ 1000000 by decide), cl_nI (show n ≤ 1000000 by omega)]
      rw [if_pos (show nI n < 8 from (lt_nI (b := 8) (by omega) (by decide)).mpr hlt), if_neg (show ¬ nI n = (8 : Int32) from fun q => hf ((eq_nI (b := 8) (by omega) (by decide)).mp q))]
      refine ⟨_, _, _, rfl, by rw [show ∀ (M : Mem) (v : Int32), st2 M 0 12 v 0 12 = v from fun M v => rfl, show ∀ (M : Mem) (v : Int32), st2 M 18 3 v 18 3 = v from fun M v => rfl], ?_⟩
      obtain ⟨h1, h2, h3, h5, h6, h7, h8, h9⟩ := hI
      refine ⟨keepP h1 rfl rfl rfl rfl rfl rfl rfl rfl rfl rfl rfl rfl rfl rfl rfl rfl, keepW h2 rfl rfl rfl rfl rfl rfl, ⟨⟨n + 1, hlt, nI_1 n, nI_1 n, fun k hk => ?_⟩, h3.2⟩, keepT h5 rfl rfl rfl rfl, keepS h6 rfl rfl, keepR h7 rfl rfl rfl rfl rfl rfl, keepH h8 rfl rfl rfl rfl rfl rfl rfl rfl rfl, keepG h9 (fun c a b => ?_) rfl rfl⟩
      · show upd (C 19) n a1 k = upd (D 9) n a1 k
        by_cases q : k = n
        · subst q
          simp only [upd_s]
        · simp only [upd_n _ _ q]
          exact hp k (by omega)
      · rw [st2_n _ _ _ (by omega), st2_n _ _ _ (by omega)]
  · exact ⟨-2, C, D, by rw [if_neg h1], by rw [if_neg h1], hI⟩
theorem ok_believe {C D : Mem} (hI : Inv C D) (a1 : Int32) (a2 : Int32) (a3 : Int32) : ∃ (r : Int32) (C1 : Mem) (D1 : Mem), f_X11_believe a1 a2 a3 C = some (r, C1) ∧ f_X12_believe a1 a2 a3 D = some (r, D1) ∧ Inv C1 D1 := by
  obtain ⟨n, hn, e1, e2, hp⟩ := hI.2.2.1.1
  unfold f_X11_believe f_X12_believe f_X0_has f_X12_isBelief
  rw [e1, hasG (by omega), e2, show f_X11_isOffer a2 = f_X12_isOffer a2 from rfl, show f_X11_isWithin a3 10 = f_X12_in a3 0 10 from rfl]
  by_cases h1 : f_X12_in a1 0 (nI n - 1) = true
  · by_cases h2 : f_X12_isOffer a2 = true
    · by_cases h3 : f_X12_in a3 0 10 = true
      · rw [if_pos h1, if_pos h1, if_pos h2, if_pos h2, if_pos h3, if_pos h3, bnd2_id]
        obtain ⟨b, hb, rfl⟩ := in_lt (by omega) h1
        obtain ⟨o, ho, rfl⟩ := in_nI (n := 10) rfl (by decide) h2
        unfold f_X0_change
        rw [said_C hI.2.2.1.2 (by omega) (by omega), bnd_e, ix_c, ix_d, gdn (show 11 * b + o < 88 by omega) (by decide), gdn (show 11 * b + o < 88 by omega) (by decide), cl_nI (by omega)]
        simp only [lt_, sto, gdn (show 11 * b + o < 88 by omega) (show 88 ≤ 1000000 by decide)]
        refine ⟨_, _, _, rfl, rfl, ?_⟩
        obtain ⟨h1, h2, h3, h5, h6, h7, h8, h9⟩ := hI
        refine ⟨keepP h1 rfl rfl rfl rfl rfl rfl rfl rfl rfl rfl rfl rfl rfl rfl rfl rfl, keepW h2 rfl rfl rfl rfl rfl rfl, ⟨h3.1, fun k hk => ?_⟩, keepT h5 rfl rfl rfl rfl, keepS h6 rfl rfl, keepR h7 rfl rfl rfl rfl rfl rfl, keepH h8 rfl rfl rfl rfl rfl rfl rfl rfl rfl, keepG h9 (fun c a b => ?_) rfl rfl⟩
        · show upd (C 20) (11 * b + o) a3 k = upd (D 10) (11 * b + o) a3 k
          by_cases q : k = 11 * b + o
          · subst q
            simp only [upd_s]
          · simp only [upd_n _ _ q]
            exact h3.2 k hk
        · rw [st2_n _ _ _ (by omega)]
      · exact ⟨-2, C, D, by rw [if_pos h1, if_pos h2, if_neg h3], by rw [if_pos h1, if_pos h2, if_neg h3], hI⟩
    · exact ⟨-2, C, D, by rw [if_pos h1, if_neg h2], by rw [if_pos h1, if_neg h2], hI⟩
  · exact ⟨-2, C, D, by rw [if_neg h1], by rw [if_neg h1], hI⟩
theorem am_abs (x : Int32) : f_X12_amount x = jabs x := by
  unfold f_X12_amount jabs
  rw [Int32.zero_sub]
/-- the amounts by which a belief is off -/
def aO (D : Mem) (n : Nat) (b : Nat) (p v : Int32) (o : Nat) : Int32 := jabs (D 10 (11 * b + o) * v - 10 * nI (ctn (yD D p (nI o)) n))
theorem off_C {C D : Mem} {n : Nat} (h3 : C 14 3 = nI n) (hp : ∀ k, k < n → C 15 k = D 7 k ∧ C 16 k = D 8 k ∧ ∃ b, b < 2048 ∧ D 8 k = nI b) (hn : n ≤ 12) (h : ∀ k, k < 88 → C 20 k = D 10 k) {b : Nat} (hb : b < 8) (p v : Int32) : f_X11_amountsOff (nI b) p v C = some (sm (aO D n b p v) 11) := by
  unfold f_X11_amountsOff
  refine up_FU (N := 11) (by decide) (fun f a i => L_X11_amountsOff_6 (nI b) p v C (fun w => some w) f a i) (sm (aO D n b p v)) _ (fun f => ?_) (fun f k hk => ?_)
  · show L_X11_amountsOff_6 (nI b) p v C _ (f + 1) _ (nI 11) = _
    rw [L_X11_amountsOff_6, if_pos (show (11 : Int32) ≤ nI 11 from Int32.le_refl _)]
  · show L_X11_amountsOff_6 (nI b) p v C _ (f + 1) _ (nI k) = L_X11_amountsOff_6 (nI b) p v C _ f _ (nI (k + 1))
    rw [L_X11_amountsOff_6, if_neg (show ¬ (11 : Int32) ≤ nI k from fun q => by have := (le_nI (a := 11) (by decide) (by omega)).mp q; omega), said_C h hb hk, bnd_e, yeses_C h3 hp hn, bnd_e]
    simp only [lt_, nI_1, sm, aO]
theorem off_D {D : Mem} {n : Nat} (e2 : D 0 9 = nI n) (hn : n ≤ 12) {b : Nat} (hb : b < 8) (p v : Int32) (kx : Int32 → Option Int64) : L_X12_off_123 (nI b) p v D kx FU 0 0 = kx (sm (aO D n b p v) 11) := by
  refine up_FU (N := 11) (by decide) (fun f a i => L_X12_off_123 (nI b) p v D kx f a i) (sm (aO D n b p v)) _ (fun f => ?_) (fun f k hk => ?_)
  · show L_X12_off_123 (nI b) p v D _ (f + 1) _ (nI 11) = _
    rw [L_X12_off_123, if_pos (show (11 : Int32) ≤ nI 11 from Int32.le_refl _)]
  · show L_X12_off_123 (nI b) p v D _ (f + 1) _ (nI k) = L_X12_off_123 (nI b) p v D _ f _ (nI (k + 1))
    rw [L_X12_off_123, if_neg (show ¬ (11 : Int32) ≤ nI k from fun q => by have := (le_nI (a := 11) (by decide) (by omega)).mp q; omega), ix_d, gdn (show 11 * b + k < 88 by omega) (by decide), yesesOf_D hn e2, bnd_e, cl_nI (by omega), am_abs]
    simp only [lt_, nI_1, sm, aO]
theorem ok_off {C D : Mem} (hI : Inv C D) (a1 : Int32) (a2 : Int32) (a3 : Int32) : ∃ (r : Int64) (C1 : Mem), f_X11_off a1 a2 a3 C = some (r, C1) ∧ f_X12_off a1 a2 a3 D = some r ∧ Inv C1 D := by
  obtain ⟨n, hn, e1, e2, hp⟩ := hI.2.2.1.1
  obtain ⟨m, hm, c3, d9, hr⟩ := hI.2.1
  have h20 := hI.2.2.1.2
  unfold f_X11_off f_X12_off f_X0_has f_X12_isBelief B_X11_off_26 B_X12_off_26
  rw [e1, hasG (by omega), e2, show f_X11_isWithin a2 1 = f_X12_in a2 0 1 from rfl, show f_X11_isPart a3 = f_X12_in a3 0 1 from rfl]
  by_cases h1 : f_X12_in a1 0 (nI n - 1) = true
  · by_cases h2 : f_X12_in a2 0 1 = true
    · by_cases h3 : f_X12_in a3 0 1 = true
      · rw [if_pos h1, if_pos h1, if_pos h2, if_pos h2, if_pos h3, if_pos h3]
        obtain ⟨b, hb, rfl⟩ := in_lt (by omega) h1
        obtain ⟨w, hw, rfl⟩ := in_nI (n := 1) rfl (by decide) h2
        rw [gdn (show b < 8 by omega) (by decide), gdn (show b < 8 by omega) (by decide), cl_nI (by omega)]
        simp only [lt_]
        rw [hp b hb, howMany_C c3 hr hm, rowsOf_D hm d9, bnd_e, bnd_e]
        have hcn : ctn (rOf D (D 9 b)) m ≤ 12 := Nat.le_trans (ctn_le _ _) hm
        generalize hc : ctn (rOf D (D 9 b)) m = c at hcn ⊢
        rcases Nat.eq_zero_or_pos c with z | z
        · subst z
          rw [if_pos (show nI 0 = (0 : Int32) from rfl), if_pos (show nI 0 = (0 : Int32) from rfl)]
          exact ⟨_, _, rfl, rfl, hI⟩
        · rw [if_neg (nI_ne0 z (by omega)), if_neg (nI_ne0 z (by omega))]
          rcases (show w = 0 ∨ w = 1 by omega) with q | q
          · subst q
            rw [if_pos (show nI 0 = (0 : Int32) from rfl), if_neg (show ¬ nI 0 = (1 : Int32) by decide), off_C c3 hr hm h20 (by omega), bnd_e, off_D d9 hm (by omega)]
            obtain ⟨r, f1, f2⟩ := fr_eq (sm (aO D m b (D 9 b) (nI c)) 11).toInt64 (nI (10 * c)).toInt64 a3 (i2l_lo _) (i2l_pos (by omega) (by omega))
            have ec : 10 * (nI c).toInt64 = (nI (10 * c)).toInt64 := by rw [nI_l (by omega), nI_l (by omega), show (10 : Int64) = lN 10 from rfl, lN_mul]
            have ed : 10 * nI c = nI (10 * c) := by rw [show (10 : Int32) = nI 10 from rfl, pk_mul]
            rw [ed, ec, f1, f2]
            exact ⟨r, _, rfl, rfl, hI⟩
          · subst q
            rw [if_neg (show ¬ nI 1 = (0 : Int32) by decide), if_pos (show nI 1 = (1 : Int32) from rfl), bestOffer_C c3 hr hm, bnd2_e]
            have hb1 := bs_lt (vR D m (D 9 b)) 11
            have k17 : ∀ (f : Nat → Int32), Inv (up2 C 17 f) D := fun f => hI.keepC (Kp17 _ _)
            have r17 : ∀ (f : Nat → Int32) (p o : Int32), f_X6_yeses p o (up2 C 17 f) = some (nI (ctn (yD D p o) m)) := fun f p o => yeses_C (by rw [up2_n _ _ (by decide)]; exact c3) (by rw [up2_n _ _ (show 15 ≠ 17 by decide), up2_n _ _ (show 16 ≠ 17 by decide)]; exact hr) hm p o
            have r21 : ∀ (f g : Nat → Int32) (p o : Int32), f_X6_yeses p o (up2 (up2 C 17 f) 21 g) = some (nI (ctn (yD D p o) m)) := fun f g p o => yeses_C (by rw [up2_n _ _ (by decide), up2_n _ _ (by decide)]; exact c3) (by rw [up2_n _ _ (show 15 ≠ 21 by decide), up2_n _ _ (show 15 ≠ 17 by decide), up2_n _ _ (show 16 ≠ 21 by decide), up2_n _ _ (show 16 ≠ 17 by decide)]; exact hr) hm p o
            unfold f_X6_bring
            rw [r17, bnd_e, bnd_e, hisBest_C (C := up2 C 17 (fw 11 (vR D m (D 9 b)) (C 17))) (D := D) (by rw [up2_n _ _ (show 20 ≠ 17 by decide)]; exact h20) (by omega), bnd2_e, r21, bnd_e, bnd_e]
            rw [best_D d9 hm, hc, if_neg (nI_ne0 z (by omega)), bnd_e, his_D (by omega), bnd_e, yesesOf_D hm d9, bnd_e, yesesOf_D hm d9, bnd_e]
            obtain ⟨r, f1, f2⟩ := fr_eq ((10 - nI (bs (vR D m (D 9 b)) 11)) * nI (ctn (yD D (D 9 b) (nI (bs (vR D m (D 9 b)) 11))) m) - (10 - nI (bs (vB D b) 11)) * nI (ctn (yD D (D 9 b) (nI (bs (vB D b) 11))) m)).toInt64 (nI c).toInt64 a3 (i2l_lo _) (i2l_pos z (by omega))
            rw [f1, f2]
            exact ⟨r, _, rfl, rfl, (k17 _).keepC (Kp21 _ _)⟩
      · exact ⟨_, C, by rw [if_pos h1, if_pos h2, if_neg h3], by rw [if_pos h1, if_pos h2, if_neg h3]; rfl, hI⟩
    · exact ⟨_, C, by rw [if_pos h1, if_neg h2], by rw [if_pos h1, if_neg h2]; rfl, hI⟩
  · exact ⟨_, C, by rw [if_neg h1], by rw [if_neg h1]; rfl, hI⟩
