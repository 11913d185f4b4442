/-! rows -/
theorem hasG {n : Nat} (hn : n ≤ 1000000) (a : Int32) : (if a < 0 then false else (if nI n ≤ a then false else true)) = f_X12_in a 0 (nI n - 1) := by
  unfold f_X12_in
  by_cases h : a < 0
  · rw [if_pos h, if_pos h]
  · rw [if_neg h, if_neg h]
    have key : nI n ≤ a ↔ nI n - 1 < a := by
      rw [Int32.le_iff_toInt_le, Int32.lt_iff_toInt_lt, show (1 : Int32) = nI 1 from rfl, pk_sub_toInt (by omega) (by decide), nI_toInt (by omega)]
      omega
    by_cases h2 : nI n ≤ a
    · rw [if_pos h2, if_pos (key.mp h2)]
    · rw [if_neg h2, if_neg (fun q => h2 (key.mpr q))]
def rOf (D : Mem) (p : Int32) (r : Nat) : Bool := if p = -1 then true else if D 7 r = p then true else false
theorem rowsOf_D {n : Nat} {D : Mem} (hn : n ≤ 12) (h0 : D 0 9 = nI n) (p : Int32) : f_X12_rowsOf p D = some (nI (ctn (rOf D p) n)) := by
  unfold f_X12_rowsOf
  refine up_FU (N := n) (by omega) (fun f a i => L_X12_rowsOf_4 p D (fun v => some v) f a i) (fun k => nI (ctn (rOf D p) k)) _ (fun f => ?_) (fun f k hk => ?_)
  · show L_X12_rowsOf_4 p D _ (f + 1) _ (nI n) = _
    rw [L_X12_rowsOf_4, h0, if_pos (Int32.le_refl _)]
  · show L_X12_rowsOf_4 p D _ (f + 1) _ (nI k) = L_X12_rowsOf_4 p D _ f _ (nI (k + 1))
    rw [L_X12_rowsOf_4, h0, if_neg (by rw [le_nI (by omega) (by omega)]; omega)]
    unfold B_X12_rowsOf_28 B_X12_rowsOf_33 lt_
    simp only [ctn, rOf, nI_1, gdn (show k < 12 by omega) (show 12 ≤ 1000000 by decide), cl_nI (show k ≤ 1000000 by omega)]
    by_cases h : p = -1
    · simp only [h, if_true]
    · by_cases h2 : D 7 k = p
      · simp only [h, h2, if_true, if_false]
      · simp only [h, h2, if_false, Bool.false_eq_true, Nat.add_zero, Int32.add_zero]
def yD (D : Mem) (p o : Int32) (r : Nat) : Bool := rOf D p r && f_X12_has (D 8 r) o
theorem yesesOf_D {n : Nat} {D : Mem} (hn : n ≤ 12) (h0 : D 0 9 = nI n) (p o : Int32) : f_X12_yesesOf p o D = some (nI (ctn (yD D p o) n)) := by
  unfold f_X12_yesesOf
  refine up_FU (N := n) (by omega) (fun f a i => L_X12_yesesOf_5 p o D (fun v => some v) f a i) (fun k => nI (ctn (yD D p o) k)) _ (fun f => ?_) (fun f k hk => ?_)
  · show L_X12_yesesOf_5 p o D _ (f + 1) _ (nI n) = _
    rw [L_X12_yesesOf_5, h0, if_pos (Int32.le_refl _)]
  · show L_X12_yesesOf_5 p o D _ (f + 1) _ (nI k) = L_X12_yesesOf_5 p o D _ f _ (nI (k + 1))
    rw [L_X12_yesesOf_5, h0, if_neg (by rw [le_nI (by omega) (by omega)]; omega)]
    unfold B_X12_yesesOf_31 B_X12_yesesOf_49 B_X12_yesesOf_50 lt_
    simp only [ctn, yD, rOf, nI_1, gdn (show k < 12 by omega) (show 12 ≤ 1000000 by decide), cl_nI (show k ≤ 1000000 by omega)]
    by_cases h : p = -1
    · by_cases h3 : f_X12_has (D 8 k) o = true <;> simp [h, h3]
    · by_cases h2 : D 7 k = p
      · by_cases h3 : f_X12_has (D 8 k) o = true <;> simp [h, h2, h3]
      · simp [h, h2]
theorem bit_01 (x : Int32) : x &&& 1 = (if x &&& 1 = 1 then 1 else 0) := by
  have e := pk_and x (m := 1) 1 (by decide)
  rw [e]
  rcases (show x.toBitVec.toNat % 2 ^ 1 = 0 ∨ x.toBitVec.toNat % 2 ^ 1 = 1 by omega) with h | h <;> rw [h] <;> rfl
theorem has_b (x o : Int32) : (x >>> (o &&& 31)) &&& 1 = if f_X12_has x o = true then 1 else 0 := by
  rw [bit_01]
  unfold f_X12_has
  split <;> simp
theorem isOf_R {C D : Mem} {n : Nat} (hp : ∀ k, k < n → C 15 k = D 7 k ∧ C 16 k = D 8 k ∧ ∃ b, b < 2048 ∧ D 8 k = nI b) (hn : n ≤ 12) (p : Int32) {k : Nat} (hk : k < n) : f_X6_isOf (nI k) p C = some (rOf D p k) := by
  unfold f_X6_isOf B_X6_isOf_15 rOf
  simp only [gdn (show k < 12 by omega) (show 12 ≤ 1000000 by decide), cl_nI (show k ≤ 1000000 by omega), (hp k hk).1]
  split
  · rfl
  · split <;> rfl
theorem howMany_C {C D : Mem} {n : Nat} (h3 : C 14 3 = nI n) (hp : ∀ k, k < n → C 15 k = D 7 k ∧ C 16 k = D 8 k ∧ ∃ b, b < 2048 ∧ D 8 k = nI b) (hn : n ≤ 12) (p : Int32) : f_X6_howMany p C = some (nI (ctn (rOf D p) n)) := by
  unfold f_X6_howMany
  refine up_FU (N := n) (by omega) (fun f a i => L_X6_howMany_4 p C (fun v => some v) f a i) (fun k => nI (ctn (rOf D p) k)) _ (fun f => ?_) (fun f k hk => ?_)
  · show L_X6_howMany_4 p C _ (f + 1) _ (nI n) = _
    rw [L_X6_howMany_4, h3, if_pos (Int32.le_refl _)]
  · show L_X6_howMany_4 p C _ (f + 1) _ (nI k) = L_X6_howMany_4 p C _ f _ (nI (k + 1))
    rw [L_X6_howMany_4, h3, if_neg (by rw [le_nI (by omega) (by omega)]; omega), isOf_R hp hn p hk, bnd_e]
    unfold B_X6_howMany_27 lt_
    simp only [ctn, nI_1]
    by_cases h1 : rOf D p k = true <;> simp [h1]
theorem yeses_C {C D : Mem} {n : Nat} (h3 : C 14 3 = nI n) (hp : ∀ k, k < n → C 15 k = D 7 k ∧ C 16 k = D 8 k ∧ ∃ b, b < 2048 ∧ D 8 k = nI b) (hn : n ≤ 12) (p o : Int32) : f_X6_yeses p o C = some (nI (ctn (yD D p o) n)) := by
  unfold f_X6_yeses
  refine up_FU (N := n) (by omega) (fun f a i => L_X6_yeses_5 p o C (fun v => some v) f a i) (fun k => nI (ctn (yD D p o) k)) _ (fun f => ?_) (fun f k hk => ?_)
  · show L_X6_yeses_5 p o C _ (f + 1) _ (nI n) = _
    rw [L_X6_yeses_5, h3, if_pos (Int32.le_refl _)]
  · show L_X6_yeses_5 p o C _ (f + 1) _ (nI k) = L_X6_yeses_5 p o C _ f _ (nI (k + 1))
    rw [L_X6_yeses_5, h3, if_neg (by rw [le_nI (by omega) (by omega)]; omega), isOf_R hp hn p hk, bnd_e]
    unfold B_X6_yeses_38 lt_
    simp only [ctn, yD, nI_1, gdn (show k < 12 by omega) (show 12 ≤ 1000000 by decide), cl_nI (show k ≤ 1000000 by omega), (hp k hk).2.1, has_b]
    by_cases h1 : rOf D p k = true
    · by_cases h2 : f_X12_has (D 8 k) o = true <;> simp [h1, h2, nI_1]
    · simp [h1]
theorem ok_row {C D : Mem} (hI : Inv C D) (a1 : Int32) (a2 : Int32) : ∃ (r : Int32) (C1 : Mem) (D1 : Mem), f_X11_row a1 a2 C = some (r, C1) ∧ f_X12_row a1 a2 D = some (r, D1) ∧ Inv C1 D1 := by
  obtain ⟨n, hn, e1, e2, hp⟩ := hI.2.1
  unfold f_X11_row f_X12_row
  rw [show f_X11_isPeople a1 = f_X12_isPeople a1 from rfl, show f_X11_isWithin a2 2047 = f_X12_in a2 0 2047 from rfl]
  by_cases h1 : f_X12_isPeople a1 = true
  · by_cases h2 : f_X12_in a2 0 2047 = true
    · rw [if_pos h1, if_pos h1, if_pos h2, if_pos h2, bnd2_id]
      obtain ⟨b, hb, rfl⟩ := in_nI (n := 2047) rfl (by decide) h2
      unfold f_X6_add
      by_cases hf : n = 12
      · subst hf
        exact ⟨-4, C, D, by rw [e1, if_neg (by decide)], by rw [e2, if_pos (show nI 12 = (12 : Int32) from rfl)], hI⟩
      · have hlt : n < 12 := by omega
        simp only [sto]
        have i1 : ∀ (M : Mem) (k i : Nat) (v : Int32), k ≠ 14 → st2 M k i v 14 3 = M 14 3 := fun M k i v h => by rw [st2_n _ _ _ (Ne.symm h)]
        have i0 : ∀ (M : Mem) (k i : Nat) (v : Int32), k ≠ 0 → st2 M k i v 0 9 = M 0 9 := fun M k i v h => by rw [st2_n _ _ _ (Ne.symm h)]
        simp only [i1 _ 15 _ _ (by decide), i1 _ 16 _ _ (by decide), i0 _ 7 _ _ (by decide), i0 _ 8 _ _ (by decide), e1, e2, gdn hlt (show 12 ≤ 1000000 by decide), cl_nI (show n ≤ 1000000 by omega)]
        rw [if_pos (show nI n < 12 from (lt_nI (b := 12) (by omega) (by decide)).mpr hlt), if_neg (show ¬ nI n = (12 : Int32) from fun q => hf ((eq_nI (b := 12) (by omega) (by decide)).mp q))]
        refine ⟨_, _, _, rfl, by rw [show ∀ (M : Mem) (v : Int32), st2 M 0 9 v 0 9 = v from fun M v => rfl, show ∀ (M : Mem) (v : Int32), st2 M 14 3 v 14 3 = v from fun M v => rfl], ?_⟩
        obtain ⟨h1, h2, h3, h5, h6, h7, h8, h9⟩ := hI
        refine ⟨keepP h1 rfl rfl rfl rfl rfl rfl rfl rfl rfl rfl rfl rfl rfl rfl rfl rfl, ⟨n + 1, hlt, nI_1 n, nI_1 n, fun k hk => ?_⟩, keepB h3 rfl rfl rfl rfl rfl rfl, keepT h5 rfl rfl rfl rfl, keepS h6 rfl rfl, keepR h7 rfl rfl rfl rfl rfl rfl, keepH h8 rfl rfl rfl rfl rfl rfl rfl rfl rfl, keepG h9 (fun c a b => ?_) rfl rfl⟩
        · show upd (C 15) n a1 k = upd (D 7) n a1 k ∧ upd (C 16) n (nI b) k = upd (D 8) n (nI b) k ∧ ∃ b2, b2 < 2048 ∧ upd (D 8) n (nI b) k = nI b2
          by_cases q : k = n
          · subst q
            simp only [upd_s]
            exact ⟨trivial, trivial, b, by omega, rfl⟩
          · simp only [upd_n _ _ q]
            exact hp k (by omega)
        · rw [st2_n _ _ _ (by omega), st2_n _ _ _ (by omega), st2_n _ _ _ (by omega)]
    · exact ⟨-2, C, D, by rw [if_pos h1, if_neg h2], by rw [if_pos h1, if_neg h2], hI⟩
  · exact ⟨-2, C, D, by rw [if_neg h1], by rw [if_neg h1], hI⟩
theorem ok_taken {C D : Mem} (hI : Inv C D) (a1 : Int32) (a2 : Int32) (a3 : Int32) : ∃ (r : Int64), f_X11_taken a1 a2 a3 C = some r ∧ f_X12_taken a1 a2 a3 D = some r ∧ Inv C D := by
  obtain ⟨n, hn, e1, e2, hp⟩ := hI.2.1
  unfold f_X11_taken f_X12_taken B_X11_taken_21 B_X12_taken_23
  rw [any_c, show f_X11_isOffer a2 = f_X12_isOffer a2 from rfl, show f_X11_isPart a3 = f_X12_in a3 0 1 from rfl]
  by_cases h1 : f_X12_isAny a1 = true
  · by_cases h2 : f_X12_isOffer a2 = true
    · by_cases h3 : f_X12_in a3 0 1 = true
      · rw [if_pos h1, if_pos h1, if_pos h2, if_pos h2, if_pos h3, if_pos h3, howMany_C e1 hp hn, rowsOf_D hn e2, bnd_e, bnd_e, yeses_C e1 hp hn, yesesOf_D hn e2, bnd_e, bnd_e]
        have hcn : ctn (rOf D a1) n ≤ 12 := Nat.le_trans (ctn_le _ _) hn
        rcases Nat.eq_zero_or_pos (ctn (rOf D a1) n) with z | z
        · rw [z, if_pos (show nI 0 = (0 : Int32) from rfl), if_pos (show nI 0 = (0 : Int32) from rfl)]
          exact ⟨_, rfl, rfl, hI⟩
        · rw [if_neg (nI_ne0 z (by omega)), if_neg (nI_ne0 z (by omega))]
          obtain ⟨r, e1, e2⟩ := fr_eq (nI (ctn (yD D a1 a2) n)).toInt64 (nI (ctn (rOf D a1) n)).toInt64 a3 (i2l_lo _) (i2l_pos z (by omega))
          rw [e1, e2]
          exact ⟨r, rfl, rfl, hI⟩
      · exact ⟨_, by rw [if_pos h1, if_pos h2, if_neg h3], by rw [if_pos h1, if_pos h2, if_neg h3]; rfl, hI⟩
    · exact ⟨_, by rw [if_pos h1, if_neg h2], by rw [if_pos h1, if_neg h2]; rfl, hI⟩
  · exact ⟨_, by rw [if_neg h1], by rw [if_neg h1]; rfl, hI⟩
/-! the first greatest -/
def bs (V : Nat → Int32) : Nat → Nat
  | 0 => 0
  | k + 1 => if V k ≤ V (bs V k) then bs V k else k
theorem bs_lt (V : Nat → Int32) : ∀ k, bs V k < k + 1
  | 0 => Nat.zero_lt_one
  | k + 1 => by
    have := bs_lt V k
    unfold bs
    split <;> omega
theorem bs_1 (V : Nat → Int32) : bs V 1 = 0 := by
  unfold bs
  split <;> rfl
theorem first_C (k : Nat) (V : Nat → Int32) (C : Mem) (h : ∀ j, j < 11 → C k j = V j) : f_X11_firstGreatest k 11 C = some (nI (bs V 11)) := by
  unfold f_X11_firstGreatest
  have hF := FU_ge
  have h9 := up_loop (N := 11) (fun f a i => L_X11_firstGreatest_4 k 11 C (fun v => some v) f a i) (fun j => nI (bs V j)) (some (nI (bs V 11))) (fun f => ?_) (fun f j hj => ?_) 10 1 FU rfl (by omega)
  · rw [bs_1] at h9
    exact h9
  · show L_X11_firstGreatest_4 k 11 C _ (f + 1) _ (nI 11) = _
    rw [L_X11_firstGreatest_4, if_pos (Int32.le_refl _)]
  · show L_X11_firstGreatest_4 k 11 C _ (f + 1) (nI (bs V j)) (nI j) = L_X11_firstGreatest_4 k 11 C _ f (nI (bs V (j + 1))) (nI (j + 1))
    have hb := bs_lt V j
    rw [L_X11_firstGreatest_4, if_neg (by rw [le_nI (by omega) (by omega)]; omega), gdn hj (by decide), gdn (show bs V j < 11 by omega) (by decide)]
    unfold B_X11_firstGreatest_21 lt_
    rw [nI_1, cl_nI (by omega), cl_nI (by omega), h j hj, h (bs V j) (by omega), bs]
    split <;> rfl
def fw (n : Nat) (V f : Nat → Int32) : Nat → Int32 := fun j => if j < n then V j else f j
theorem fw_succ (n : Nat) (V f : Nat → Int32) : upd (fw n V f) n (V n) = fw (n + 1) V f := by
  funext j
  unfold upd fw
  by_cases h : j = n
  · subst h; simp
  · by_cases h2 : j < n
    · simp [h, h2, Nat.lt_succ_of_lt h2]
    · have : ¬ j < n + 1 := by omega
      simp [h, h2, this]
theorem fw_0 (V f : Nat → Int32) : fw 0 V f = f := by funext j; simp [fw]
def vR (D : Mem) (n : Nat) (p : Int32) (o : Nat) : Int32 := (10 - nI o) * nI (ctn (yD D p (nI o)) n)
theorem bestOffer_C {C D : Mem} {n : Nat} (h3 : C 14 3 = nI n) (hp : ∀ k, k < n → C 15 k = D 7 k ∧ C 16 k = D 8 k ∧ ∃ b, b < 2048 ∧ D 8 k = nI b) (hn : n ≤ 12) (p : Int32) : f_X6_bestOffer p C = some (nI (bs (vR D n p) 11), up2 C 17 (fw 11 (vR D n p) (C 17))) := by
  unfold f_X6_bestOffer
  have h := up_FU (N := 11) (by decide) (fun f a i => L_X6_bestOffer_2 p (fun C_26 => Option.bind (f_X11_firstGreatest 17 11 C_26) (fun r_30 => some (r_30, C_26))) f i a) (fun k => up2 C 17 (fw k (vR D n p) (C 17))) (some (nI (bs (vR D n p) 11), up2 C 17 (fw 11 (vR D n p) (C 17)))) (fun f => ?_) (fun f k hk => ?_)
  · simp only [fw_0, up2_self] at h
    exact h
  · show L_X6_bestOffer_2 p _ (f + 1) (nI 11) _ = _
    rw [L_X6_bestOffer_2, if_pos (show (11 : Int32) ≤ nI 11 from Int32.le_refl _), first_C 17 (vR D n p) _ (fun j hj => by rw [up2_s]; exact if_pos hj), bnd_e]
  · show L_X6_bestOffer_2 p _ (f + 1) (nI k) _ = L_X6_bestOffer_2 p _ f (nI (k + 1)) _
    rw [L_X6_bestOffer_2, show (11 : Int32) = nI 11 from rfl, if_neg (by rw [le_nI (by omega) (by omega)]; omega)]
    unfold f_X6_bring
    rw [yeses_C (C := up2 C 17 (fw k (vR D n p) (C 17))) (D := D) (n := n) (by rw [up2_n _ _ (by decide)]; exact h3) (by rw [up2_n _ _ (show 15 ≠ 17 by decide), up2_n _ _ (show 16 ≠ 17 by decide)]; exact hp) hn, bnd_e, bnd_e, gdn hk (by decide)]
    unfold sto lt_
    rw [cl_nI (by omega), nI_1]
    show L_X6_bestOffer_2 p _ f (nI (k + 1)) (st2 _ 17 k _) = _
    unfold st2
    rw [up2_up2, up2_s]
    exact congrArg _ (congrArg _ (fw_succ k (vR D n p) (C 17)))
theorem best_D {D : Mem} {n : Nat} (e2 : D 0 9 = nI n) (hn : n ≤ 12) (p : Int32) : f_X12_bestNow p D = some (if nI (ctn (rOf D p) n) = 0 then -3 else nI (bs (vR D n p) 11)) := by
  unfold f_X12_bestNow
  rw [rowsOf_D hn e2, bnd_e]
  have hF := FU_ge
  split
  · rfl
  · have h9 := up_loop (N := 11) (fun f a i => L_X12_bestNow_15 p D (fun v => some v) f a i) (fun j => nI (bs (vR D n p) j)) (some (nI (bs (vR D n p) 11))) (fun f => ?_) (fun f j hj => ?_) 10 1 FU rfl (by omega)
    · rw [bs_1] at h9
      exact h9
    · show L_X12_bestNow_15 p D _ (f + 1) _ (nI 11) = _
      rw [L_X12_bestNow_15, if_pos (show (11 : Int32) ≤ nI 11 from Int32.le_refl _)]
    · show L_X12_bestNow_15 p D _ (f + 1) (nI (bs (vR D n p) j)) (nI j) = L_X12_bestNow_15 p D _ f (nI (bs (vR D n p) (j + 1))) (nI (j + 1))
      rw [L_X12_bestNow_15, show (11 : Int32) = nI 11 from rfl, if_neg (by rw [le_nI (by omega) (by omega)]; omega), yesesOf_D hn e2, yesesOf_D hn e2, bnd_e, bnd_e]
      unfold B_X12_bestNow_51 lt_
      rw [nI_1, bs]
      show (if vR D n p j ≤ vR D n p (bs (vR D n p) j) then _ else _) = _
      split <;> rfl
theorem Kp17 (C : Mem) (f : Nat → Int32) : Kp C (up2 C 17 f) := Kp.up f rfl (by decide) (by decide)
theorem best_both {C D : Mem} (hI : Inv C D) (p : Int32) : ∃ (r : Int32) (C1 : Mem), Option.bind (f_X6_howMany p C) (fun r_15 => (if r_15 = 0 then some ((-3), C) else bnd2 (f_X6_bestOffer p C) (fun r_31 C_31 => some (r_31, C_31)))) = some (r, C1) ∧ f_X12_bestNow p D = some r ∧ Inv C1 D := by
  obtain ⟨n, hn, e1, e2, hp⟩ := hI.2.1
  rw [howMany_C e1 hp hn, bnd_e, best_D e2 hn]
  by_cases h : nI (ctn (rOf D p) n) = 0
  · rw [if_pos h, if_pos h]
    exact ⟨_, _, rfl, rfl, hI⟩
  · rw [if_neg h, if_neg h, bnd2_id, bestOffer_C e1 hp hn]
    exact ⟨_, _, rfl, rfl, hI.keepC (Kp17 _ _)⟩
theorem ok_best {C D : Mem} (hI : Inv C D) (a1 : Int32) : ∃ (r : Int32) (C1 : Mem), f_X11_best a1 C = some (r, C1) ∧ f_X12_best a1 D = some r ∧ Inv C1 D := by
  unfold f_X11_best f_X12_best
  rw [any_c, bnd_id]
  by_cases h1 : f_X12_isAny a1 = true
  · rw [if_pos h1, if_pos h1]
    exact best_both hI a1
  · exact ⟨_, C, by rw [if_neg h1], by rw [if_neg h1], hI⟩
