theorem up2_up2 (C : Mem) (k : Nat) (f g : Nat → Int32) : up2 (up2 C k f) k g = up2 C k g := by
  funext j
  by_cases h : j = k
  · subst h; rw [up2_s, up2_s]
  · rw [up2_n _ _ h, up2_n _ _ h, up2_n _ _ h]
theorem up2_comm (C : Mem) {k j : Nat} (f g : Nat → Int32) (h : k ≠ j) : up2 (up2 C k f) j g = up2 (up2 C j g) k f := by
  funext i
  by_cases h1 : i = j
  · subst h1; rw [up2_s, up2_n _ _ (Ne.symm h), up2_s]
  · by_cases h2 : i = k
    · subst h2; rw [up2_n _ _ h1, up2_s, up2_s]
    · rw [up2_n _ _ h1, up2_n _ _ h2, up2_n _ _ h2, up2_n _ _ h1]
theorem up2_self (C : Mem) (k : Nat) : up2 C k (C k) = C := by
  funext j
  by_cases h : j = k
  · subst h; rw [up2_s]
  · rw [up2_n _ _ h]
/-- the first n places of a row -/
def fil (n : Nat) (v : Int32) (f : Nat → Int32) : Nat → Int32 := fun j => if j < n then v else f j
theorem fil_succ (n : Nat) (v : Int32) (f : Nat → Int32) : upd (fil n v f) n v = fil (n + 1) v f := by
  funext j
  unfold upd fil
  by_cases h : j = n
  · subst h; simp
  · by_cases h2 : j < n
    · simp [h, h2, Nat.lt_succ_of_lt h2]
    · have : ¬ j < n + 1 := by omega
      simp [h, h2, this]
theorem fil_0 (v : Int32) (f : Nat → Int32) : fil 0 v f = f := by funext j; simp [fil]
theorem fill_C (k n : Nat) (hn : n ≤ 90000) (v : Int32) (C : Mem) : f_J7_fill_53178 k n v C = some (up2 C k (fil n v (C k))) := by
  unfold f_J7_fill_53178 lt_
  have h := up_FU (N := n) hn (fun f a i => L_J7_fill_53178_5 k n v (nI n) (fun c => some c) f i a) (fun m => up2 C k (fil m v (C k))) (some (up2 C k (fil n v (C k)))) (fun f => ?_) (fun f m hm => ?_)
  · simp only [fil_0, up2_self] at h
    exact h
  · show L_J7_fill_53178_5 k n v (nI n) _ (f + 1) (nI n) _ = _
    rw [L_J7_fill_53178_5, if_pos (Int32.le_refl _)]
  · show L_J7_fill_53178_5 k n v (nI n) _ (f + 1) (nI m) _ = L_J7_fill_53178_5 k n v (nI n) _ f (nI (m + 1)) _
    rw [L_J7_fill_53178_5, if_neg (by rw [le_nI (by omega) (by omega)]; omega), gdn hm (by omega)]
    unfold sto lt_
    rw [cl_nI (by omega), nI_1]
    show L_J7_fill_53178_5 k n v (nI n) _ f (nI (m + 1)) (st2 _ k m v) = _
    unfold st2
    rw [up2_up2, up2_s, fil_succ]
/-! what is told of a people and a kind, in the cells t, t + 1, t + 2 -/
def TM (C : Mem) (t : Nat) (o f r : Nat → Int32) : Mem := up2 (up2 (up2 C (t + 1) f) (t + 2) r) t o
theorem TM_o (C : Mem) (t : Nat) (o f r : Nat → Int32) : TM C t o f r t = o := up2_s _ _ _
theorem TM_f (C : Mem) (t : Nat) (o f r : Nat → Int32) : TM C t o f r (t + 1) = f := by unfold TM; rw [up2_n _ _ (by omega), up2_n _ _ (by omega), up2_s]
theorem TM_r (C : Mem) (t : Nat) (o f r : Nat → Int32) : TM C t o f r (t + 2) = r := by unfold TM; rw [up2_n _ _ (by omega), up2_s]
theorem TM_k (C : Mem) (t : Nat) (o f r : Nat → Int32) {k : Nat} (h : k < t ∨ t + 2 < k) : TM C t o f r k = C k := by unfold TM; rw [up2_n _ _ (by omega), up2_n _ _ (by omega), up2_n _ _ (by omega)]
theorem TM_up_o (C : Mem) (t : Nat) (o o' f r : Nat → Int32) : up2 (TM C t o f r) t o' = TM C t o' f r := up2_up2 _ _ _ _
theorem TM_up_f (C : Mem) (t : Nat) (o f f' r : Nat → Int32) : up2 (TM C t o f r) (t + 1) f' = TM C t o f' r := by
  unfold TM
  rw [up2_comm _ _ _ (show t ≠ t + 1 by omega), up2_comm _ _ _ (show t + 2 ≠ t + 1 by omega), up2_up2]
theorem TM_up_r (C : Mem) (t : Nat) (o f r r' : Nat → Int32) : up2 (TM C t o f r) (t + 2) r' = TM C t o f r' := by
  unfold TM
  rw [up2_comm _ _ _ (show t ≠ t + 2 by omega), up2_up2]
theorem TM_self (C : Mem) (t : Nat) : TM C t (C t) (C (t + 1)) (C (t + 2)) = C := by
  unfold TM
  rw [up2_self]
  have e : up2 C (t + 2) (C (t + 2)) = C := up2_self _ _
  rw [e, up2_self]
def o3 (o : Nat → Int32) (a b c : Int32) : Nat → Int32 := upd (upd (upd o 2 a) 3 b) 4 c
theorem o3_2 (o : Nat → Int32) (a b c : Int32) : o3 o a b c 2 = a := rfl
theorem o3_3 (o : Nat → Int32) (a b c : Int32) : o3 o a b c 3 = b := rfl
theorem o3_4 (o : Nat → Int32) (a b c : Int32) : o3 o a b c 4 = c := rfl
theorem o3_o3 (o : Nat → Int32) (a b c a' b' c' : Int32) : upd (upd (upd (o3 o a b c) 2 a') 3 b') 4 c' = o3 o a' b' c' := by
  funext j
  unfold o3 upd
  by_cases h4 : j = 4 <;> by_cases h3 : j = 3 <;> by_cases h2 : j = 2 <;> simp [h4, h3, h2]
theorem clear_C (t : Nat) (C : Mem) : f_X9_clear t C = some (TM C t (o3 (C t) 0 0 0) (fil 11 0 (C (t + 1))) (fil 11 0 (C (t + 2)))) := by
  unfold f_X9_clear
  rw [fill_C _ _ (by decide), bnd_e, fill_C _ _ (by decide), bnd_e]
  unfold sto st2
  rw [show up2 (up2 C (t + 1) (fil 11 0 (C (t + 1)))) (t + 2) (fil 11 0 (up2 C (t + 1) (fil 11 0 (C (t + 1))) (t + 2))) = TM C t (C t) (fil 11 0 (C (t + 1))) (fil 11 0 (C (t + 2))) from by
    unfold TM
    rw [up2_n _ _ (show t + 2 ≠ t + 1 by omega)]
    funext j
    by_cases h : j = t
    · subst h; rw [up2_n _ _ (by omega), up2_n _ _ (by omega), up2_s]
    · rw [up2_n _ _ h]]
  simp only [TM_o, TM_up_o]
  rfl
theorem add_C (t j : Nat) (hj : j ≤ 10) (v2 : Int32) (C : Mem) (o f r : Nat → Int32) (a b c : Int32) : f_X9_add t (nI j) v2 (TM C t (o3 o a b c) f r) = some (TM C t (o3 o (a + 1) (b + (1 - v2)) (c + nI j)) (upd f j (f j + 1)) (upd r j (r j + (1 - v2)))) := by
  unfold f_X9_add lt_ sto st2
  simp only [gdn (show j < 11 by omega) (show 11 ≤ 1000000 by decide), cl_nI (show j ≤ 1000000 by omega), TM_f, TM_up_f, TM_r, TM_up_r, TM_o, TM_up_o]
  congr 2
  funext i
  unfold o3 upd
  by_cases h4 : i = 4 <;> by_cases h3 : i = 3 <;> by_cases h2 : i = 2 <;> simp [h4, h3, h2]
/-- the state of a tally when k pairs have been looked at -/
def TS (C D : Mem) (t : Nat) (p kd : Int32) (k : Nat) : Mem := TM C t (o3 (C t) (sm (gC D p kd) k) (sm (gN D p kd) k) (sm (gS D p kd) k)) (fun j => if j < 11 then sm (gF D p kd j) k else C (t + 1) j) (fun j => if j < 11 then sm (gR D p kd j) k else C (t + 2) j)
theorem RP_TM {n : Nat} {C D : Mem} (h : RP n C D) (t : Nat) (ht : 8 ≤ t) (o f r : Nat → Int32) : RP n (TM C t o f r) D := by
  unfold RP at h ⊢
  simp only [TM_k C t o f r (show 1 < t ∨ t + 2 < 1 by omega), TM_k C t o f r (show 2 < t ∨ t + 2 < 2 by omega), TM_k C t o f r (show 3 < t ∨ t + 2 < 3 by omega), TM_k C t o f r (show 4 < t ∨ t + 2 < 4 by omega), TM_k C t o f r (show 5 < t ∨ t + 2 < 5 by omega), TM_k C t o f r (show 6 < t ∨ t + 2 < 6 by omega), TM_k C t o f r (show 7 < t ∨ t + 2 < 7 by omega)]
  exact h
theorem tally_C {n : Nat} {C D : Mem} (h : RP n C D) (p kd : Int32) {t : Nat} (ht : 8 ≤ t) : f_X4_tally p kd t C = some (TS C D t p kd n) := by
  have hn := h.1
  unfold f_X4_tally
  rw [clear_C, bnd_e]
  refine up_FU (N := n) (by omega) (fun f a i => L_X4_tally_7 t p kd (fun c => some c) f i a) (TS C D t p kd) (some (TS C D t p kd n)) (fun f => ?_) (fun f k hk => ?_)
  · show L_X4_tally_7 t p kd _ (f + 1) (nI n) (TS C D t p kd n) = _
    have e : TS C D t p kd n 1 6 = nI n := (RP_TM h t ht _ _ _).2.1
    rw [L_X4_tally_7, e, if_pos (Int32.le_refl _)]
  · show L_X4_tally_7 t p kd _ (f + 1) (nI k) (TS C D t p kd k) = L_X4_tally_7 t p kd _ f (nI (k + 1)) (TS C D t p kd (k + 1))
    have h' : RP n (TS C D t p kd k) D := RP_TM h t ht _ _ _
    have e : TS C D t p kd k 1 6 = nI n := h'.2.1
    rw [L_X4_tally_7, e, if_neg (by rw [le_nI (by omega) (by omega)]; omega), isOf_C h' p kd hk, bnd_e]
    unfold B_X4_tally_54 lt_
    rw [nI_1]
    obtain ⟨-, -, h4, h5, -, ⟨j, hj, e3⟩, -, -⟩ := h'.2.2.2.2.2 k hk
    by_cases hb : isD D p kd k = true
    · have hb2 := hb
      rw [isD_eq, Bool.and_eq_true] at hb2
      rw [if_pos hb2.1, counts_C h' hk, bnd_e, if_pos hb2.2]
      simp only [gdn (show k < 60 by omega) (show 60 ≤ 1000000 by decide), cl_nI (show k ≤ 1000000 by omega), h4, h5, e3]
      rw [show TS C D t p kd k = TM C t (o3 (C t) (sm (gC D p kd) k) (sm (gN D p kd) k) (sm (gS D p kd) k)) (fun j => if j < 11 then sm (gF D p kd j) k else C (t + 1) j) (fun j => if j < 11 then sm (gR D p kd j) k else C (t + 2) j) from rfl, add_C t j hj, bnd_e]
      congr 1
      unfold TS
      congr 1
      · simp only [sm, gC, gN, gS, if_pos hb, e3]
      · funext i
        unfold upd
        by_cases hi : i = j
        · subst hi
          simp only [if_pos (show i < 11 by omega), sm, gF, if_pos hb, e3, if_true]
        · by_cases hi2 : i < 11
          · simp only [if_neg hi, if_pos hi2, sm, gF, if_pos hb, e3, if_neg (show ¬ nI j = nI i from fun q => hi ((eq_nI (by omega) (by omega)).mp q).symm), Int32.add_zero]
          · simp only [if_neg hi, if_neg hi2]
      · funext i
        unfold upd
        by_cases hi : i = j
        · subst hi
          simp only [if_pos (show i < 11 by omega), sm, gR, if_pos hb, e3, if_true]
        · by_cases hi2 : i < 11
          · simp only [if_neg hi, if_pos hi2, sm, gR, if_pos hb, e3, if_neg (show ¬ nI j = nI i from fun q => hi ((eq_nI (by omega) (by omega)).mp q).symm), Int32.add_zero]
          · simp only [if_neg hi, if_neg hi2]
    · have same : TS C D t p kd (k + 1) = TS C D t p kd k := by
        unfold TS
        simp only [sm, gC, gN, gS, gF, gR, if_neg hb, Int32.add_zero]
      rw [same]
      have hb2 := hb
      rw [isD_eq, Bool.and_eq_true] at hb2
      by_cases h1 : (if D 2 k = kd then (if p = -1 then true else if D 1 k = p then true else false) else false) = true
      · rw [if_pos h1, counts_C h' hk, bnd_e, if_neg (fun q => hb2 ⟨h1, q⟩)]
      · rw [if_neg h1]
