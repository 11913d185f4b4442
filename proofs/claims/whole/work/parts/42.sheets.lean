/-! sheets, stories, things -/
theorem Inv.mkH {C D C' D' : Mem} (h : Inv C D) (hc : ∀ k, k < 43 → C' k = C k) (hd : ∀ k, 1 ≤ k → k ≤ 25 → D' k = D k) (h0 : ∀ j, j ≠ 40 → D' 0 j = D 0 j) (hH : RH C' D') : Inv C' D' := by
  obtain ⟨h1, h2, h3, h4, h5, h6, -, h8⟩ := h
  exact ⟨keepP h1 (hc 1 (by decide)) (hc 2 (by decide)) (hc 3 (by decide)) (hc 4 (by decide)) (hc 5 (by decide)) (hc 6 (by decide)) (hc 7 (by decide)) (h0 0 (by decide)) (h0 7 (by decide)) (h0 8 (by decide)) (hd 1 (by decide) (by decide)) (hd 2 (by decide) (by decide)) (hd 3 (by decide) (by decide)) (hd 4 (by decide) (by decide)) (hd 5 (by decide) (by decide)) (hd 6 (by decide) (by decide)),
    keepW h2 (congrFun (hc 14 (by decide)) 3) (hc 15 (by decide)) (hc 16 (by decide)) (h0 9 (by decide)) (hd 7 (by decide) (by decide)) (hd 8 (by decide) (by decide)),
    keepB h3 (congrFun (hc 18 (by decide)) 3) (hc 19 (by decide)) (hc 20 (by decide)) (h0 12 (by decide)) (hd 9 (by decide) (by decide)) (hd 10 (by decide) (by decide)),
    keepT h4 (congrFun (hc 36 (by decide)) 1) (hc 37 (by decide)) (h0 26 (by decide)) (hd 20 (by decide) (by decide)),
    keepS h5 (hc 39 (by decide)) (hd 23 (by decide) (by decide)),
    keepR h6 (congrFun (hc 40 (by decide)) 2) (hc 41 (by decide)) (hc 42 (by decide)) (h0 32 (by decide)) (hd 24 (by decide) (by decide)) (hd 25 (by decide) (by decide)),
    hH,
    keepG h8 (fun k a b => hc k (by omega)) (h0 15 (by decide)) (hd 11 (by decide) (by decide))⟩
theorem found_I {C D : Mem} (hI : Inv C D) (v : Int32) : Inv (st2 C 43 3 v) (st2 D 0 40 v) := by
  refine hI.mkH (fun k hk => st2_n _ _ _ (by omega)) (fun k a b => st2_n _ _ _ (by omega)) (fun j hj => by rw [st2_s, upd_n _ _ hj]) ?_
  have h := hI.2.2.2.2.2.2.1
  exact ⟨h.1, h.2.1, rfl⟩
theorem found_both {C D : Mem} (hI : Inv C D) (v : Int32) : ∃ (r : Int32) (C1 D1 : Mem), bnd2 (f_X7_found v C) (fun x y => some (x, y)) = some (r, C1) ∧ bnd2 (f_X12_meets v D) (fun x y => some (x, y)) = some (r, D1) ∧ Inv C1 D1 := ⟨_, _, _, rfl, rfl, found_I hI v⟩
theorem lost_C {C D : Mem} (hH : RH C D) {s : Nat} (hs : s < 4) : f_X7_isLost (nI s) C = some (decide (D 26 s = 0)) := by
  unfold f_X7_isLost
  rw [gdn hs (by decide), cl_nI (by omega)]
  rcases (hH.1 s hs).2 with ⟨e1, e2⟩ | ⟨f, hf, e1, e2, e3⟩
  · rw [e1, e2, if_pos rfl]; rfl
  · rw [e1, e3, if_neg (fun q => by
      have := congrArg Int32.toInt q
      rw [nI_toInt (by omega)] at this
      have h2 : (-1 : Int32).toInt = -1 := by decide
      omega)]
    rfl
theorem ixs_c (s i : Nat) : nI s * 48 + nI i = nI (48 * s + i) := by rw [show (48 : Int32) = nI 48 from rfl, pk_mul, nI_add, Nat.mul_comm]
theorem ixs_d (s i : Nat) : 48 * nI s + nI i = nI (48 * s + i) := by rw [show (48 : Int32) = nI 48 from rfl, pk_mul, nI_add]
def fr (a m : Nat) (f : Nat → Int32) : Nat → Int32 := fun j => if a ≤ j ∧ j < a + m then 0 else f j
theorem fr_succ (a m : Nat) (f : Nat → Int32) : upd (fr a m f) (a + m) 0 = fr a (m + 1) f := by
  funext j
  unfold upd fr
  by_cases h : j = a + m
  · rw [if_pos h, if_pos (by omega)]
  · rw [if_neg h]
    by_cases h2 : a ≤ j ∧ j < a + m
    · rw [if_pos h2, if_pos (by omega)]
    · rw [if_neg h2, if_neg (by omega)]
theorem fr_0 (a : Nat) (f : Nat → Int32) : fr a 0 f = f := by
  funext j
  unfold fr
  rw [if_neg (by omega)]
theorem fillr_C {s : Nat} (hs : s < 4) (M : Mem) : f_J7_fill_fda19 46 192 (nI s * 48) ((nI s + 1) * 48) 0 M = some (up2 M 46 (fr (48 * s) 48 (M 46))) := by
  unfold f_J7_fill_fda19 f_J7_rangeCheck_23922
  rw [nI_1, show (48 : Int32) = nI 48 from rfl, pk_mul, pk_mul, if_pos (by rw [le_nI (by omega) (by omega)]; omega), if_pos (nI_pos' (by omega)), if_pos (by rw [le_nI (by omega) (by omega)]; omega), bnd_e]
  have h9 := up_FU (N := 48) (by decide) (fun f a i => L_J7_fill_fda19_10 46 192 (nI ((s + 1) * 48)) 0 (fun c => some c) f (nI (s * 48) + i) a) (fun k => up2 M 46 (fr (48 * s) k (M 46))) (some (up2 M 46 (fr (48 * s) 48 (M 46)))) (fun f => ?_) (fun f k hk => ?_)
  · simp only [fr_0, up2_self, Int32.add_zero] at h9
    exact h9
  · show L_J7_fill_fda19_10 46 192 (nI ((s + 1) * 48)) 0 _ (f + 1) (nI (s * 48) + nI 48) _ = _
    rw [nI_add, L_J7_fill_fda19_10, if_pos (by rw [le_nI (by omega) (by omega)]; omega)]
  · show L_J7_fill_fda19_10 46 192 (nI ((s + 1) * 48)) 0 _ (f + 1) (nI (s * 48) + nI k) _ = L_J7_fill_fda19_10 46 192 (nI ((s + 1) * 48)) 0 _ f (nI (s * 48) + nI (k + 1)) _
    rw [nI_add, nI_add, L_J7_fill_fda19_10, if_neg (by rw [le_nI (by omega) (by omega)]; omega), gdn (by omega) (by decide), cl_nI (by omega)]
    simp only [sto, lt_, nI_1, st2]
    rw [up2_s, up2_up2, show s * 48 + k = 48 * s + k by omega, fr_succ, show s * 48 + (k + 1) = 48 * s + k + 1 by omega]
theorem fillr_D {s : Nat} (hs : s < 4) (M : Mem) (kx : Mem → Option (Int32 × Mem)) : L_X12_sheet_59 (nI s) kx FU 0 M = kx (up2 M 29 (fr (48 * s) 48 (M 29))) := by
  have h9 := up_FU (N := 48) (by decide) (fun f a i => L_X12_sheet_59 (nI s) kx f i a) (fun k => up2 M 29 (fr (48 * s) k (M 29))) (kx (up2 M 29 (fr (48 * s) 48 (M 29)))) (fun f => ?_) (fun f k hk => ?_)
  · simp only [fr_0, up2_self] at h9
    exact h9
  · show L_X12_sheet_59 (nI s) _ (f + 1) (nI 48) _ = _
    rw [L_X12_sheet_59, if_pos (show (48 : Int32) ≤ nI 48 from Int32.le_refl _)]
  · show L_X12_sheet_59 (nI s) _ (f + 1) (nI k) _ = L_X12_sheet_59 (nI s) _ f (nI (k + 1)) _
    rw [L_X12_sheet_59, if_neg (show ¬ (48 : Int32) ≤ nI k from fun q => by have := (le_nI (a := 48) (by decide) (by omega)).mp q; omega), ixs_d, gdn (by omega) (by decide), cl_nI (by omega)]
    simp only [sto, lt_, nI_1, st2]
    rw [up2_s, up2_up2, fr_succ]
theorem ok_sheet {C D : Mem} (hI : Inv C D) (a1 : Int32) (a2 : Int32) (a3 : Int32) : ∃ (r : Int32) (C1 : Mem) (D1 : Mem), f_X11_sheet a1 a2 a3 C = some (r, C1) ∧ f_X12_sheet a1 a2 a3 D = some (r, D1) ∧ Inv C1 D1 := by
  unfold f_X11_sheet f_X12_sheet
  rw [show f_X11_isSheet a1 = f_X12_isSheet a1 from rfl, show f_X11_isForm a2 = f_X12_in a2 0 2 from rfl]
  by_cases h1 : f_X12_isSheet a1 = true
  · by_cases h2 : f_X12_in a2 0 2 = true
    · by_cases h3 : a3 ≤ 48
      · rw [if_pos h1, if_pos h1, if_pos h2, if_pos h2, if_pos h3, if_pos h3]
        by_cases h4 : 0 ≤ a3
        · rw [if_pos h4, if_pos h4]
          obtain ⟨s, hs, rfl⟩ := in_nI (n := 3) rfl (by decide) h1
          obtain ⟨f, hf, rfl⟩ := in_nI (n := 2) rfl (by decide) h2
          obtain ⟨z, hz, rfl⟩ := in_nI (a := a3) (n := 48) rfl (by decide) ((in_c _ _ _).mpr ⟨h4, h3⟩)
          unfold f_X7_renew
          simp only [sto, gdn (show s < 4 by omega) (show 4 ≤ 1000000 by decide), cl_nI (show s ≤ 1000000 by omega)]
          rw [fillr_C (by omega), bnd_e, fillr_D (by omega)]
          refine ⟨_, _, _, rfl, rfl, hI.mkH (fun k hk => ?_) (fun k a b => ?_) (fun j hj => ?_) ?_⟩
          · rw [up2_n _ _ (by omega), st2_n _ _ _ (by omega), st2_n _ _ _ (by omega)]
          · rw [up2_n _ _ (by omega), st2_n _ _ _ (by omega), st2_n _ _ _ (by omega), st2_n _ _ _ (by omega)]
          · rw [up2_n _ _ (by omega), st2_n _ _ _ (by omega), st2_n _ _ _ (by omega), st2_n _ _ _ (by omega)]
          · have h := hI.2.2.2.2.2.2.1
            refine ⟨fun t ht => ?_, fun k hk => ?_, h.2.2⟩
            · show (∃ z', z' ≤ 48 ∧ upd (C 45) s (nI z) t = nI z' ∧ upd (D 28) s (nI z) t = nI z') ∧ ((upd (C 44) s (nI f) t = -1 ∧ upd (D 26) s (vp_nar .boolean 1) t = 0) ∨ ∃ f', f' ≤ 2 ∧ upd (C 44) s (nI f) t = nI f' ∧ upd (D 27) s (nI f) t = nI f' ∧ upd (D 26) s (vp_nar .boolean 1) t = 1)
              by_cases q : t = s
              · subst q
                simp only [upd_s]
                exact ⟨⟨z, hz, rfl, rfl⟩, Or.inr ⟨f, hf, rfl, rfl, by decide⟩⟩
              · simp only [upd_n _ _ q]
                exact h.1 t ht
            · show fr (48 * s) 48 (C 46) k = fr (48 * s) 48 (D 29) k
              unfold fr
              split
              · rfl
              · exact h.2.1 k hk
        · rw [if_neg h4, if_neg h4]
          exact found_both hI 5
      · exact ⟨-2, C, D, by rw [if_pos h1, if_pos h2, if_neg h3], by rw [if_pos h1, if_pos h2, if_neg h3], hI⟩
    · exact ⟨-2, C, D, by rw [if_pos h1, if_neg h2], by rw [if_pos h1, if_neg h2], hI⟩
  · exact ⟨-2, C, D, by rw [if_neg h1], by rw [if_neg h1], hI⟩
theorem ok_lose {C D : Mem} (hI : Inv C D) (a1 : Int32) : ∃ (r : Int32) (C1 : Mem) (D1 : Mem), f_X11_lose a1 C = some (r, C1) ∧ f_X12_lose a1 D = some (r, D1) ∧ Inv C1 D1 := by
  unfold f_X11_lose f_X12_lose
  rw [show f_X11_isSheet a1 = f_X12_isSheet a1 from rfl]
  by_cases h1 : f_X12_isSheet a1 = true
  · rw [if_pos h1, if_pos h1]
    obtain ⟨s, hs, rfl⟩ := in_nI (n := 3) rfl (by decide) h1
    have h := hI.2.2.2.2.2.2.1
    rw [lost_C h (by omega), bnd_e]
    simp only [sto, gdn (show s < 4 by omega) (show 4 ≤ 1000000 by decide), cl_nI (show s ≤ 1000000 by omega), decide_eq_true_eq]
    by_cases q : D 26 s = 0
    · rw [if_pos q, if_pos q]
      exact found_both hI 1
    · rw [if_neg q, if_neg q]
      unfold f_X7_drop
      simp only [sto, gdn (show s < 4 by omega) (show 4 ≤ 1000000 by decide), cl_nI (show s ≤ 1000000 by omega), bnd2_e]
      obtain ⟨⟨z, hz, e1, e2⟩, -⟩ := h.1 s (by omega)
      refine ⟨nI z, _, _, by rw [show st2 C 44 s (-1) 45 s = C 45 s from rfl, e1], by rw [show st2 D 26 s (vp_nar .boolean 0) 28 s = D 28 s from rfl, e2], hI.mkH (fun k hk => ?_) (fun k a b => ?_) (fun j hj => ?_) ?_⟩
      · rw [st2_n _ _ _ (by omega)]
      · rw [st2_n _ _ _ (by omega)]
      · rw [st2_n _ _ _ (by omega)]
      · refine ⟨fun t ht => ⟨(h.1 t ht).1, ?_⟩, h.2.1, h.2.2⟩
        show ((upd (C 44) s (-1) t = -1 ∧ upd (D 26) s (vp_nar .boolean 0) t = 0) ∨ ∃ f', f' ≤ 2 ∧ upd (C 44) s (-1) t = nI f' ∧ D 27 t = nI f' ∧ upd (D 26) s (vp_nar .boolean 0) t = 1)
        by_cases q : t = s
        · subst q
          simp only [upd_s]
          exact Or.inl ⟨trivial, by decide⟩
        · simp only [upd_n _ _ q]
          exact (h.1 t ht).2
  · exact ⟨-2, C, D, by rw [if_neg h1], by rw [if_neg h1], hI⟩
theorem find_both {C D : Mem} (hH : RH C D) {s : Nat} (hs : s < 4) (f v : Int32) : ∃ r, f_X7_findingAt (nI s) f v C = some r ∧ f_X12_lacks (nI s) f v D = some r ∧ ((r = 0 ∧ ∃ i, i < 48 ∧ v = nI i ∧ ∃ g, C 44 s = nI g ∧ D 27 s = nI g) ∨ r = 1 ∨ r = 2 ∨ r = 3) := by
  unfold f_X7_findingAt f_X12_lacks B_X7_findingAt_36
  rw [lost_C hH hs, bnd_e]
  simp only [gdn hs (show 4 ≤ 1000000 by decide), cl_nI (show s ≤ 1000000 by omega), decide_eq_true_eq]
  obtain ⟨⟨z, hz, e1, e2⟩, h⟩ := hH.1 s hs
  rcases h with ⟨e3, e4⟩ | ⟨g, hg, e3, e4, e5⟩
  · rw [if_pos e4, if_pos e4]
    exact ⟨1, rfl, rfl, Or.inr (Or.inl rfl)⟩
  · have q : ¬ D 26 s = 0 := by rw [e5]; decide
    rw [if_neg q, if_neg q, e3, e4, e1, e2]
    by_cases q2 : nI g = f
    · rw [if_pos q2, if_pos q2]
      by_cases q3 : f_X12_in v 0 (nI z - 1) = true
      · obtain ⟨i, hi, rfl⟩ := in_lt (by omega) q3
        rw [if_neg (nI_pos (by omega)), if_pos ((lt_nI (by omega) (by omega)).mpr hi), if_pos q3]
        exact ⟨0, rfl, rfl, Or.inl ⟨rfl, i, by omega, rfl, g, rfl, rfl⟩⟩
      · rw [if_neg q3]
        refine ⟨2, ?_, rfl, Or.inr (Or.inr (Or.inl rfl))⟩
        by_cases q4 : v < 0
        · rw [if_pos q4]
        · rw [if_neg q4, if_neg]
          intro q5
          apply q3
          refine (in_c _ _ _).mpr ⟨Int32.not_lt.mp q4, ?_⟩
          rw [Int32.le_iff_toInt_le, show (1 : Int32) = nI 1 from rfl, pk_sub_toInt (by omega) (by decide)]
          rw [Int32.lt_iff_toInt_lt, nI_toInt (by omega)] at q5
          omega
    · rw [if_neg q2, if_neg q2]
      exact ⟨3, rfl, rfl, Or.inr (Or.inr (Or.inr rfl))⟩
theorem RH_st {C D : Mem} (h : RH C D) (k : Nat) (w : Int32) : RH (st2 C 46 k w) (st2 D 29 k w) := by
  refine ⟨h.1, fun j hj => ?_, h.2.2⟩
  show upd (C 46) k w j = upd (D 29) k w j
  unfold upd
  split
  · rfl
  · exact h.2.1 j hj
theorem Inv_st {C D : Mem} (hI : Inv C D) (k : Nat) (w : Int32) : Inv (st2 C 46 k w) (st2 D 29 k w) :=
  hI.mkH (fun j hj => st2_n _ _ _ (by omega)) (fun j a b => st2_n _ _ _ (by omega)) (fun j hj => by rw [st2_n _ _ _ (by decide)]) (RH_st hI.2.2.2.2.2.2.1 k w)
theorem keep_C {C : Mem} {s i : Nat} (hs : s < 4) (hi : i < 48) (v : Int32) : f_X7_keep (nI s) (nI i) v C = some (st2 C 46 (48 * s + i) (f_X7_narrowed (C 44 s) v)) := by
  unfold f_X7_keep
  rw [ixs_c, gdn hs (by decide), gdn (by omega) (by decide), cl_nI (by omega), cl_nI (by omega)]
  rfl
theorem keep_D {D : Mem} {s i : Nat} (hs : s < 4) (hi : i < 48) (v : Int32) : f_X12_keep (nI s) (nI i) v D = some (st2 D 29 (48 * s + i) (f_X7_narrowed (D 27 s) v)) := by
  unfold f_X12_keep B_X12_keep_40 f_X7_narrowed
  simp only [ixs_d, gdn hs (show 4 ≤ 1000000 by decide), gdn (show 48 * s + i < 192 by omega) (show 192 ≤ 1000000 by decide), cl_nI (show s ≤ 1000000 by omega), cl_nI (show 48 * s + i ≤ 1000000 by omega), sto]
  split
  · rfl
  · split <;> rfl
theorem ok_put {C D : Mem} (hI : Inv C D) (a1 : Int32) (a2 : Int32) (a3 : Int32) (a4 : Int32) : ∃ (r : Int32) (C1 : Mem) (D1 : Mem), f_X11_put a1 a2 a3 a4 C = some (r, C1) ∧ f_X12_put a1 a2 a3 a4 D = some (r, D1) ∧ Inv C1 D1 := by
  unfold f_X11_put f_X12_put
  rw [show f_X11_isSheet a1 = f_X12_isSheet a1 from rfl, show f_X11_isForm a2 = f_X12_in a2 0 2 from rfl]
  by_cases h1 : f_X12_isSheet a1 = true
  · by_cases h2 : f_X12_in a2 0 2 = true
    · rw [if_pos h1, if_pos h1, if_pos h2, if_pos h2]
      obtain ⟨s, hs, rfl⟩ := in_nI (n := 3) rfl (by decide) h1
      obtain ⟨r, e1, e2, h⟩ := find_both hI.2.2.2.2.2.2.1 (show s < 4 by omega) a2 a3
      rw [e1, e2, bnd_e, bnd_e]
      rcases h with ⟨rfl, i, hi, rfl, g, e3, e4⟩ | rfl | rfl | rfl
      · rw [if_pos rfl, if_pos (Int32.le_refl _), keep_C (by omega) hi, keep_D (by omega) hi, e3, e4]
        exact ⟨_, _, _, rfl, rfl, Inv_st hI _ _⟩
      · exact found_both hI 1
      · exact found_both hI 2
      · exact found_both hI 3
    · exact ⟨-2, C, D, by rw [if_pos h1, if_neg h2], by rw [if_pos h1, if_neg h2], hI⟩
  · exact ⟨-2, C, D, by rw [if_neg h1], by rw [if_neg h1], hI⟩
theorem ok_get {C D : Mem} (hI : Inv C D) (a1 : Int32) (a2 : Int32) (a3 : Int32) : ∃ (r : Int32) (C1 : Mem) (D1 : Mem), f_X11_get a1 a2 a3 C = some (r, C1) ∧ f_X12_get a1 a2 a3 D = some (r, D1) ∧ Inv C1 D1 := by
  unfold f_X11_get f_X12_get
  rw [show f_X11_isSheet a1 = f_X12_isSheet a1 from rfl, show f_X11_isForm a2 = f_X12_in a2 0 2 from rfl]
  by_cases h1 : f_X12_isSheet a1 = true
  · by_cases h2 : f_X12_in a2 0 2 = true
    · rw [if_pos h1, if_pos h1, if_pos h2, if_pos h2]
      obtain ⟨s, hs, rfl⟩ := in_nI (n := 3) rfl (by decide) h1
      have hH := hI.2.2.2.2.2.2.1
      obtain ⟨r, e1, e2, h⟩ := find_both hH (show s < 4 by omega) a2 a3
      rw [e1, e2, bnd_e, bnd_e]
      rcases h with ⟨rfl, i, hi, rfl, g, e3, e4⟩ | rfl | rfl | rfl
      · rw [if_pos rfl, if_pos (Int32.le_refl _)]
        unfold f_X7_item
        rw [ixs_c, ixs_d, gdn (by omega) (by decide), gdn (by omega) (by decide), cl_nI (by omega), hH.2.1 _ (by omega)]
        exact ⟨_, _, _, rfl, rfl, hI⟩
      · exact ⟨_, _, _, rfl, rfl, found_I hI 1⟩
      · exact ⟨_, _, _, rfl, rfl, found_I hI 2⟩
      · exact ⟨_, _, _, rfl, rfl, found_I hI 3⟩
    · exact ⟨-2147483648, C, D, by rw [if_pos h1, if_neg h2], by rw [if_pos h1, if_neg h2], hI⟩
  · exact ⟨-2147483648, C, D, by rw [if_neg h1], by rw [if_neg h1], hI⟩
/-! stories -/
theorem ok_story {C D : Mem} (hI : Inv C D) (a1 : Int32) (a2 : Int32) (a3 : Int32) : ∃ (r : Int32) (C1 : Mem) (D1 : Mem), f_X11_story a1 a2 a3 C = some (r, C1) ∧ f_X12_story a1 a2 a3 D = some (r, D1) ∧ Inv C1 D1 := by
  unfold f_X11_story f_X12_story
  rw [wi_in, wi_in]
  by_cases h1 : f_X12_in a1 0 2 = true
  · by_cases h2 : f_X12_in a2 0 2 = true
    · rw [if_pos h1, if_pos h1, if_pos h2, if_pos h2]
      by_cases h3 : f_X12_in a3 1 15 = true
      · have h4 := (in_c _ _ _).mp h3
        rw [if_pos h3, if_neg (Int32.not_lt.mpr h4.1), if_pos h4.2, bnd2_id]
        obtain ⟨s, hs, rfl⟩ := in_nI (n := 2) rfl (by decide) h1
        obtain ⟨i, hi, rfl⟩ := in_nI (n := 2) rfl (by decide) h2
        obtain ⟨z, hz, rfl⟩ := in_nI (a := a3) (n := 15) rfl (by decide) ((in_c _ _ _).mpr ⟨Int32.le_trans (by decide) h4.1, h4.2⟩)
        have hz1 : 1 ≤ z := (le_nI (a := 1) (by decide) (by omega)).mp h4.1
        unfold f_X8_change
        have ic : nI s * 3 + nI i = nI (3 * s + i) := by rw [show (3 : Int32) = nI 3 from rfl, pk_mul, nI_add, Nat.mul_comm]
        have id2 : 3 * nI s + nI i = nI (3 * s + i) := by rw [show (3 : Int32) = nI 3 from rfl, pk_mul, nI_add]
        simp only [ic, id2, sto, lt_, gdn (show 3 * s + i < 9 by omega) (show 9 ≤ 1000000 by decide), cl_nI (show 3 * s + i ≤ 1000000 by omega)]
        obtain ⟨h1, h2, h3, h5, h6, h7, h8, h9⟩ := hI
        refine ⟨_, _, _, rfl, by rw [(h6 (3 * s + i) (by omega)).1], ?_⟩
        refine ⟨keepP h1 rfl rfl rfl rfl rfl rfl rfl rfl rfl rfl rfl rfl rfl rfl rfl rfl, keepW h2 rfl rfl rfl rfl rfl rfl, keepB h3 rfl rfl rfl rfl rfl rfl, keepT h5 rfl rfl rfl rfl, fun k hk => ?_, keepR h7 rfl rfl rfl rfl rfl rfl, keepH h8 rfl rfl rfl rfl rfl rfl rfl rfl rfl, keepG h9 (fun c a b => ?_) rfl rfl⟩
        · show upd (C 39) (3 * s + i) (nI z) k = upd (D 23) (3 * s + i) (nI z) k ∧ ∃ j, 1 ≤ j ∧ j ≤ 15 ∧ upd (D 23) (3 * s + i) (nI z) k = nI j
          unfold upd
          split
          · exact ⟨rfl, z, hz1, hz, rfl⟩
          · exact h6 k hk
        · rw [st2_n _ _ _ (by omega)]
      · rw [if_neg h3]
        refine ⟨-2, C, D, ?_, rfl, hI⟩
        by_cases q : a3 < 1
        · rw [if_pos q]
        · rw [if_neg q, if_neg (fun q2 => h3 ((in_c _ _ _).mpr ⟨Int32.not_lt.mp q, q2⟩))]
    · exact ⟨-2, C, D, by rw [if_pos h1, if_neg h2], by rw [if_pos h1, if_neg h2], hI⟩
  · exact ⟨-2, C, D, by rw [if_neg h1], by rw [if_neg h1], hI⟩
/-! things -/
theorem ok_thing {C D : Mem} (hI : Inv C D) (a1 : Int32) (a2 : Int32) (a3 : Int32) (a4 : Int32) : ∃ (r : Int32) (C1 : Mem) (D1 : Mem), f_X11_thing a1 a2 a3 a4 C = some (r, C1) ∧ f_X12_thing a1 a2 a3 a4 D = some (r, D1) ∧ Inv C1 D1 := by
  unfold f_X11_thing f_X12_thing
  rw [wi_in, wi_in, wi_in, wi_in]
  by_cases h1 : f_X12_in a1 0 99 = true
  · by_cases h2 : f_X12_in a2 0 99 = true
    · by_cases h3 : f_X12_in a3 0 99 = true
      · by_cases h4 : f_X12_in a4 0 99 = true
        · rw [if_pos h1, if_pos h1, if_pos h2, if_pos h2, if_pos h3, if_pos h3, if_pos h4, if_pos h4, bnd2_id]
          obtain ⟨x1, hx1, rfl⟩ := in_nI (n := 99) rfl (by decide) h1
          obtain ⟨x2, hx2, rfl⟩ := in_nI (n := 99) rfl (by decide) h2
          obtain ⟨x3, hx3, rfl⟩ := in_nI (n := 99) rfl (by decide) h3
          obtain ⟨x4, hx4, rfl⟩ := in_nI (n := 99) rfl (by decide) h4
          obtain ⟨n, hn, c0, d0, hp⟩ := hI.2.2.2.1
          unfold f_X10_add
          by_cases hf : n = 6
          · subst hf
            exact ⟨-4, C, D, by rw [c0, if_neg (by decide)], by rw [d0, if_pos (show nI 6 = (6 : Int32) from rfl)], hI⟩
          · have hlt : n < 6 := by omega
            have ic : nI n * 4 = nI (4 * n) := by rw [show (4 : Int32) = nI 4 from rfl, pk_mul, Nat.mul_comm]
            have id2 : 4 * nI n = nI (4 * n) := by rw [show (4 : Int32) = nI 4 from rfl, pk_mul]
            have i0 : ∀ (M : Mem) (i : Nat) (v : Int32), st2 M 20 i v 0 26 = M 0 26 := fun M i v => rfl
            have j0 : ∀ (M : Mem) (i : Nat) (v : Int32), st2 M 37 i v 36 1 = M 36 1 := fun M i v => rfl
            have a2' : ∀ k, nI k + 2 = nI (k + 2) := fun k => nI_add k 2
            have a3' : ∀ k, nI k + 3 = nI (k + 3) := fun k => nI_add k 3
            simp only [sto, lt_, i0, j0, c0, d0, ic, id2, nI_1, a2', a3', gdn (show 4 * n < 24 by omega) (show 24 ≤ 1000000 by decide), gdn (show 4 * n + 1 < 24 by omega) (show 24 ≤ 1000000 by decide), gdn (show 4 * n + 2 < 24 by omega) (show 24 ≤ 1000000 by decide), gdn (show 4 * n + 3 < 24 by omega) (show 24 ≤ 1000000 by decide), cl_nI (show 4 * n ≤ 1000000 by omega), cl_nI (show 4 * n + 1 ≤ 1000000 by omega), cl_nI (show 4 * n + 2 ≤ 1000000 by omega), cl_nI (show 4 * n + 3 ≤ 1000000 by omega)]
            rw [if_pos (show nI n < 6 from (lt_nI (b := 6) (by omega) (by decide)).mpr hlt), if_neg (show ¬ nI n = (6 : Int32) from fun q => hf ((eq_nI (b := 6) (by omega) (by decide)).mp q))]
            refine ⟨nI (n + 1) - 1, _, _, rfl, rfl, ?_⟩
            obtain ⟨h1, h2, h3, h5, h6, h7, h8, h9⟩ := hI
            refine ⟨keepP h1 rfl rfl rfl rfl rfl rfl rfl rfl rfl rfl rfl rfl rfl rfl rfl rfl, keepW h2 rfl rfl rfl rfl rfl rfl, keepB h3 rfl rfl rfl rfl rfl rfl, ⟨n + 1, hlt, rfl, rfl, fun k hk => ?_⟩, keepS h6 rfl rfl, keepR h7 rfl rfl rfl rfl rfl rfl, keepH h8 rfl rfl rfl rfl rfl rfl rfl rfl rfl, keepG h9 (fun c a b => ?_) rfl rfl⟩
            · show upd (upd (upd (upd (C 37) (4 * n) (nI x1)) (4 * n + 1) (nI x2)) (4 * n + 2) (nI x3)) (4 * n + 3) (nI x4) k = upd (upd (upd (upd (D 20) (4 * n) (nI x1)) (4 * n + 1) (nI x2)) (4 * n + 2) (nI x3)) (4 * n + 3) (nI x4) k ∧ ∃ j, j ≤ 99 ∧ upd (upd (upd (upd (D 20) (4 * n) (nI x1)) (4 * n + 1) (nI x2)) (4 * n + 2) (nI x3)) (4 * n + 3) (nI x4) k = nI j
              unfold upd
              by_cases q3 : k = 4 * n + 3
              · simp only [if_pos q3]; exact ⟨trivial, x4, hx4, rfl⟩
              · simp only [if_neg q3]
                by_cases q2 : k = 4 * n + 2
                · simp only [if_pos q2]; exact ⟨trivial, x3, hx3, rfl⟩
                · simp only [if_neg q2]
                  by_cases q1 : k = 4 * n + 1
                  · simp only [if_pos q1]; exact ⟨trivial, x2, hx2, rfl⟩
                  · simp only [if_neg q1]
                    by_cases q0 : k = 4 * n
                    · simp only [if_pos q0]; exact ⟨trivial, x1, hx1, rfl⟩
                    · simp only [if_neg q0]; exact hp k (by omega)
            · rw [st2_n _ _ _ (by omega), st2_n _ _ _ (by omega), st2_n _ _ _ (by omega), st2_n _ _ _ (by omega), st2_n _ _ _ (by omega)]
        · exact ⟨-2, C, D, by rw [if_pos h1, if_pos h2, if_pos h3, if_neg h4], by rw [if_pos h1, if_pos h2, if_pos h3, if_neg h4], hI⟩
      · exact ⟨-2, C, D, by rw [if_pos h1, if_pos h2, if_neg h3], by rw [if_pos h1, if_pos h2, if_neg h3], hI⟩
    · exact ⟨-2, C, D, by rw [if_pos h1, if_neg h2], by rw [if_pos h1, if_neg h2], hI⟩
  · exact ⟨-2, C, D, by rw [if_neg h1], by rw [if_neg h1], hI⟩
