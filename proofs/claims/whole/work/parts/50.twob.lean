/-! two peoples: both sides -/
theorem sL_perm {L M : List Nat} (h : L.Perm M) : sL L = sL M := by
  induction h with
  | nil => rfl
  | cons x _ ih => rw [sL, sL, ih]
  | swap x y l => rw [sL, sL, sL, sL]; omega
  | trans _ _ h1 h2 => rw [h1, h2]
theorem ad_add (a b c : Nat) : ad (a + c) (b + c) = ad a b := by
  unfold ad
  by_cases h : a ≤ b
  · rw [if_pos h, if_pos (by omega)]; omega
  · rw [if_neg h, if_neg (by omega)]; omega
theorem ad_comm (a b : Nat) : ad a b = ad b a := by
  unfold ad
  by_cases h : a ≤ b
  · by_cases h2 : b ≤ a
    · rw [if_pos h, if_pos h2]; omega
    · rw [if_pos h, if_neg h2]
  · rw [if_neg h, if_pos (by omega)]
theorem ad_1 {s T n m : Nat} (h : s ≤ T) : ad (s * (n + m)) (T * n) = ad (s * m) ((T - s) * n) := by
  rw [show s * (n + m) = s * m + s * n by rw [Nat.mul_add, Nat.add_comm], show T * n = (T - s) * n + s * n by rw [← Nat.add_mul, Nat.sub_add_cancel h], ad_add]
theorem ad_2 {s T n m : Nat} (h : s ≤ T) : ad (s * (n + m)) (T * m) = ad ((T - s) * m) ((T - (T - s)) * n) := by
  rw [show s * (n + m) = s * n + s * m from Nat.mul_add _ _ _, show T * m = (T - s) * m + s * m by rw [← Nat.add_mul, Nat.sub_add_cancel h], ad_add, ad_comm, show T - (T - s) = s by omega]
theorem two_all {L M : List Nat} (h : L.Perm M) (h10 : ∀ x, x ∈ M → x ≤ 10) {l : Nat} (hl : l ≤ 7) : sN (fun s => cw L l s) 71 = WL M (fun l' _ => decide (l' = l)) := by
  have e := WL_sums L l (fun _ => true) 71
  simp only [if_pos (show true = true from rfl), Bool.and_true] at e
  rw [show sN (fun s => cw L l s) 71 = _ from e, WL_perm h]
  refine WL_congr M _ _ h10 (fun l' s h1 h2 h3 h4 => decide_eq_decide.mpr ?_)
  constructor
  · exact fun q => q.1
  · exact fun q => ⟨q, by omega⟩
theorem two_far {L M : List Nat} (h : L.Perm M) (h10 : ∀ x, x ∈ M → x ≤ 10) {l : Nat} (hl : l ≤ 7) (G : Nat → Bool) : sN (fun s => if G s = true then cw L l s else 0) 71 = WL M (fun l' s => decide (l' = l) && G s) := by
  have e := WL_sums L l G 71
  rw [show sN (fun s => if G s = true then cw L l s else 0) 71 = _ from e, WL_perm h]
  refine WL_congr M _ _ h10 (fun l' s h1 h2 h3 h4 => ?_)
  congr 1
  refine decide_eq_decide.mpr ⟨fun q => q.1, fun q => ⟨q, by omega⟩⟩
theorem two_lo {M : List Nat} (h10 : ∀ x, x ∈ M → x ≤ 10) {n m S : Nat} (hS : S ≤ sL M) : WL M (fun l s => decide (l = n) && farC (n + m) (sL M) n S s) = WL M (fun l s => decide (l = n) && farD n m (sL M) S s) := by
  refine WL_congr M _ _ h10 (fun l s h1 h2 h3 h4 => ?_)
  unfold farC farD
  rw [ad_1 h2, ad_1 hS]
theorem two_hi {M : List Nat} (h10 : ∀ x, x ∈ M → x ≤ 10) {n m S : Nat} (hL : M.length = n + m) (hS : S ≤ sL M) : WL M (fun l s => decide (l = m) && farC (n + m) (sL M) m (sL M - S) s) = WL M (fun l s => decide (l = n) && farD n m (sL M) S s) := by
  rw [← WL_comp M (fun l s => decide (l = n) && farD n m (sL M) S s) h10]
  refine WL_congr M _ _ h10 (fun l s h1 h2 h3 h4 => ?_)
  unfold farC farD
  rw [ad_2 h2, ad_2 (show sL M - S ≤ sL M by omega), show sL M - (sL M - S) = S by omega]
  congr 1
  exact decide_eq_decide.mpr (by omega)
theorem two_hi2 {M : List Nat} (h10 : ∀ x, x ∈ M → x ≤ 10) {n m : Nat} (hL : M.length = n + m) : WL M (fun l _ => decide (l = m)) = WL M (fun l _ => decide (l = n)) := by
  rw [← WL_comp M (fun l _ => decide (l = n)) h10]
  refine WL_congr M _ _ h10 (fun l s h1 h2 h3 h4 => ?_)
  exact decide_eq_decide.mpr (by omega)
theorem ok_two {C D : Mem} (hI : Inv C D) (a1 : Int32) (a2 : Int32) : ∃ (r : Int32) (C1 : Mem) (D1 : Mem), f_X11_two a1 a2 C = some (r, C1) ∧ f_X12_two a1 a2 D = some (r, D1) ∧ Inv C1 D1 := by
  obtain ⟨n, hP⟩ := hI.1
  have hn := hP.1
  unfold f_X11_two f_X12_two
  rw [show f_X11_isPeople a1 = f_X12_isPeople a1 from rfl, show f_X11_isPeople a2 = f_X12_isPeople a2 from rfl]
  by_cases h1 : f_X12_isPeople a1 = true
  · by_cases h2 : f_X12_isPeople a2 = true
    · by_cases h3 : a1 = a2
      · exact ⟨-2, C, D, by rw [if_pos h1, if_pos h2, if_pos h3], by rw [if_pos h1, if_pos h2, if_pos h3], hI⟩
      · rw [if_pos h1, if_pos h1, if_pos h2, if_pos h2, if_neg h3, if_neg h3]
        obtain ⟨p, hp, rfl⟩ := in_nI (n := 3) rfl (by decide) h1
        obtain ⟨q, hq, rfl⟩ := in_nI (n := 3) rfl (by decide) h2
        have hpq : p ≠ q := fun e => h3 (by rw [e])
        have k1 : Kp C (TS C D 8 (nI p) 0 n) := Kp.TS (by decide) (by decide) _ _ _
        have hP1 := RP_Kp hP k1
        have k2 : Kp C (TS (TS C D 8 (nI p) 0 n) D 11 (nI q) 0 n) := k1.tr (Kp.TS (by decide) (by decide) _ _ _)
        rw [tally_C hP _ _ (by decide), bnd_e, tally_C hP1 _ _ (by decide), bnd_e, cntOf_Km hP (Km.rf D), cntOf_Km hP (Km.rf D), bnd_e, bnd_e, sumOf_Km hP (Km.rf D), sumOf_Km hP (Km.rf D)]
        obtain ⟨T, hTT⟩ : ∃ T, T = TS (TS C D 8 (nI p) 0 n) D 11 (nI q) 0 n := ⟨_, rfl⟩
        have c8 : T 8 2 = nI (cP D n p) := by rw [hTT]; exact (TS_2 C D 8 (nI p) 0 n).trans (cP_c hP p).1
        have c11 : T 11 2 = nI (cP D n q) := by rw [hTT, TS_2]; exact (cP_c hP q).1
        have s8 : T 8 4 = nI (sP D n p) := by rw [hTT]; exact (TS_4 C D 8 (nI p) 0 n).trans (sP_c hP p).1
        have s11 : T 11 4 = nI (sP D n q) := by rw [hTT, TS_4]; exact (sP_c hP q).1
        have f8 : ∀ j, j < 11 → T 9 j = nI (ctn (bF D (nI p) 0 j) n) := fun j hj => by
          rw [← gF_ctn, hTT]
          show (if j < 11 then sm (gF D (nI p) 0 j) n else _) = _
          rw [if_pos hj]
        have f11 : ∀ j, j < 11 → T 12 j = nI (ctn (bF D (nI q) 0 j) n) := fun j hj => by
          rw [← gF_ctn, hTT]
          show (if j < 11 then sm (gF D (nI q) 0 j) n else _) = _
          rw [if_pos hj]
        rw [← hTT] at k2 ⊢
        rw [c8, c11]
        have hcp := (cP_c hP p).2
        have hcq := (cP_c hP q).2
        have hIT : Inv T D := hI.keepC k2
        rcases Nat.eq_zero_or_pos (cP D n p) with z1 | z1
        · rw [z1, if_pos (show nI 0 = (0 : Int32) from rfl), if_pos (show nI 0 = (0 : Int32) from rfl)]
          exact ⟨_, _, _, rfl, rfl, hIT⟩
        · rw [if_neg (nI_ne0 z1 (by omega)), if_neg (nI_ne0 z1 (by omega))]
          rcases Nat.eq_zero_or_pos (cP D n q) with z2 | z2
          · rw [z2, if_pos (show nI 0 = (0 : Int32) from rfl), if_pos (show nI 0 = (0 : Int32) from rfl)]
            exact ⟨_, _, _, rfl, rfl, hIT⟩
          · rw [if_neg (nI_ne0 z2 (by omega)), if_neg (nI_ne0 z2 (by omega)), nI_add]
            by_cases z3 : nI (cP D n p + cP D n q) ≤ (14 : Int32)
            · have h14 : cP D n p + cP D n q ≤ 14 := (le_nI (b := 14) (by omega) (by decide)).mp z3
              rw [if_pos z3, if_pos z3]
              have hj : ∀ i, i < n → ∃ j, j ≤ 10 ∧ D 3 i = nI j := fun i hi => (hP.2.2.2.2.2 i hi).2.2.2.2.2.1
              obtain ⟨L, hL⟩ : ∃ L, L = ml D (nI p) (nI q) n := ⟨_, rfl⟩
              have len := ml_len (D := D) hp hq hpq n
              have h10 := ml_10 (D := D) (nI p) (nI q) n hj
              have sum := ml_sum hp hq hpq n hj
              have cnt := fun a => ml_cnt hp hq hpq a n hj
              rw [(sP_c hP p).1, (sP_c hP q).1, nI_add] at sum
              rw [← hL] at len h10 sum cnt
              have hsL : ∀ (M : List Nat), (∀ x, x ∈ M → x ≤ 10) → sL M ≤ 10 * M.length := by
                intro M
                induction M with
                | nil => intro _; exact Nat.le_refl _
                | cons x M ih =>
                  intro hx
                  have := ih (fun y hy => hx y (List.mem_cons_of_mem _ hy))
                  have := hx x (List.mem_cons_self ..)
                  rw [sL, List.length_cons]
                  omega
              have hT140 : sL L ≤ 140 := Nat.le_trans (hsL L h10) (by omega)
              have hsp := (sP_c hP p).2
              have hsq := (sP_c hP q).2
              have sum2 : sP D n p + sP D n q = sL L := (eq_nI (by omega) (by omega)).mp sum
              /- the class -/
              obtain ⟨M0, e0, d0, t0⟩ := clr_C T
              rw [e0, bnd_e]
              have b60 : ∀ x j, ctn (bF D (nI x) 0 j) n ≤ 60 := fun x j => Nat.le_trans (ctn_le _ _) hn
              obtain ⟨M1, L1, e1, d1, t1, n1⟩ := pool_C 8 (Or.inl rfl) (off := fun j => ctn (bF D (nI p) 0 j) n) (b60 p) (fun c => some c) 11 0 FU M0 [] rfl (by have := FU_ge; omega) (fun i hi => by rw [t0 9 (by decide) (by decide)]; exact f8 i hi) d0
              rw [show f_X1_pool 8 M0 = some M1 from e1, bnd_e]
              obtain ⟨M2, L2, e2, d2, t2, n2⟩ := pool_C 11 (Or.inr rfl) (off := fun j => ctn (bF D (nI q) 0 j) n) (b60 q) (fun c => some c) 11 0 FU M1 L1 rfl (by have := FU_ge; omega) (fun i hi => by rw [t1 12 (by decide) (by decide), t0 12 (by decide) (by decide)]; exact f11 i hi) d1
              rw [show f_X1_pool 11 M1 = some M2 from e2, bnd_e]
              have tt : KT T M2 := (t0.tr t1).tr t2
              have hperm : L2.Perm L := by
                rw [List.perm_iff_count]
                intro a
                rw [n2 a, n1 a, cnt a]
                simp
              have len2 := hperm.length_eq
              have sum3 := sL_perm hperm
              rw [show M2 8 2 = nI (cP D n p) from by rw [tt 8 (by decide) (by decide)]; exact c8, show M2 11 2 = nI (cP D n q) from by rw [tt 11 (by decide) (by decide)]; exact c11]
              /- the model -/
              rw [bnd_e, bnd_e, lt_e, lt_e, am_abs, nI_add, sum2, pk_sub (show sP D n p ≤ sL L by omega), pk_mul, pk_mul]
              have m1 : sP D n p * cP D n q ≤ 140 * 14 := Nat.mul_le_mul (by omega) (by omega)
              have m2 : (sL L - sP D n p) * cP D n p ≤ 140 * 14 := Nat.mul_le_mul (by omega) (by omega)
              rw [jabs_ad (by omega) (by omega)]
              obtain ⟨g', eg, hg⟩ := gath2_D hP hp hq hpq (by rw [← hL]; omega) (fun (D_158 : Mem) => (L_X12_two_167 (nI (cP D n p)) (nI (cP D n q)) (nI (sL L)) (nI (ad (sP D n p * cP D n q) ((sL L - sP D n p) * cP D n p))) D_158 (fun (v9_277 : Int64) (v11_277 : Int64) => gd (decide (¬ v9_277 = 0)) (some ((((1000000 * v11_277) / v9_277).toInt32), D_158))) FU 0 0 0)) n 0 FU (D 19) (by omega) (by have := FU_ge; omega) (fun i hi => absurd hi (Nat.not_lt_zero i))
              rw [up2_self, show nI (ml D (nI p) (nI q) 0).length = (0 : Int32) from rfl, show nI 0 = (0 : Int32) from rfl] at eg
              rw [eg]
              rw [← hL] at hg
              rw [masks_D len h14 hT140 (by omega) (fun i hi => by rw [up2_s]; exact hg i hi)]
              have hpos := WL_pos L (cP D n p) (by omega)
              have hle := WL_le L (fun l _ => decide (l = cP D n p))
              have hle2 := WL_le L (fun l s => decide (l = cP D n p) && farD (cP D n p) (cP D n q) (sL L) (sP D n p) s)
              have p14 : 2 ^ L.length ≤ 2 ^ 14 := Nat.pow_le_pow_right (by decide) (by omega)
              have hz : ¬ lN (WL L (fun l _ => decide (l = cP D n p))) = 0 := fun z => by
                have := (lN0 (by omega)).mp z
                omega
              rw [gd_t (decide_eq_true hz)]
              have hfin : Inv M2 (up2 D 19 g') := hI.keep (k2.tr ⟨fun k hk => tt k (fun e => by rw [e] at hk; cases hk) (fun e => by rw [e] at hk; cases hk), by rw [tt 14 (by decide) (by decide)], by rw [tt 40 (by decide) (by decide)]⟩) (Km.up _ rfl (by decide))
              have mil : f_X11_millionths (nI (WL L (fun l s => decide (l = cP D n p) && farD (cP D n p) (cP D n q) (sL L) (sP D n p) s))) (nI (WL L (fun l _ => decide (l = cP D n p)))) = some (((1000000 * lN (WL L (fun l s => decide (l = cP D n p) && farD (cP D n p) (cP D n q) (sL L) (sP D n p) s))) / lN (WL L (fun l _ => decide (l = cP D n p)))).toInt32) := by
                unfold f_X11_millionths
                rw [if_neg (nI_ne0 hpos (by omega)), nI_l (by omega), nI_l (by omega), gd_t (decide_eq_true hz)]
              unfold B_X11_two_155
              by_cases zz : cP D n q < cP D n p
              · rw [if_pos ((lt_nI (by omega) (by omega)).mpr zz), far_C d2 (show cP D n q ≤ 7 by omega) (show M2 11 2 = nI (cP D n q) from by rw [tt 11 (by decide) (by decide)]; exact c11) (show M2 11 4 = nI (sP D n q) from by rw [tt 11 (by decide) (by decide)]; exact s11) (by omega) (by omega) (by omega), two_all hperm h10 (by omega), two_far hperm h10 (by omega), len2, len, sum3, show sP D n q = sL L - sP D n p by omega, two_hi h10 len (by omega), two_hi2 h10 len, mil]
                exact ⟨_, _, _, rfl, rfl, hfin⟩
              · rw [if_neg (by rw [lt_nI (by omega) (by omega)]; exact zz), far_C d2 (show cP D n p ≤ 7 by omega) (show M2 8 2 = nI (cP D n p) from by rw [tt 8 (by decide) (by decide)]; exact c8) (show M2 8 4 = nI (sP D n p) from by rw [tt 8 (by decide) (by decide)]; exact s8) (by omega) (by omega) (by omega), two_all hperm h10 (by omega), two_far hperm h10 (by omega), len2, len, sum3, two_lo h10 (by omega), mil]
                exact ⟨_, _, _, rfl, rfl, hfin⟩
            · rw [if_neg z3, if_neg z3]
              exact ⟨_, _, _, rfl, rfl, hIT⟩
    · exact ⟨-2, C, D, by rw [if_pos h1, if_neg h2], by rw [if_pos h1, if_neg h2], hI⟩
  · exact ⟨-2, C, D, by rw [if_neg h1], by rw [if_neg h1], hI⟩
