/-! copy -/
theorem span_C {C : Mem} {s z : Nat} (hs : s < 4) (hz : z ≤ 48) (e : C 45 s = nI z) (a l : Int32) : ∃ b, f_X7_hasSpan (nI s) a l C = some b ∧ (b = true ↔ ∃ i c, a = nI i ∧ l = nI c ∧ i + c ≤ z) := by
  unfold f_X7_hasSpan
  simp only [gdn hs (show 4 ≤ 1000000 by decide), cl_nI (show s ≤ 1000000 by omega), e]
  by_cases h1 : a < 0
  · refine ⟨false, by rw [if_pos h1], (fun q => by cases q), fun ⟨i, c, q1, q2, q3⟩ => ?_⟩
    rw [q1] at h1
    exact absurd h1 (nI_pos (by omega))
  · by_cases h2 : l < 0
    · refine ⟨false, by rw [if_neg h1, if_pos h2], (fun q => by cases q), fun ⟨i, c, q1, q2, q3⟩ => ?_⟩
      rw [q2] at h2
      exact absurd h2 (nI_pos (by omega))
    · rw [if_neg h1, if_neg h2]
      obtain ⟨i, hi, rfl⟩ := nI_of h1
      obtain ⟨c, hc, rfl⟩ := nI_of h2
      by_cases h3 : nI z < nI c
      · refine ⟨false, by rw [if_pos h3], (fun q => by cases q), fun ⟨i', c', q1, q2, q3⟩ => ?_⟩
        rw [q2] at h3
        have := (nI_ltI (by omega) (by omega)).mp h3
        omega
      · have hcz : c ≤ z := by
          rcases Nat.lt_or_ge z c with q | q
          · exact absurd ((nI_ltI (by omega) hc).mpr q) h3
          · exact q
        rw [if_neg h3, pk_sub hcz]
        by_cases h4 : nI (z - c) < nI i
        · refine ⟨false, by rw [if_pos h4], (fun q => by cases q), fun ⟨i', c', q1, q2, q3⟩ => ?_⟩
          have q4 := congrArg Int32.toInt q1
          have q5 := congrArg Int32.toInt q2
          rw [nI_toInt hi, nI_toInt (by omega)] at q4
          rw [nI_toInt hc, nI_toInt (by omega)] at q5
          have := (nI_ltI (by omega) hi).mp h4
          omega
        · refine ⟨true, by rw [if_neg h4], fun _ => ⟨i, c, rfl, rfl, ?_⟩, fun _ => rfl⟩
          rcases Nat.lt_or_ge (z - c) i with q | q
          · exact absurd ((nI_ltI (by omega) hi).mpr q) h4
          · omega
def mvd (g f : Nat → Int32) (a k : Nat) : Nat → Int32 := fun j => if j < k then f (a + j) else g j
theorem mvd_succ (g f : Nat → Int32) (a k : Nat) : upd (mvd g f a k) k (f (a + k)) = mvd g f a (k + 1) := by
  funext j
  unfold upd mvd
  by_cases h : j = k
  · rw [if_pos h, if_pos (by omega), h]
  · rw [if_neg h]
    by_cases h2 : j < k
    · rw [if_pos h2, if_pos (by omega)]
    · rw [if_neg h2, if_neg (by omega)]
theorem mvd_0 (g f : Nat → Int32) (a : Nat) : mvd g f a 0 = g := by
  funext j
  unfold mvd
  rw [if_neg (by omega)]
theorem cpy_succ (f g : Nat → Int32) (sp dp k : Nat) : upd (va_cpy f g sp dp k) (dp + k) (f (sp + k)) = va_cpy f g sp dp (k + 1) := by
  funext j
  unfold upd va_cpy
  by_cases h : j = dp + k
  · rw [if_pos h, if_pos (by omega), h, show dp + k - dp = k by omega]
  · rw [if_neg h]
    by_cases h2 : dp ≤ j ∧ j < dp + k
    · rw [if_pos h2, if_pos (by omega)]
    · rw [if_neg h2, if_neg (by omega)]
theorem cpy_0 (f g : Nat → Int32) (sp dp : Nat) : va_cpy f g sp dp 0 = g := by
  funext j
  unfold va_cpy
  rw [if_neg (by omega)]
theorem mv1_D {s i c : Nat} (hs : s < 4) (h : i + c ≤ 48) (M : Mem) (kx : Mem → Option (Int32 × Mem)) : L_X12_copy_120 (nI s) (nI i) (nI c) kx FU 0 M = kx (up2 M 30 (mvd (M 30) (M 29) (48 * s + i) c)) := by
  have h9 := up_FU (N := c) (by omega) (fun f a i' => L_X12_copy_120 (nI s) (nI i) (nI c) kx f i' a) (fun k => up2 M 30 (mvd (M 30) (M 29) (48 * s + i) k)) (kx (up2 M 30 (mvd (M 30) (M 29) (48 * s + i) c))) (fun f => ?_) (fun f k hk => ?_)
  · simp only [mvd_0, up2_self] at h9
    exact h9
  · show L_X12_copy_120 (nI s) (nI i) (nI c) _ (f + 1) (nI c) _ = _
    rw [L_X12_copy_120, if_pos (Int32.le_refl _)]
  · show L_X12_copy_120 (nI s) (nI i) (nI c) _ (f + 1) (nI k) _ = L_X12_copy_120 (nI s) (nI i) (nI c) _ f (nI (k + 1)) _
    rw [L_X12_copy_120, if_neg (by rw [le_nI (by omega) (by omega)]; omega), ixs_d, nI_add, gdn (by omega) (by decide), gdn (by omega) (by decide), cl_nI (by omega), cl_nI (by omega)]
    simp only [sto, lt_, nI_1, st2]
    rw [up2_s, up2_up2, up2_n _ _ (by decide), mvd_succ]
theorem mv2_D {t j c : Nat} (ht : t < 4) (h : j + c ≤ 48) (M : Mem) (f0 : Nat → Int32) (sp : Nat) (hM : ∀ k, k < c → M 30 k = f0 (sp + k)) (kx : Mem → Option (Int32 × Mem)) : L_X12_copy_157 (nI t) (nI j) (nI c) kx FU 0 M = kx (up2 M 29 (va_cpy f0 (M 29) sp (48 * t + j) c)) := by
  have h9 := up_FU (N := c) (by omega) (fun f a i' => L_X12_copy_157 (nI t) (nI j) (nI c) kx f i' a) (fun k => up2 M 29 (va_cpy f0 (M 29) sp (48 * t + j) k)) (kx (up2 M 29 (va_cpy f0 (M 29) sp (48 * t + j) c))) (fun f => ?_) (fun f k hk => ?_)
  · simp only [cpy_0, up2_self] at h9
    exact h9
  · show L_X12_copy_157 (nI t) (nI j) (nI c) _ (f + 1) (nI c) _ = _
    rw [L_X12_copy_157, if_pos (Int32.le_refl _)]
  · show L_X12_copy_157 (nI t) (nI j) (nI c) _ (f + 1) (nI k) _ = L_X12_copy_157 (nI t) (nI j) (nI c) _ f (nI (k + 1)) _
    rw [L_X12_copy_157, if_neg (by rw [le_nI (by omega) (by omega)]; omega), ixs_d, nI_add, gdn (by omega) (by decide), gdn (by omega) (by decide), cl_nI (by omega), cl_nI (by omega)]
    simp only [sto, lt_, nI_1, st2]
    rw [up2_s, up2_up2, up2_n _ _ (by decide), hM k hk, cpy_succ]
theorem sum_l {i c z : Nat} (hi : i < 2 ^ 31) (hc : c < 2 ^ 31) (hz : z ≤ 48) : (0 < lg_cmp ((nI i).toInt64 + (nI c).toInt64) ((nI z).toInt64) ↔ z < i + c) ∧ (lg_cmp ((nI i).toInt64 + (nI c).toInt64) ((nI z).toInt64) ≤ 0 ↔ i + c ≤ z) := by
  rw [lg_cmp_gt, lg_cmp_le, nI_l hi, nI_l hc, nI_l (by omega), lN_add, pk_lLT (by omega) (by omega), pk_lLE (by omega) (by omega)]
  exact ⟨Iff.rfl, Iff.rfl⟩
theorem ok_copy {C D : Mem} (hI : Inv C D) (a1 : Int32) (a2 : Int32) (a3 : Int32) (a4 : Int32) (a5 : Int32) : ∃ (r : Int32) (C1 : Mem) (D1 : Mem), f_X11_copy a1 a2 a3 a4 a5 C = some (r, C1) ∧ f_X12_copy a1 a2 a3 a4 a5 D = some (r, D1) ∧ Inv C1 D1 := by
  unfold f_X11_copy f_X12_copy
  rw [show f_X11_isSheet a1 = f_X12_isSheet a1 from rfl, show f_X11_isSheet a3 = f_X12_isSheet a3 from rfl]
  by_cases h1 : f_X12_isSheet a1 = true
  · by_cases h2 : f_X12_isSheet a3 = true
    · rw [if_pos h1, if_pos h1, if_pos h2, if_pos h2]
      obtain ⟨s, hs, rfl⟩ := in_nI (n := 3) rfl (by decide) h1
      obtain ⟨t, ht, rfl⟩ := in_nI (n := 3) rfl (by decide) h2
      have h := hI.2.2.2.2.2.2.1
      rw [lost_C h (by omega), lost_C h (by omega), bnd_e, bnd_e]
      unfold f_X7_formOf
      simp only [gdn (show s < 4 by omega) (show 4 ≤ 1000000 by decide), gdn (show t < 4 by omega) (show 4 ≤ 1000000 by decide), cl_nI (show s ≤ 1000000 by omega), cl_nI (show t ≤ 1000000 by omega), decide_eq_true_eq, bnd_e]
      by_cases q1 : D 26 s = 0
      · rw [if_pos q1, if_pos q1]
        exact found_both hI 1
      · rw [if_neg q1, if_neg q1]
        by_cases q2 : D 26 t = 0
        · rw [if_pos q2, if_pos q2]
          exact found_both hI 1
        · rw [if_neg q2, if_neg q2]
          obtain ⟨⟨z1, hz1, c1, d1⟩, hf1⟩ := h.1 s (by omega)
          obtain ⟨⟨z2, hz2, c2, d2⟩, hf2⟩ := h.1 t (by omega)
          obtain ⟨f1, -, c3, d3, -⟩ := hf1.resolve_left (fun q => q1 q.2)
          obtain ⟨f2, -, c4, d4, -⟩ := hf2.resolve_left (fun q => q2 q.2)
          rw [c3, c4, d3, d4, d1, d2]
          by_cases q3 : nI f1 = nI f2
          · rw [if_pos q3, if_pos q3]
            obtain ⟨b1, e1, g1⟩ := span_C (show s < 4 by omega) hz1 c1 a2 a5
            obtain ⟨b2, e2, g2⟩ := span_C (show t < 4 by omega) hz2 c2 a4 a5
            rw [e1, e2, bnd_e, bnd_e]
            by_cases p1 : a2 < 0
            · have n1 : ¬ b1 = true := fun q => by
                obtain ⟨i, c, q1, q2, q3⟩ := g1.mp q
                rw [q1] at p1
                exact absurd p1 (nI_pos (by omega))
              rw [if_neg n1, if_pos p1]
              exact found_both hI 2
            · rw [if_neg p1]
              by_cases p3 : a5 < 0
              · have n1 : ¬ b1 = true := fun q => by
                  obtain ⟨i, c, q1, q2, q3⟩ := g1.mp q
                  rw [q2] at p3
                  exact absurd p3 (nI_pos (by omega))
                rw [if_neg n1, if_pos p3]
                by_cases p2 : a4 < 0
                · rw [if_pos p2]; exact found_both hI 2
                · rw [if_neg p2]; exact found_both hI 2
              · obtain ⟨i, hi, rfl⟩ := nI_of p1
                obtain ⟨c, hc, rfl⟩ := nI_of p3
                have inj : ∀ {x y : Nat}, x < 2 ^ 31 → y < 2 ^ 31 → nI x = nI y → x = y := fun hx hy q => (nI_eq hx hy).mp q
                by_cases p4 : i + c ≤ z1
                · have n1 : b1 = true := g1.mpr ⟨i, c, rfl, rfl, p4⟩
                  rw [if_pos n1, if_neg p3, if_neg (show ¬ 0 < lg_cmp ((nI i).toInt64 + (nI c).toInt64) ((nI z1).toInt64) from fun q => by have := (sum_l hi hc hz1).1.mp q; omega)]
                  by_cases p2 : a4 < 0
                  · have n2 : ¬ b2 = true := fun q => by
                      obtain ⟨i, c, q1, q2, q3⟩ := g2.mp q
                      rw [q1] at p2
                      exact absurd p2 (nI_pos (by omega))
                    rw [if_neg n2, if_pos p2]
                    exact found_both hI 2
                  · obtain ⟨j, hj, rfl⟩ := nI_of p2
                    rw [if_neg p2]
                    by_cases p5 : j + c ≤ z2
                    · have n2 : b2 = true := g2.mpr ⟨j, c, rfl, rfl, p5⟩
                      rw [if_pos n2, if_pos ((sum_l hj hc hz2).2.mpr p5)]
                      unfold f_X7_move
                      rw [mv1_D (by omega) (by omega), mv2_D (by omega) (by omega) _ (D 29) (48 * s + i) (fun k hk => by rw [up2_s]; unfold mvd; rw [if_pos hk]), ixs_c, ixs_c]
                      rw [gd_t (by unfold cpok; rw [cl_nI (by omega), cl_nI (by omega), cl_nI (by omega)]; exact decide_eq_true ⟨nI_pos (by omega), nI_pos (by omega), nI_pos (by omega), by omega, by omega⟩), cl_nI (by omega), cl_nI (by omega), cl_nI (by omega)]
                      refine ⟨_, _, _, rfl, rfl, hI.mkH (fun k hk => ?_) (fun k a b => ?_) (fun j hj => ?_) ?_⟩
                      · rw [up2_n _ _ (by omega)]
                      · rw [up2_n _ _ (by omega), up2_n _ _ (by omega)]
                      · rw [up2_n _ _ (by omega), up2_n _ _ (by omega)]
                      · refine ⟨h.1, fun k hk => ?_, h.2.2⟩
                        show va_cpy (C 46) (C 46) (48 * s + i) (48 * t + j) c k = va_cpy (D 29) (D 29) (48 * s + i) (48 * t + j) c k
                        unfold va_cpy
                        split
                        · exact h.2.1 _ (by omega)
                        · exact h.2.1 k hk
                    · have n2 : ¬ b2 = true := fun q => by
                        obtain ⟨i', c', q1, q2, q3⟩ := g2.mp q
                        have := inj hj (by omega) q1
                        have := inj hc (by omega) q2
                        omega
                      rw [if_neg n2, if_neg (show ¬ lg_cmp ((nI j).toInt64 + (nI c).toInt64) ((nI z2).toInt64) ≤ 0 from fun q => p5 ((sum_l hj hc hz2).2.mp q))]
                      exact found_both hI 2
                · have n1 : ¬ b1 = true := fun q => by
                    obtain ⟨i', c', q1, q2, q3⟩ := g1.mp q
                    have := inj hi (by omega) q1
                    have := inj hc (by omega) q2
                    omega
                  rw [if_neg n1, if_neg p3, if_pos ((sum_l hi hc hz1).1.mpr (by omega))]
                  by_cases p2 : a4 < 0
                  · rw [if_pos p2]; exact found_both hI 2
                  · rw [if_neg p2]; exact found_both hI 2
          · rw [if_neg q3, if_neg q3]
            exact found_both hI 4
    · exact ⟨-2, C, D, by rw [if_pos h1, if_neg h2], by rw [if_pos h1, if_neg h2], hI⟩
  · exact ⟨-2, C, D, by rw [if_neg h1], by rw [if_neg h1], hI⟩
/-! write -/
theorem write_in (p kd : Int32) {n s z : Nat} (hn : n ≤ 60) (hs : s < 4) (hz : z ≤ 48) : ∀ m k o fuel (C D : Mem), k + m = n → m < fuel → Inv C D → D 0 0 = nI n → (∃ g, C 44 s = nI g ∧ D 27 s = nI g) → D 28 s = nI z → o ≤ z → ∃ r C1 D1, L_X11_write_60 p kd (nI s) (nI z) (fun v c => some (v, c)) fuel (nI o) (nI k) C = some (r, C1) ∧ L_X12_write_45 p kd (nI s) (fun v c => some (v, c)) fuel (nI o) (nI k) D = some (r, D1) ∧ Inv C1 D1
  | 0, k, o, fuel, C, D, h1, h2, hI, h0, hg, h28, ho => by
    obtain ⟨f, rfl⟩ : ∃ f, fuel = f + 1 := ⟨fuel - 1, by omega⟩
    obtain ⟨n', hP⟩ := hI.1
    have e : n' = n := (eq_nI (by have := hP.1; omega) (by omega)).mp (hP.2.2.1.symm.trans h0)
    subst e
    rw [L_X11_write_60, L_X12_write_45, hP.2.1, h0, if_pos (by rw [le_nI (by omega) (by omega)]; omega), if_pos (by rw [le_nI (by omega) (by omega)]; omega)]
    exact ⟨_, _, _, rfl, rfl, hI⟩
  | m + 1, k, o, fuel, C, D, h1, h2, hI, h0, hg, h28, ho => by
    obtain ⟨f, rfl⟩ : ∃ f, fuel = f + 1 := ⟨fuel - 1, by omega⟩
    obtain ⟨n', hP⟩ := hI.1
    have e : n' = n := (eq_nI (by have := hP.1; omega) (by omega)).mp (hP.2.2.1.symm.trans h0)
    subst e
    have q0 : ¬ nI n' ≤ nI k := by rw [le_nI (by omega) (by omega)]; omega
    rw [L_X11_write_60, L_X12_write_45, hP.2.1, h0, if_neg q0, if_neg q0, gdn hs (by decide), cl_nI (show s ≤ 1000000 by omega), h28]
    by_cases q : nI z ≤ nI o
    · rw [if_pos q, if_pos q]
      exact ⟨_, _, _, rfl, rfl, hI⟩
    · have hoz : o < z := by
        rcases Nat.lt_or_ge o z with w | w
        · exact w
        · exact absurd ((le_nI (by omega) (by omega)).mpr w) q
      rw [if_neg q, if_neg q, isOf_C hP p kd (by omega), isOf_D D p kd (by omega), bnd_e, bnd_e, counts_C hP (by omega), bnd_e]
      unfold B_X11_write_128 B_X12_write_93
      simp only [lt_, nI_1]
      rw [isD_eq]
      have hi4 := (hP.2.2.2.2.2 k (by omega)).2.2.1
      obtain ⟨g, g1, g2⟩ := hg
      have ih1 := write_in p kd hn hs hz m (k + 1) o f C D (by omega) (by omega) hI h0 ⟨g, g1, g2⟩ h28 ho
      generalize (if D 2 k = kd then (if p = -1 then true else if D 1 k = p then true else false) else false) = b
      cases b
      · simp only [Bool.false_and, if_neg (show ¬ (false = true) by decide)]
        exact ih1
      · simp only [Bool.true_and, if_pos (show true = true from rfl)]
        by_cases hc : cnD D k = true
        · rw [if_pos hc, if_pos hc, gdn (by omega) (by decide), gdn (by omega) (by decide), cl_nI (by omega), hi4, keep_C hs (by omega), keep_D hs (by omega), bnd_e, bnd_e, g1, g2]
          exact write_in p kd hn hs hz m (k + 1) (o + 1) f _ _ (by omega) (by omega) (Inv_st hI _ _) h0 ⟨g, g1, g2⟩ h28 (by omega)
        · rw [if_neg hc, if_neg hc]
          exact ih1
theorem ok_write {C D : Mem} (hI : Inv C D) (a1 : Int32) (a2 : Int32) (a3 : Int32) : ∃ (r : Int32) (C1 : Mem) (D1 : Mem), f_X11_write a1 a2 a3 C = some (r, C1) ∧ f_X12_write a1 a2 a3 D = some (r, D1) ∧ Inv C1 D1 := by
  unfold f_X11_write f_X12_write
  rw [any_c, show f_X11_isKind a2 = f_X12_isKind a2 from rfl, show f_X11_isSheet a3 = f_X12_isSheet a3 from rfl]
  by_cases h1 : f_X12_isAny a1 = true
  · by_cases h2 : f_X12_isKind a2 = true
    · by_cases h3 : f_X12_isSheet a3 = true
      · rw [if_pos h1, if_pos h1, if_pos h2, if_pos h2, if_pos h3, if_pos h3]
        obtain ⟨s, hs, rfl⟩ := in_nI (n := 3) rfl (by decide) h3
        have h := hI.2.2.2.2.2.2.1
        rw [lost_C h (by omega), bnd_e]
        unfold f_X7_sizeOf
        simp only [gdn (show s < 4 by omega) (show 4 ≤ 1000000 by decide), cl_nI (show s ≤ 1000000 by omega), decide_eq_true_eq, bnd_e]
        by_cases q1 : D 26 s = 0
        · rw [if_pos q1, if_pos q1]
          exact found_both hI 1
        · rw [if_neg q1, if_neg q1]
          obtain ⟨⟨z, hz, c1, d1⟩, hf⟩ := h.1 s (by omega)
          obtain ⟨g, -, c3, d3, -⟩ := hf.resolve_left (fun q => q1 q.2)
          obtain ⟨n, hP⟩ := hI.1
          have hn := hP.1
          rw [c1]
          exact write_in a1 a2 hn (by omega) hz n 0 0 FU C D (by omega) (by have := FU_ge; omega) hI hP.2.2.1 ⟨g, c3, d3⟩ d1 (by omega)
      · exact ⟨-2, C, D, by rw [if_pos h1, if_pos h2, if_neg h3], by rw [if_pos h1, if_pos h2, if_neg h3], hI⟩
    · exact ⟨-2, C, D, by rw [if_pos h1, if_neg h2], by rw [if_pos h1, if_neg h2], hI⟩
  · exact ⟨-2, C, D, by rw [if_neg h1], by rw [if_neg h1], hI⟩
/-! read -/
def qq (P : Mem → Prop) (x : Option (Int32 × Mem)) : Prop := ∀ r D1, x = some (r, D1) → P D1
theorem qq_if {P : Mem → Prop} {c : Prop} [Decidable c] {x y : Option (Int32 × Mem)} (h1 : qq P x) (h2 : qq P y) : qq P (if c then x else y) := by
  by_cases h : c
  · rw [if_pos h]; exact h1
  · rw [if_neg h]; exact h2
theorem qq_gd {P : Mem → Prop} {b : Bool} {x : Option (Int32 × Mem)} (h1 : qq P x) : qq P (gd b x) := by
  unfold gd
  exact qq_if h1 (fun r D1 e => by cases e)
theorem qq_none {P : Mem → Prop} : qq P none := fun _ _ e => by cases e
theorem qq_some {P : Mem → Prop} {r : Int32} {D : Mem} (h : P D) : qq P (some (r, D)) := fun _ _ e => by
  cases e
  exact h
theorem pair_q (a b c d e : Int32) (D : Mem) : qq (fun D1 => D1 28 = D 28) (f_X12_pairMore a b c d e D) := by
  unfold f_X12_pairMore B_X12_pairMore_33
  simp only [sto]
  repeat' first
    | apply qq_if
    | apply qq_gd
    | exact qq_some rfl
    | exact qq_none
theorem pair_28 {a b c d e r : Int32} {D D1 : Mem} (h : f_X12_pairMore a b c d e D = some (r, D1)) : D1 28 = D 28 := pair_q a b c d e D r D1 h
theorem read_in (p kd tm : Int32) {s z : Nat} (hs : s < 4) (hz : z ≤ 48) : ∀ m k fuel (C D : Mem), k + m = z / 2 → m < fuel → Inv C D → D 28 s = nI z → ∃ r C1 D1, L_X11_read_71 (nI s) p kd tm (nI (z / 2)) (fun c => some (nI (z / 2), c)) fuel (nI k) C = some (r, C1) ∧ L_X12_read_57 (nI s) p kd tm (fun v c => some (v, c)) fuel (nI k) D = some (r, D1) ∧ Inv C1 D1
  | 0, k, fuel, C, D, h1, h2, hI, h28 => by
    obtain ⟨f, rfl⟩ : ∃ f, fuel = f + 1 := ⟨fuel - 1, by omega⟩
    have e : k = z / 2 := by omega
    rw [L_X11_read_71, L_X12_read_57, gdn hs (by decide), cl_nI (by omega), h28, show (2 : Int32) = nI 2 from rfl, pk_mul, nI_1, if_pos (by rw [le_nI (by omega) (by omega)]; omega), if_pos (by rw [le_nI (by omega) (by omega)]; omega), e]
    exact ⟨_, _, _, rfl, rfl, hI⟩
  | m + 1, k, fuel, C, D, h1, h2, hI, h28 => by
    obtain ⟨f, rfl⟩ : ∃ f, fuel = f + 1 := ⟨fuel - 1, by omega⟩
    have hH := hI.2.2.2.2.2.2.1
    rw [L_X11_read_71, L_X12_read_57, gdn hs (by decide), cl_nI (by omega), h28, show (2 : Int32) = nI 2 from rfl, pk_mul, nI_1, if_neg (by rw [le_nI (by omega) (by omega)]; omega), if_neg (by rw [le_nI (by omega) (by omega)]; omega)]
    unfold f_X7_item
    rw [ixs_c, ixs_c, ixs_d, nI_1 (48 * s + 2 * k), gdn (by omega) (by decide), gdn (by omega) (by decide), gdn (by omega) (by decide), gdn (by omega) (by decide), bnd_e, bnd_e, cl_nI (by omega), cl_nI (by omega), cl_nI (by omega), hH.2.1 _ (by omega), hH.2.1 _ (by omega)]
    rw [show 48 * s + (2 * k + 1) = 48 * s + 2 * k + 1 by omega]
    obtain ⟨r, C1, D1, e1, e2, hI1⟩ := pair_both hI p kd (D 29 (48 * s + 2 * k)) (D 29 (48 * s + 2 * k + 1)) tm
    rw [e1, e2, bnd2_e, bnd2_e]
    simp only [lt_, nI_1]
    by_cases q : 0 ≤ r
    · rw [if_pos q, if_pos q]
      exact read_in p kd tm hs hz m (k + 1) f C1 D1 (by omega) (by omega) hI1 (by rw [pair_28 e2]; exact h28)
    · rw [if_neg q, if_neg q]
      exact ⟨_, _, _, rfl, rfl, hI1⟩
theorem ok_read {C D : Mem} (hI : Inv C D) (a1 : Int32) (a2 : Int32) (a3 : Int32) (a4 : Int32) : ∃ (r : Int32) (C1 : Mem) (D1 : Mem), f_X11_read a1 a2 a3 a4 C = some (r, C1) ∧ f_X12_read a1 a2 a3 a4 D = some (r, D1) ∧ Inv C1 D1 := by
  obtain ⟨n, hP⟩ := hI.1
  unfold f_X11_read f_X12_read
  rw [told_eq hP, show f_X11_isPeople a2 = f_X12_isPeople a2 from rfl, show f_X11_isKind a3 = f_X12_isKind a3 from rfl, show f_X11_isSheet a1 = f_X12_isSheet a1 from rfl]
  by_cases h1 : f_X12_isSheet a1 = true
  · by_cases h2 : f_X12_isPeople a2 = true
    · by_cases h3 : f_X12_isKind a3 = true
      · by_cases h4 : f_X12_in a4 (D 0 7) 999 = true
        · rw [if_pos h1, if_pos h1, if_pos h2, if_pos h2, if_pos h3, if_pos h3, if_pos h4, if_pos h4]
          obtain ⟨s, hs, rfl⟩ := in_nI (n := 3) rfl (by decide) h1
          have h := hI.2.2.2.2.2.2.1
          rw [lost_C h (by omega), bnd_e]
          unfold f_X7_sizeOf
          simp only [gdn (show s < 4 by omega) (show 4 ≤ 1000000 by decide), cl_nI (show s ≤ 1000000 by omega), decide_eq_true_eq, bnd_e, lt_]
          by_cases q1 : D 26 s = 0
          · rw [if_pos q1, if_pos q1]
            exact found_both hI 1
          · rw [if_neg q1, if_neg q1]
            obtain ⟨⟨z, hz, c1, d1⟩, -⟩ := h.1 s (by omega)
            rw [c1, show (2 : Int32) = nI 2 from rfl, pk_div (by omega) (by decide) (by decide)]
            exact read_in a2 a3 a4 (by omega) hz (z / 2) 0 FU C D (by omega) (by have := FU_ge; omega) hI d1
        · exact ⟨-2, C, D, by rw [if_pos h1, if_pos h2, if_pos h3, if_neg h4], by rw [if_pos h1, if_pos h2, if_pos h3, if_neg h4], hI⟩
      · exact ⟨-2, C, D, by rw [if_pos h1, if_pos h2, if_neg h3], by rw [if_pos h1, if_pos h2, if_neg h3], hI⟩
    · exact ⟨-2, C, D, by rw [if_pos h1, if_neg h2], by rw [if_pos h1, if_neg h2], hI⟩
  · exact ⟨-2, C, D, by rw [if_neg h1], by rw [if_neg h1], hI⟩
