/-! how many, said no, the middle -/
def ctn (b : Nat → Bool) : Nat → Nat
  | 0 => 0
  | n + 1 => ctn b n + (if b n = true then 1 else 0)
theorem ctn_le (b : Nat → Bool) : ∀ n, ctn b n ≤ n
  | 0 => Nat.le_refl 0
  | n + 1 => by
    have := ctn_le b n
    unfold ctn
    split <;> omega
theorem sm_ctn (b : Nat → Bool) : ∀ n, sm (fun i => if b i = true then 1 else 0) n = nI (ctn b n)
  | 0 => rfl
  | n + 1 => by
    rw [sm, sm_ctn b n, ctn]
    split
    · rw [← nI_add]; rfl
    · rw [Nat.add_zero, Int32.add_zero]
theorem ctn_congr {a b : Nat → Bool} : ∀ n, (∀ k, k < n → a k = b k) → ctn a n = ctn b n
  | 0, _ => rfl
  | n + 1, e => by rw [ctn, ctn, ctn_congr n (fun k hk => e k (by omega)), e n (by omega)]
def sN (f : Nat → Nat) : Nat → Nat
  | 0 => 0
  | n + 1 => sN f n + f n
theorem sN_add (f g : Nat → Nat) : ∀ n, sN (fun j => f j + g j) n = sN f n + sN g n
  | 0 => rfl
  | n + 1 => by simp only [sN, sN_add f g n]; omega
theorem sN_one (j0 : Nat) : ∀ n, sN (fun j => if j = j0 then 1 else 0) n = if j0 < n then 1 else 0
  | 0 => rfl
  | n + 1 => by
    rw [sN, sN_one j0 n]
    by_cases h : j0 < n
    · rw [if_pos h, if_neg (by omega), if_pos (by omega)]
    · by_cases h2 : n = j0
      · rw [if_neg h, if_pos h2, if_pos (by omega)]
      · rw [if_neg h, if_neg h2, if_neg (by omega)]
theorem sN_zero : ∀ n, sN (fun _ => 0) n = 0
  | 0 => rfl
  | n + 1 => by rw [sN, sN_zero n]
theorem sN_congr {f g : Nat → Nat} : ∀ n, (∀ k, k < n → f k = g k) → sN f n = sN g n
  | 0, _ => rfl
  | n + 1, e => by rw [sN, sN, sN_congr n (fun k hk => e k (by omega)), e n (by omega)]
theorem sN_mono (f : Nat → Nat) (m : Nat) : ∀ n, sN f m ≤ sN f (m + n)
  | 0 => Nat.le_refl _
  | n + 1 => by
    have := sN_mono f m n
    show sN f m ≤ sN f (m + n) + f (m + n)
    omega
def bF (D : Mem) (p kd : Int32) (j i : Nat) : Bool := isD D p kd i && decide (D 3 i = nI j)
theorem gC_ctn (D : Mem) (p kd : Int32) (n : Nat) : sm (gC D p kd) n = nI (ctn (isD D p kd) n) := sm_ctn _ n
theorem gF_ctn (D : Mem) (p kd : Int32) (j n : Nat) : sm (gF D p kd j) n = nI (ctn (bF D p kd j) n) := by
  rw [← sm_ctn]
  refine sm_congr n (fun k _ => ?_)
  unfold gF bF
  cases isD D p kd k
  · simp
  · by_cases h : D 3 k = nI j <;> simp [h]
theorem part_11 {D : Mem} (p kd : Int32) : ∀ n, (∀ k, k < n → ∃ j, j ≤ 10 ∧ D 3 k = nI j) → sN (fun j => ctn (bF D p kd j) n) 11 = ctn (isD D p kd) n
  | 0, _ => sN_zero 11
  | n + 1, h => by
    have ih := part_11 p kd n (fun k hk => h k (by omega))
    obtain ⟨j0, hj, e⟩ := h n (by omega)
    show sN (fun j => ctn (bF D p kd j) n + (if bF D p kd j n = true then 1 else 0)) 11 = ctn (isD D p kd) n + (if isD D p kd n = true then 1 else 0)
    rw [sN_add, ih]
    congr 1
    by_cases hb : isD D p kd n = true
    · rw [if_pos hb]
      have key := sN_one j0 11
      rw [if_pos (show j0 < 11 by omega)] at key
      refine (sN_congr 11 (fun j hj2 => ?_)).trans key
      unfold bF
      rw [hb, e]
      by_cases q : j = j0
      · subst q; simp
      · rw [if_neg q, if_neg]
        simp only [Bool.true_and, decide_eq_true_eq]
        exact fun z => q ((eq_nI (by omega) (by omega)).mp z).symm
    · rw [if_neg hb]
      refine (sN_congr 11 (fun j _ => ?_)).trans (sN_zero 11)
      unfold bF
      rw [if_neg]
      rw [Bool.and_eq_true]
      exact fun z => hb z.1
theorem pos_nI {x : Nat} (h : 0 < x) (hx : x ≤ 1000000) : 0 < nI x := (lt_nI (a := 0) (by omega) hx).mpr h
theorem npos_nI {x : Nat} (h : x = 0) : ¬ 0 < nI x := by subst h; decide
theorem sub_add (a b c : Int32) : a - b - c = a - (b + c) := by
  rw [Int32.sub_eq_add_neg, Int32.sub_eq_add_neg, Int32.sub_eq_add_neg, Int32.neg_add, Int32.sub_eq_add_neg, Int32.add_assoc]
theorem mid_in {n : Nat} {D : Mem} (hn : n ≤ 60) (h0 : D 0 0 = nI n) (p kd : Int32) (o : Nat) (kx : Int32 → Option Int32) (left : Int32) : L_X12_middleOf_28 p kd (nI o) D kx FU left 0 = kx (left - sm (gF D p kd o) n) := by
  have h := up_FU (N := n) (by omega) (fun f a i => L_X12_middleOf_28 p kd (nI o) D kx f a i) (fun k => left - sm (gF D p kd o) k) (kx (left - sm (gF D p kd o) n)) (fun f => ?_) (fun f k hk => ?_)
  · simp only [sm, Int32.sub_zero] at h
    exact h
  · show L_X12_middleOf_28 p kd (nI o) D _ (f + 1) _ (nI n) = _
    rw [L_X12_middleOf_28, h0, if_pos (Int32.le_refl _)]
  · show L_X12_middleOf_28 p kd (nI o) D _ (f + 1) _ (nI k) = L_X12_middleOf_28 p kd (nI o) D _ f _ (nI (k + 1))
    rw [L_X12_middleOf_28, h0, if_neg (by rw [le_nI (by omega) (by omega)]; omega), isOf_D D p kd (by omega), bnd_e]
    unfold B_X12_middleOf_65 B_X12_middleOf_66 lt_
    simp only [gdn (show k < 60 by omega) (show 60 ≤ 1000000 by decide), cl_nI (show k ≤ 1000000 by omega), nI_1, sub_add, sm, gF]
    split
    · split <;> rfl
    · rfl
theorem mid_both {n : Nat} {C D : Mem} (hP : RP n C D) (p kd : Int32) (f : Nat → Nat) (hf : ∀ j, f j = ctn (bF D p kd j) n) (c : Nat) (hc : c = ctn (isD D p kd) n) (h0 : 0 < c) : ∀ m o, o + m = 11 → (∀ q, q < o → 2 * sN f (q + 1) < c) → ∀ fuel, m < fuel → ∃ r, L_X9_middle_4 8 (TS C D 8 p kd n) (some 10) fuel (nI (sN f o)) (nI o) = some r ∧ L_X12_middleOf_14 p kd D (some (-3)) fuel (nI ((c + 1) / 2 - sN f o)) (nI o) = some r := by
  have hn := hP.1
  have hcn : c ≤ 60 := by rw [hc]; exact Nat.le_trans (ctn_le _ _) hn
  have h11 : sN f 11 = c := by
    rw [hc, ← part_11 p kd n (fun k hk => (hP.2.2.2.2.2 k hk).2.2.2.2.2.1)]
    exact sN_congr 11 (fun j _ => hf j)
  have hle : ∀ o, o ≤ 11 → sN f o ≤ c := fun o ho => by
    have := sN_mono f o (11 - o)
    rw [show o + (11 - o) = 11 by omega, h11] at this
    exact this
  intro m
  induction m with
  | zero =>
    intro o ho hq fuel hfu
    have := hq 10 (by omega)
    rw [h11] at this
    omega
  | succ m ih =>
    intro o ho hq fuel hfu
    obtain ⟨fu, rfl⟩ : ∃ fu, fuel = fu + 1 := ⟨fuel - 1, by omega⟩
    have hFo : sN f o < (c + 1) / 2 := by
      rcases Nat.eq_zero_or_pos o with z | z
      · subst z; show 0 < _; omega
      · have := hq (o - 1) (by omega)
        rw [show o - 1 + 1 = o by omega] at this
        omega
    have hle1 := hle (o + 1) (by omega)
    have es : sN f (o + 1) = sN f o + f o := rfl
    have eF : TS C D 8 p kd n (8 + 1) o = nI (f o) := by
      unfold TS
      rw [TM_f]
      show (if o < 11 then sm (gF D p kd o) n else _) = _
      rw [if_pos (by omega), gF_ctn, hf]
    have eM : TS C D 8 p kd n 8 2 = nI c := by
      unfold TS
      rw [TM_o, o3_2, gC_ctn, hc]
    have hL : L_X9_middle_4 8 (TS C D 8 p kd n) (some 10) (fu + 1) (nI (sN f o)) (nI o) = if 2 * sN f (o + 1) < c then L_X9_middle_4 8 (TS C D 8 p kd n) (some 10) fu (nI (sN f (o + 1))) (nI (o + 1)) else some (nI o) := by
      rw [L_X9_middle_4]
      simp only [lt_]
      rw [show (11 : Int32) = nI 11 from rfl, if_neg (by rw [le_nI (by omega) (by omega)]; omega), gdn (show o < 11 by omega) (by decide), cl_nI (by omega), eF, nI_add, ← es, eM, show (2 : Int32) = nI 2 from rfl, pk_mul, nI_1]
      by_cases hd : 2 * sN f (o + 1) < c
      · rw [if_pos hd, if_pos (by rw [lt_nI (by omega) (by omega)]; exact hd)]
      · rw [if_neg hd, if_neg (by rw [lt_nI (by omega) (by omega)]; exact hd)]
    have hR : L_X12_middleOf_14 p kd D (some (-3)) (fu + 1) (nI ((c + 1) / 2 - sN f o)) (nI o) = if 2 * sN f (o + 1) < c then L_X12_middleOf_14 p kd D (some (-3)) fu (nI ((c + 1) / 2 - sN f (o + 1))) (nI (o + 1)) else some (nI o) := by
      rw [L_X12_middleOf_14, show (11 : Int32) = nI 11 from rfl, if_neg (by rw [le_nI (by omega) (by omega)]; omega), if_neg (nI_nle (by omega) (by omega)), mid_in hn hP.2.2.1, gF_ctn, ← hf]
      simp only [lt_]
      rw [nI_1]
      by_cases hd : 2 * sN f (o + 1) < c
      · rw [if_pos hd, pk_sub (by omega), if_pos (pos_nI (by omega) (by omega)), show (c + 1) / 2 - sN f o - f o = (c + 1) / 2 - sN f (o + 1) by omega]
      · rw [if_neg hd, if_neg]
        intro q
        by_cases z : f o ≤ (c + 1) / 2 - sN f o
        · rw [pk_sub z] at q
          exact npos_nI (by omega) q
        · have w := pk_sneg (a := (c + 1) / 2 - sN f o) (b := f o) (by omega) (by omega)
          exact absurd (Int32.lt_trans q w) Int32.lt_irrefl
    rw [hL, hR]
    by_cases hd : 2 * sN f (o + 1) < c
    · rw [if_pos hd, if_pos hd]
      exact ih (o + 1) (by omega) (fun q hq2 => by
        rcases Nat.lt_succ_iff_lt_or_eq.mp hq2 with z | z
        · exact hq q z
        · subst z; exact hd) fu (by omega)
    · rw [if_neg hd, if_neg hd]
      exact ⟨nI o, rfl, rfl⟩
/-- the model's many, and the class's out of a tally -/
theorem many_D {n : Nat} {C D : Mem} (hP : RP n C D) (p kd w : Int32) : ∃ r, f_X12_manyNow p kd w D = some r ∧ (if w = 0 then some ((TS C D 8 p kd n 8 2), TS C D 8 p kd n) else (if w = 1 then some ((TS C D 8 p kd n 8 3), TS C D 8 p kd n) else (if (TS C D 8 p kd n 8 2) = 0 then some ((-3), TS C D 8 p kd n) else Option.bind (f_X9_middle 8 (TS C D 8 p kd n)) (fun r_82 => some (r_82, TS C D 8 p kd n))))) = some (r, TS C D 8 p kd n) := by
  have hn := hP.1
  have h0 := hP.2.2.1
  unfold f_X12_manyNow
  by_cases w0 : w = 0
  · rw [if_pos w0, if_pos w0, countOf_D hn h0, bnd_e]
    refine ⟨_, rfl, ?_⟩
    unfold TS
    rw [TM_o, o3_2]
  · rw [if_neg w0, if_neg w0]
    by_cases w1 : w = 1
    · rw [if_pos w1, if_pos w1, noesOf_D hn h0, bnd_e]
      refine ⟨_, rfl, ?_⟩
      unfold TS
      rw [TM_o, o3_3]
    · rw [if_neg w1, if_neg w1]
      have eM : TS C D 8 p kd n 8 2 = nI (ctn (isD D p kd) n) := by
        unfold TS
        rw [TM_o, o3_2, gC_ctn]
      have hcn : ctn (isD D p kd) n ≤ 60 := Nat.le_trans (ctn_le _ _) hn
      unfold f_X12_middleOf
      rw [countOf_D hn h0, bnd_e, gC_ctn, eM]
      simp only [lt_]
      rw [nI_1, show (2 : Int32) = nI 2 from rfl, pk_div (by omega) (by decide) (by decide)]
      have hF := FU_ge
      rcases Nat.eq_zero_or_pos (ctn (isD D p kd) n) with z | z
      · rw [z, if_pos (show nI 0 = (0 : Int32) from rfl)]
        obtain ⟨fu, e⟩ : ∃ fu, FU = fu + 1 := ⟨FU - 1, by omega⟩
        rw [e, L_X12_middleOf_14]
        exact ⟨-3, by rw [if_neg (by decide), if_pos (by decide)]; rfl, rfl⟩
      · obtain ⟨r, h1, h2⟩ := mid_both hP p kd (fun j => ctn (bF D p kd j) n) (fun _ => rfl) _ rfl z 11 0 rfl (fun q hq => absurd hq (Nat.not_lt_zero q)) FU (by omega)
        rw [if_neg (nI_ne0 z (by omega))]
        have h1' : f_X9_middle 8 (TS C D 8 p kd n) = some r := h1
        have h2' : L_X12_middleOf_14 p kd D (some (-3)) FU (nI ((ctn (isD D p kd) n + 1) / 2)) 0 = some r := h2
        rw [h1', h2', bnd_e]
        exact ⟨r, rfl, rfl⟩
theorem ok_many {C D : Mem} (hI : Inv C D) (a1 : Int32) (a2 : Int32) (a3 : Int32) : ∃ (r : Int32) (C1 : Mem), f_X11_many a1 a2 a3 C = some (r, C1) ∧ f_X12_many a1 a2 a3 D = some r ∧ Inv C1 D := by
  obtain ⟨n, hP⟩ := hI.1
  unfold f_X11_many f_X12_many
  rw [any_c, show f_X11_isKind a2 = f_X12_isKind a2 from rfl, show f_X11_isWithin a3 2 = f_X12_in a3 0 2 from rfl]
  by_cases h1 : f_X12_isAny a1 = true
  · by_cases h2 : f_X12_isKind a2 = true
    · by_cases h3 : f_X12_in a3 0 2 = true
      · rw [if_pos h1, if_pos h1, if_pos h2, if_pos h2, if_pos h3, if_pos h3, tally_C hP _ _ (by decide), bnd_e]
        obtain ⟨r, e1, e2⟩ := many_D hP a1 a2 a3
        rw [e1, bnd_e]
        exact ⟨r, _, e2, rfl, hI.keepC (Kp.TS (by decide) (by decide) _ _ _)⟩
      · exact ⟨-2, C, by rw [if_pos h1, if_pos h2, if_neg h3], by rw [if_pos h1, if_pos h2, if_neg h3], hI⟩
    · exact ⟨-2, C, by rw [if_pos h1, if_neg h2], by rw [if_pos h1, if_neg h2], hI⟩
  · exact ⟨-2, C, by rw [if_neg h1], by rw [if_neg h1], hI⟩
