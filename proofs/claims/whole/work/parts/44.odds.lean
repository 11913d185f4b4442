/-! odds -/
def spn (j : Nat) : Nat := if j < 4 then 0 else if j < 7 then 1 else 2
theorem spn_c : ∀ j, j < 11 → f_X8_spanOf (nI j) = nI (spn j) ∧ f_X12_spanOf (nI j) = nI (spn j) := by decide
theorem spn_le (j : Nat) : spn j ≤ 2 := by
  unfold spn
  split
  · omega
  · split <;> omega
def nn (D : Mem) (k : Nat) : Nat := (D 23 k).toNatClampNeg
theorem nn_c {C D : Mem} (h : RS C D) {k : Nat} (hk : k < 9) : D 23 k = nI (nn D k) ∧ 1 ≤ nn D k ∧ nn D k ≤ 15 := by
  obtain ⟨-, j, h1, h2, e⟩ := h k hk
  have : nn D k = j := by unfold nn; rw [e, cl_nI (by omega)]
  rw [this]
  exact ⟨e, h1, h2⟩
def wt (D : Mem) (st j : Nat) (b : Bool) : Nat := if b = true then nn D (3 * st + spn j) else 16 - nn D (3 * st + spn j)
theorem wt_c {C D : Mem} (h : RS C D) {st : Nat} (hs : st ≤ 2) (j : Nat) (b : Bool) : 1 ≤ wt D st j b ∧ wt D st j b ≤ 15 := by
  have := spn_le j
  have := nn_c h (show 3 * st + spn j < 9 by omega)
  unfold wt
  split <;> omega
def pD (D : Mem) (p : Int32) (st : Nat) : Nat → Nat
  | 0 => 1
  | n + 1 => pD D p st n * (if isD D p 0 n = true then wt D st (D 3 n).toNatClampNeg (decide (D 4 n = 0)) else 1)
theorem ix3_c (s i : Nat) : nI s * 3 + nI i = nI (3 * s + i) := by rw [show (3 : Int32) = nI 3 from rfl, pk_mul, nI_add, Nat.mul_comm]
theorem ix3_d (s i : Nat) : 3 * nI s + nI i = nI (3 * s + i) := by rw [show (3 : Int32) = nI 3 from rfl, pk_mul, nI_add]
theorem sx_l {x : Nat} (h : x ≤ 15) : (16 - nI x).toInt64 = lN (16 - x) := by
  rw [show (16 : Int32) = nI 16 from rfl, pk_sub (by omega), nI_l (by omega)]
theorem part_D {C D : Mem} {n : Nat} (hS : RS C D) (hP : RP n C D) (p : Int32) {st : Nat} (hs : st ≤ 2) : f_X12_partOf p (nI st) D = some (lN (pD D p st n)) := by
  have hn := hP.1
  unfold f_X12_partOf
  refine up_FU (N := n) (by omega) (fun f a i => L_X12_partOf_5 p (nI st) D (fun v => some v) f a i) (fun k => lN (pD D p st k)) _ (fun f => ?_) (fun f k hk => ?_)
  · show L_X12_partOf_5 p (nI st) D _ (f + 1) _ (nI n) = _
    rw [L_X12_partOf_5, hP.2.2.1, if_pos (Int32.le_refl _)]
  · show L_X12_partOf_5 p (nI st) D _ (f + 1) _ (nI k) = L_X12_partOf_5 p (nI st) D _ f _ (nI (k + 1))
    rw [L_X12_partOf_5, hP.2.2.1, if_neg (by rw [le_nI (by omega) (by omega)]; omega), isOf_D D p 0 (by omega), bnd_e]
    unfold B_X12_partOf_69 B_X12_partOf_71
    simp only [lt_, nI_1, gdn (show k < 60 by omega) (show 60 ≤ 1000000 by decide), cl_nI (show k ≤ 1000000 by omega), pD]
    by_cases h : isD D p 0 k = true
    · obtain ⟨j, hj, e⟩ := (hP.2.2.2.2.2 k hk).2.2.2.2.2.1
      have h2 := spn_le j
      rw [if_pos h, if_pos h, e, (spn_c j (by omega)).2, ix3_d, gdn (by omega) (by decide), cl_nI (by omega), cl_nI (by omega)]
      have h3 := nn_c hS (show 3 * st + spn j < 9 by omega)
      unfold wt
      rw [h3.1, sx_l h3.2.2, nI_l (by omega)]
      by_cases h4 : D 4 k = 0
      · rw [if_pos h4, if_pos (decide_eq_true h4), lN_mul]
      · rw [if_neg h4, if_neg (by simpa using h4), lN_mul]
    · rw [if_neg h, if_neg h, Nat.mul_one]
def prN (f : Nat → Nat) : Nat → Nat
  | 0 => 1
  | n + 1 => prN f n * f n
theorem prN_one {F G : Nat → Nat} (j0 w : Nat) : ∀ J, (∀ j, j < J → G j = F j * (if j = j0 then w else 1)) → prN G J = prN F J * (if j0 < J then w else 1)
  | 0, _ => rfl
  | J + 1, h => by
    rw [prN, prN, prN_one j0 w J (fun j hj => h j (by omega)), h J (by omega)]
    by_cases h1 : j0 < J
    · rw [if_pos h1, if_neg (show ¬ J = j0 by omega), if_pos (show j0 < J + 1 by omega), Nat.mul_one, Nat.mul_assoc, Nat.mul_assoc, Nat.mul_comm w]
    · by_cases h2 : J = j0
      · rw [if_neg h1, if_pos h2, if_pos (show j0 < J + 1 by omega), Nat.mul_one, Nat.mul_assoc]
      · rw [if_neg h1, if_neg h2, if_neg (show ¬ j0 < J + 1 by omega), Nat.mul_one, Nat.mul_one, Nat.mul_one]
theorem prN_congr {F G : Nat → Nat} : ∀ J, (∀ j, j < J → G j = F j) → prN G J = prN F J
  | 0, _ => rfl
  | J + 1, h => by rw [prN, prN, prN_congr J (fun j hj => h j (by omega)), h J (by omega)]
theorem prN_1 : ∀ J, prN (fun _ => 1) J = 1
  | 0 => rfl
  | J + 1 => by rw [prN, prN_1 J]
def bR (D : Mem) (p kd : Int32) (j i : Nat) : Bool := bF D p kd j i && decide (D 4 i = 0)
theorem gR_ctn {D : Mem} (p kd : Int32) (j n : Nat) (h4 : ∀ k, k < n → D 4 k = 0 ∨ D 4 k = 1) : sm (gR D p kd j) n = nI (ctn (bR D p kd j) n) := by
  rw [← sm_ctn]
  refine sm_congr n (fun k hk => ?_)
  unfold gR bR bF
  cases isD D p kd k
  · simp
  · by_cases h : D 3 k = nI j
    · rcases h4 k hk with q | q
      · simp [h, q]
      · simp [h, q]
    · simp [h]
theorem ctn_mono {a b : Nat → Bool} (h : ∀ k, a k = true → b k = true) : ∀ n, ctn a n ≤ ctn b n
  | 0 => Nat.le_refl _
  | n + 1 => by
    have := ctn_mono h n
    rw [ctn, ctn]
    by_cases q : a n = true
    · rw [if_pos q, if_pos (h n q)]; omega
    · rw [if_neg q]; omega
theorem bR_le (D : Mem) (p kd : Int32) (j n : Nat) : ctn (bR D p kd j) n ≤ ctn (bF D p kd j) n := ctn_mono (fun k q => by unfold bR at q; exact (Bool.and_eq_true _ _ ▸ q).1) n
def cF (D : Mem) (p : Int32) (st n j : Nat) : Nat := wt D st j true ^ ctn (bR D p 0 j) n * wt D st j false ^ (ctn (bF D p 0 j) n - ctn (bR D p 0 j) n)
theorem cF_pD {D : Mem} (p : Int32) (st : Nat) : ∀ n, (∀ k, k < n → ∃ j, j ≤ 10 ∧ D 3 k = nI j) → prN (cF D p st n) 11 = pD D p st n
  | 0, _ => by
    have e : ∀ j, cF D p st 0 j = 1 := fun j => by unfold cF; simp [ctn]
    rw [prN_congr 11 (fun j _ => e j), prN_1]
    rfl
  | n + 1, h => by
    have ih := cF_pD p st n (fun k hk => h k (by omega))
    obtain ⟨j0, hj0, e0⟩ := h n (by omega)
    rw [pD, ← ih]
    by_cases hb : isD D p 0 n = true
    · rw [if_pos hb, e0, cl_nI (by omega)]
      have hF : ∀ j, j < 11 → bF D p 0 j n = decide (j = j0) := fun j hj => by
        unfold bF
        rw [hb, e0, Bool.true_and]
        exact decide_eq_decide.mpr ((eq_nI (by omega) (by omega)).trans eq_comm)
      rw [prN_one j0 (wt D st j0 (decide (D 4 n = 0))) 11 (F := cF D p st n) (fun j hj => ?_), if_pos (by omega)]
      unfold cF
      have hle := bR_le D p 0 j n
      simp only [ctn, bR, hF j hj]
      by_cases q : j = j0
      · subst q
        by_cases q4 : D 4 n = 0
        · simp only [q4, decide_true, Bool.and_true, if_pos]
          rw [show ctn (bF D p 0 j) n + 1 - (ctn (bR D p 0 j) n + 1) = ctn (bF D p 0 j) n - ctn (bR D p 0 j) n by omega, Nat.pow_succ, Nat.mul_assoc, Nat.mul_assoc, Nat.mul_comm (wt D st j true)]
        · simp only [q4, decide_true, decide_false, Bool.and_false, if_pos, Bool.false_eq_true, if_false, Nat.add_zero]
          rw [show ctn (bF D p 0 j) n + 1 - ctn (bR D p 0 j) n = ctn (bF D p 0 j) n - ctn (bR D p 0 j) n + 1 by omega, Nat.pow_succ, Nat.mul_assoc]
      · simp [q]
    · rw [if_neg hb, Nat.mul_one]
      refine prN_congr 11 (fun j hj => ?_)
      have hF : bF D p 0 j n = false := by unfold bF; simp [hb]
      unfold cF
      simp [ctn, bR, hF]
theorem pD_c {C D : Mem} (hS : RS C D) (p : Int32) {st : Nat} (hs : st ≤ 2) : ∀ n, 1 ≤ pD D p st n ∧ pD D p st n ≤ 15 ^ ctn (isD D p 0) n
  | 0 => ⟨Nat.le_refl _, Nat.le_refl _⟩
  | n + 1 => by
    have ih := pD_c hS p hs n
    rw [pD, ctn]
    by_cases hb : isD D p 0 n = true
    · rw [if_pos hb, if_pos hb]
      have hw := wt_c hS hs (D 3 n).toNatClampNeg (decide (D 4 n = 0))
      exact ⟨Nat.mul_le_mul ih.1 hw.1, by rw [Nat.pow_succ]; exact Nat.mul_le_mul ih.2 hw.2⟩
    · rw [if_neg hb, if_neg hb, Nat.mul_one]
      exact ih
theorem lk_in {M : Mem} {j no off ref : Nat} (hj : j < 11) (hno : no ≤ 15) (h1 : M 9 j = nI off) (h2 : M 10 j = nI ref) (hr : ref ≤ off) (ho : off ≤ 60) (v : Int64) (kx : Int64 → Option Int64) : L_X8_likely_31 8 (nI j) (nI no) M kx FU v 0 = kx (v * lN (no ^ ref * (16 - no) ^ (off - ref))) := by
  have h9 := up_FU (N := off) (by omega) (fun f a i => L_X8_likely_31 8 (nI j) (nI no) M kx f a i) (fun q => v * lN (no ^ (min q ref) * (16 - no) ^ (q - ref))) (kx (v * lN (no ^ ref * (16 - no) ^ (off - ref)))) (fun f => ?_) (fun f q hq => ?_)
  · simp only [Nat.zero_min, Nat.zero_sub, Nat.pow_zero, Nat.mul_one] at h9
    rw [show lN 1 = (1 : Int64) from rfl, Int64.mul_one] at h9
    exact h9
  · show L_X8_likely_31 8 (nI j) (nI no) M kx (f + 1) _ (nI off) = _
    rw [L_X8_likely_31, gdn hj (by decide), cl_nI (by omega), show M (8 + 1) j = nI off from h1, if_pos (Int32.le_refl _), Nat.min_eq_right hr]
  · show L_X8_likely_31 8 (nI j) (nI no) M kx (f + 1) _ (nI q) = L_X8_likely_31 8 (nI j) (nI no) M kx f _ (nI (q + 1))
    rw [L_X8_likely_31, gdn hj (by decide), gdn hj (by decide), cl_nI (by omega), show M (8 + 1) j = nI off from h1, show M (8 + 2) j = nI ref from h2, if_neg (by rw [le_nI (by omega) (by omega)]; omega)]
    unfold B_X8_likely_68
    simp only [lt_, nI_1]
    rw [sx_l hno, nI_l (by omega), Int64.mul_assoc, Int64.mul_assoc, lN_mul, lN_mul]
    by_cases h : ref ≤ q
    · rw [if_pos ((le_nI (by omega) (by omega)).mpr h), Nat.min_eq_right h, Nat.min_eq_right (by omega), show q + 1 - ref = q - ref + 1 by omega, Nat.pow_succ, Nat.mul_assoc]
    · rw [if_neg (by rw [le_nI (by omega) (by omega)]; exact h), Nat.min_eq_left (by omega), Nat.min_eq_left (by omega), show q + 1 - ref = 0 by omega, show q - ref = 0 by omega, Nat.pow_zero, Nat.mul_one, Nat.mul_one, Nat.pow_succ]
theorem lk_C {C D : Mem} {n : Nat} (hS : RS C D) (hP : RP n C D) (p : Int32) {st : Nat} (hs : st ≤ 2) : f_X8_likely (nI st) 8 (TS C D 8 p 0 n) = some (lN (pD D p st n)) := by
  have hn := hP.1
  rw [← cF_pD p st n (fun k hk => (hP.2.2.2.2.2 k hk).2.2.2.2.2.1)]
  unfold f_X8_likely
  refine up_FU (N := 11) (by decide) (fun f a i => L_X8_likely_5 8 (nI st) (TS C D 8 p 0 n) (fun v => some v) f a i) (fun j => lN (prN (cF D p st n) j)) _ (fun f => ?_) (fun f j hj => ?_)
  · show L_X8_likely_5 8 (nI st) (TS C D 8 p 0 n) _ (f + 1) _ (nI 11) = _
    rw [L_X8_likely_5, if_pos (show (11 : Int32) ≤ nI 11 from Int32.le_refl _)]
  · show L_X8_likely_5 8 (nI st) (TS C D 8 p 0 n) _ (f + 1) _ (nI j) = L_X8_likely_5 8 (nI st) (TS C D 8 p 0 n) _ f _ (nI (j + 1))
    have h2 := spn_le j
    have h3 := nn_c hS (show 3 * st + spn j < 9 by omega)
    have e39 : TS C D 8 p 0 n 39 (3 * st + spn j) = nI (nn D (3 * st + spn j)) := by
      show C 39 (3 * st + spn j) = _
      rw [(hS _ (by omega)).1]
      exact h3.1
    have eF : TS C D 8 p 0 n 9 j = nI (ctn (bF D p 0 j) n) := by
      rw [← gF_ctn]
      show (if j < 11 then sm (gF D p 0 j) n else _) = _
      rw [if_pos (by omega)]
    have eR : TS C D 8 p 0 n 10 j = nI (ctn (bR D p 0 j) n) := by
      rw [← gR_ctn p 0 j n (fun k hk => (hP.2.2.2.2.2 k hk).2.2.2.2.2.2.1)]
      show (if j < 11 then sm (gR D p 0 j) n else _) = _
      rw [if_pos (by omega)]
    rw [L_X8_likely_5, if_neg (show ¬ (11 : Int32) ≤ nI j from fun q => by have := (le_nI (a := 11) (by decide) (by omega)).mp q; omega), (spn_c j hj).1, ix3_c, gdn (by omega) (by decide), cl_nI (by omega), e39]
    simp only [lt_, nI_1]
    rw [lk_in hj h3.2.2 eF eR (bR_le _ _ _ _ _) (Nat.le_trans (ctn_le _ _) hn), lN_mul]
    rfl
theorem ok_odds {C D : Mem} (hI : Inv C D) (a1 : Int32) (a2 : Int32) (a3 : Int32) : ∃ (r : Int64) (C1 : Mem), f_X11_odds a1 a2 a3 C = some (r, C1) ∧ f_X12_odds a1 a2 a3 D = some r ∧ Inv C1 D := by
  obtain ⟨n, hP⟩ := hI.1
  have hn := hP.1
  have hS := hI.2.2.2.2.1
  unfold f_X11_odds f_X12_odds B_X11_odds_22 B_X12_odds_25
  rw [any_c, wi_in, show f_X11_isPart a3 = f_X12_in a3 0 1 from rfl]
  by_cases h1 : f_X12_isAny a1 = true
  · by_cases h2 : f_X12_in a2 0 2 = true
    · by_cases h3 : f_X12_in a3 0 1 = true
      · rw [if_pos h1, if_pos h1, if_pos h2, if_pos h2, if_pos h3, if_pos h3, tally_C hP _ _ (by decide), bnd_e, countOf_D hn hP.2.2.1, bnd_e, TS_2]
        have hk : Inv (TS C D 8 a1 0 n) D := hI.keepC (Kp.TS (by decide) (by decide) _ _ _)
        rw [gC_ctn]
        have hc : ctn (isD D a1 0) n ≤ 60 := Nat.le_trans (ctn_le _ _) hn
        by_cases q : ctn (isD D a1 0) n ≤ 14
        · have q' : nI (ctn (isD D a1 0) n) ≤ (14 : Int32) := (le_nI (b := 14) (by omega) (by decide)).mpr q
          obtain ⟨st, hs, rfl⟩ := in_nI (n := 2) rfl (by decide) h2
          rw [if_pos q', if_pos q', part_D hS hP a1 hs, bnd_e]
          rw [show f_X12_partOf a1 0 D = _ from part_D hS hP a1 (st := 0) (by decide), show f_X12_partOf a1 1 D = _ from part_D hS hP a1 (st := 1) (by decide), show f_X12_partOf a1 2 D = _ from part_D hS hP a1 (st := 2) (by decide)]
          have hF := FU_ge
          obtain ⟨f, ef⟩ : ∃ f, FU = f + 4 := ⟨FU - 4, by omega⟩
          have b : ∀ t, t ≤ 2 → 1 ≤ pD D a1 t n ∧ pD D a1 t n ≤ 15 ^ 14 := fun t ht => ⟨(pD_c hS a1 ht n).1, Nat.le_trans (pD_c hS a1 ht n).2 (Nat.pow_le_pow_right (by decide) q)⟩
          have p14 : 15 ^ 14 = 29192926025390625 := by decide
          have b0 := b 0 (by decide)
          have b1 := b 1 (by decide)
          have b2 := b 2 (by decide)
          have bs := b st hs
          have e00 : (0 : Int64).toInt = 0 := by decide
          obtain ⟨r, e1, e2⟩ := fr_eq (lN (pD D a1 st n)) (lN (pD D a1 0 n + pD D a1 1 n + pD D a1 2 n)) a3 (by rw [pk_lT (by omega)]; omega) (by rw [Int64.lt_iff_toInt_lt, pk_lT (by omega), e00]; omega)
          refine ⟨r, TS C D 8 a1 0 n, ?_, ?_, hk⟩
          · rw [ef]
            have s0 : f_X8_likely 0 8 (TS C D 8 a1 0 n) = _ := lk_C hS hP a1 (st := 0) (by decide)
            have s1 : f_X8_likely 1 8 (TS C D 8 a1 0 n) = _ := lk_C hS hP a1 (st := 1) (by decide)
            have s2 : f_X8_likely 2 8 (TS C D 8 a1 0 n) = _ := lk_C hS hP a1 (st := 2) (by decide)
            have t1 : (0 : Int32) + 1 = 1 := by decide
            have t2 : (1 : Int32) + 1 = 2 := by decide
            have t3 : (2 : Int32) + 1 = 3 := by decide
            show L_X11_odds_65 (TS C D 8 a1 0 n) _ (f + 4) 0 0 = _
            rw [L_X11_odds_65, if_neg (by decide), s0, bnd_e]
            simp only [lt_, t1]
            rw [L_X11_odds_65, if_neg (by decide), s1, bnd_e]
            simp only [lt_, t2]
            rw [L_X11_odds_65, if_neg (by decide), s2, bnd_e]
            simp only [lt_, t3]
            rw [L_X11_odds_65, if_pos (by decide), Int64.zero_add, lN_add, lN_add, lk_C hS hP a1 hs, bnd_e, e1]
            rfl
          · simp only [bnd_e]
            rw [lN_add, lN_add, e2]
            rfl
        · have q' : ¬ nI (ctn (isD D a1 0) n) ≤ (14 : Int32) := fun z => q ((le_nI (b := 14) (by omega) (by decide)).mp z)
          rw [if_neg q', if_neg q']
          exact ⟨_, _, rfl, rfl, hk⟩
      · exact ⟨_, C, by rw [if_pos h1, if_pos h2, if_neg h3], by rw [if_pos h1, if_pos h2, if_neg h3]; rfl, hI⟩
    · exact ⟨_, C, by rw [if_pos h1, if_neg h2], by rw [if_pos h1, if_neg h2]; rfl, hI⟩
  · exact ⟨_, C, by rw [if_neg h1], by rw [if_neg h1]; rfl, hI⟩
