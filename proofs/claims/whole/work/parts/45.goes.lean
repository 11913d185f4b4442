/-! goes and looked: who is known, what they offer on the whole -/
def sP (D : Mem) (n p : Nat) : Nat := (sm (gS D (nI p) 0) n).toNatClampNeg
def cP (D : Mem) (n p : Nat) : Nat := ctn (isD D (nI p) 0) n
theorem sP_c {n : Nat} {C D : Mem} (hP : RP n C D) (p : Nat) : sm (gS D (nI p) 0) n = nI (sP D n p) ∧ sP D n p ≤ 600 := by
  obtain ⟨v, hv, e⟩ := gS_nat (D := D) (nI p) 0 n (fun k hk => (hP.2.2.2.2.2 k hk).2.2.2.2.2.1)
  have hn := hP.1
  have : sP D n p = v := by unfold sP; rw [e, cl_nI (by omega)]
  rw [this]
  exact ⟨e, by omega⟩
theorem cP_c {n : Nat} {C D : Mem} (hP : RP n C D) (p : Nat) : sm (gC D (nI p) 0) n = nI (cP D n p) ∧ cP D n p ≤ 60 := ⟨gC_ctn _ _ _ _, Nat.le_trans (ctn_le _ _) hP.1⟩
def kb (b0 b1 b2 b3 : Bool) (q : Nat) : Bool := if q = 0 then b0 else if q = 1 then b1 else if q = 2 then b2 else if q = 3 then b3 else false
def kn (D : Mem) (n : Nat) : Nat → Bool := kb (decide (0 < cP D n 0)) (decide (0 < cP D n 1)) (decide (0 < cP D n 2)) (decide (0 < cP D n 3))
theorem kn_c (D : Mem) (n : Nat) {q : Nat} (h : q < 4) : kn D n q = decide (0 < cP D n q) := by
  rcases (show q = 0 ∨ q = 1 ∨ q = 2 ∨ q = 3 by omega) with e | e | e | e <;> subst e <;> rfl
theorem RP_Kp {n : Nat} {C C' D : Mem} (h : RP n C D) (hc : Kp C C') : RP n C' D := by
  unfold RP at h ⊢
  rw [hc.1 1 rfl, hc.1 2 rfl, hc.1 3 rfl, hc.1 4 rfl, hc.1 5 rfl, hc.1 6 rfl, hc.1 7 rfl]
  exact h
/-- the class's memory once it has learnt of k peoples -/
def LM (D : Mem) (n : Nat) (C C' : Mem) (k : Nat) : Prop := Kp C C' ∧ (∀ p, p < k → C' 33 p = nI (sP D n p) ∧ C' 34 p = nI (cP D n p) ∧ C' 35 p = nI p) ∧ C' 32 3 = nI (ctn (kn D n) k)
theorem learn1_C {n : Nat} {C C' D : Mem} (hP : RP n C D) {k : Nat} (hk : k < 4) (h : LM D n C C' k) : ∃ C1, f_X3_learn (nI k) 8 (TS C' D 8 (nI k) 0 n) = some C1 ∧ LM D n C C1 (k + 1) := by
  unfold f_X3_learn B_X3_learn_44
  simp only [gdn hk (show 4 ≤ 1000000 by decide), cl_nI (show k ≤ 1000000 by omega), sto]
  have t2 : TS C' D 8 (nI k) 0 n 8 2 = nI (cP D n k) := by rw [TS_2]; exact (cP_c hP k).1
  have t4 : TS C' D 8 (nI k) 0 n 8 4 = nI (sP D n k) := by rw [TS_4]; exact (sP_c hP k).1
  have t3 : ∀ (M : Mem) (a b c : Int32), st2 (st2 (st2 M 33 k a) 34 k b) 35 k c 8 2 = M 8 2 := fun _ _ _ _ => rfl
  have t5 : ∀ (M : Mem) (a : Int32), st2 M 33 k a 8 2 = M 8 2 := fun _ _ => rfl
  have t6 : ∀ (M : Mem) (a b c : Int32), st2 (st2 (st2 M 33 k a) 34 k b) 35 k c 32 3 = M 32 3 := fun _ _ _ _ => rfl
  have t7 : TS C' D 8 (nI k) 0 n 32 3 = C' 32 3 := rfl
  simp only [t3, t5, t6, t7, t2, t4, h.2.2]
  have hc := (cP_c hP k).2
  have e : (if nI (cP D n k) ≤ 0 then some (st2 (st2 (st2 (st2 (TS C' D 8 (nI k) 0 n) 33 k (nI (sP D n k))) 34 k (nI (cP D n k))) 35 k (nI k)) 32 3 (nI (ctn (kn D n) k) + 0)) else some (st2 (st2 (st2 (st2 (TS C' D 8 (nI k) 0 n) 33 k (nI (sP D n k))) 34 k (nI (cP D n k))) 35 k (nI k)) 32 3 (nI (ctn (kn D n) k) + 1))) = some (st2 (st2 (st2 (st2 (TS C' D 8 (nI k) 0 n) 33 k (nI (sP D n k))) 34 k (nI (cP D n k))) 35 k (nI k)) 32 3 (nI (ctn (kn D n) (k + 1)))) := by
    rw [ctn, kn_c D n hk]
    rcases Nat.eq_zero_or_pos (cP D n k) with q | q
    · rw [q, if_pos (by decide), if_neg (by decide), Int32.add_zero]
      rfl
    · rw [if_neg (nI_nle q (by omega)), if_pos (decide_eq_true q), nI_1]
  refine ⟨_, e, ?_, fun p hp => ?_, rfl⟩
  · refine h.1.tr (Kp.tr (Kp.TS (D := D) (t := 8) (by decide) (by decide) (nI k) 0 n) ?_)
    exact ((((Kp.up _ rfl (by decide) (by decide)).tr (Kp.up _ rfl (by decide) (by decide))).tr (Kp.up _ rfl (by decide) (by decide))).tr (Kp.up _ rfl (by decide) (by decide)))
  · show upd (C' 33) k (nI (sP D n k)) p = _ ∧ upd (C' 34) k (nI (cP D n k)) p = _ ∧ upd (C' 35) k (nI k) p = _
    by_cases q : p = k
    · subst q
      simp only [upd_s]
      exact ⟨trivial, trivial, trivial⟩
    · simp only [upd_n _ _ q]
      exact h.2.1 p (by omega)
theorem learn4_C {n : Nat} {C D : Mem} (hP : RP n C D) : ∀ m k fuel C', k + m = 4 → m < fuel → LM D n C C' k → ∃ C1, L_X11_learnMeans_9 (fun c => some c) fuel (nI k) C' = some C1 ∧ LM D n C C1 4
  | 0, k, fuel, C', h1, h2, h => by
    obtain ⟨f, rfl⟩ : ∃ f, fuel = f + 1 := ⟨fuel - 1, by omega⟩
    have e : k = 4 := by omega
    subst e
    rw [L_X11_learnMeans_9, if_pos (show (4 : Int32) ≤ nI 4 from Int32.le_refl _)]
    exact ⟨C', rfl, h⟩
  | m + 1, k, fuel, C', h1, h2, h => by
    obtain ⟨f, rfl⟩ : ∃ f, fuel = f + 1 := ⟨fuel - 1, by omega⟩
    rw [L_X11_learnMeans_9, if_neg (show ¬ (4 : Int32) ≤ nI k from fun q => by have := (le_nI (a := 4) (by decide) (by omega)).mp q; omega), tally_C (RP_Kp hP h.1) _ _ (by decide), bnd_e]
    obtain ⟨C1, e1, hL⟩ := learn1_C hP (show k < 4 by omega) h
    rw [e1, bnd_e]
    simp only [lt_, nI_1]
    exact learn4_C hP m (k + 1) f C1 (by omega) (by omega) hL
theorem means_C {n : Nat} {C D : Mem} (hP : RP n C D) : ∃ C1, f_X11_learnMeans C = some C1 ∧ LM D n C C1 4 := by
  unfold f_X11_learnMeans f_X3_clear
  simp only [sto, bnd_e]
  exact learn4_C hP 4 0 FU _ rfl (by have := FU_ge; omega) ⟨Kp.up _ rfl (by decide) (by decide), fun p hp => absurd hp (Nat.not_lt_zero p), rfl⟩
/-! the model gathers -/
theorem isD_Km {D D' : Mem} (h : Km D D') : isD D' = isD D := by
  funext p kd k
  unfold isD cnD
  rw [h.1 1 rfl, h.1 2 rfl, h.1 5 rfl, h.1 6 rfl, h.2 8 (by decide) (by decide)]
theorem gS_Km {D D' : Mem} (h : Km D D') : gS D' = gS D := by
  funext p kd k
  unfold gS
  rw [isD_Km h, h.1 3 rfl]
theorem gC_Km {D D' : Mem} (h : Km D D') : gC D' = gC D := by
  funext p kd k
  unfold gC
  rw [isD_Km h]
theorem sumOf_Km {n : Nat} {C D D' : Mem} (hP : RP n C D) (h : Km D D') (p : Nat) : f_X12_sumOf (nI p) 0 D' = some (nI (sP D n p)) := by
  rw [sumOf_D hP.1 ((h.2 0 (by decide) (by decide)).trans hP.2.2.1), gS_Km h, (sP_c hP p).1]
theorem cntOf_Km {n : Nat} {C D D' : Mem} (hP : RP n C D) (h : Km D D') (p : Nat) : f_X12_countOf (nI p) 0 D' = some (nI (cP D n p)) := by
  rw [countOf_D hP.1 ((h.2 0 (by decide) (by decide)).trans hP.2.2.1), gC_Km h, (cP_c hP p).1]
def GM (D : Mem) (n : Nat) (D' : Mem) (k : Nat) : Prop := Km D D' ∧ D' 0 30 = nI (ctn (kn D n) k) ∧ ∀ q, q < k → kn D n q = true → D' 21 (ctn (kn D n) q) = nI q ∧ D' 22 (ctn (kn D n) q) = nI q
theorem ctn_lt (b : Nat → Bool) {q : Nat} (hq : b q = true) : ∀ k, q < k → ctn b q < ctn b k
  | 0, h => absurd h (Nat.not_lt_zero q)
  | k + 1, h => by
    rw [ctn]
    by_cases e : q = k
    · subst e; rw [if_pos hq]; omega
    · have := ctn_lt b hq k (by omega)
      omega
theorem gath_D {n : Nat} {C D : Mem} (hP : RP n C D) : ∀ m k fuel D', k + m = 4 → m < fuel → GM D n D' k → ∃ D1, L_X12_gathers_7 (fun c => some c) fuel (nI k) D' = some D1 ∧ GM D n D1 4
  | 0, k, fuel, D', h1, h2, h => by
    obtain ⟨f, rfl⟩ : ∃ f, fuel = f + 1 := ⟨fuel - 1, by omega⟩
    have e : k = 4 := by omega
    subst e
    rw [L_X12_gathers_7, if_pos (show (4 : Int32) ≤ nI 4 from Int32.le_refl _)]
    exact ⟨D', rfl, h⟩
  | m + 1, k, fuel, D', h1, h2, h => by
    obtain ⟨f, rfl⟩ : ∃ f, fuel = f + 1 := ⟨fuel - 1, by omega⟩
    rw [L_X12_gathers_7, if_neg (show ¬ (4 : Int32) ≤ nI k from fun q => by have := (le_nI (a := 4) (by decide) (by omega)).mp q; omega), cntOf_Km hP h.1, bnd_e]
    have hc := (cP_c hP k).2
    have hle := ctn_le (kn D n) k
    unfold B_X12_gathers_51
    simp only [lt_, sto, nI_1]
    have t1 : ∀ (M : Mem) (i : Nat) (v : Int32), st2 M 21 i v 0 30 = M 0 30 := fun _ _ _ => rfl
    have t2 : ∀ (M : Mem) (i : Nat) (v : Int32), st2 M 22 i v 0 30 = M 0 30 := fun _ _ _ => rfl
    rcases Nat.eq_zero_or_pos (cP D n k) with q | q
    · rw [q, if_pos (by decide)]
      have hk0 : ¬ kn D n k = true := by rw [kn_c D n (by omega), q]; decide
      refine gath_D hP m (k + 1) f D' (by omega) (by omega) ⟨h.1, ?_, fun z hz hz2 => h.2.2 z ?_ hz2⟩
      · rw [ctn, if_neg hk0]; exact h.2.1
      · by_cases e : z = k
        · subst e; exact absurd hz2 hk0
        · omega
    · rw [if_neg (nI_nle q (by omega))]
      have hk1 : kn D n k = true := by rw [kn_c D n (by omega)]; exact decide_eq_true q
      simp only [t1, t2, h.2.1, gdn (show ctn (kn D n) k < 4 by omega) (show 4 ≤ 1000000 by decide), cl_nI (show ctn (kn D n) k ≤ 1000000 by omega), nI_1]
      refine gath_D hP m (k + 1) f _ (by omega) (by omega) ⟨h.1.tr (((Km.st _ rfl (by decide)).tr (Km.st _ rfl (by decide))).tr (Km.st0 _ (Or.inr rfl))), ?_, fun z hz hz2 => ?_⟩
      · rw [ctn, if_pos hk1]
        rfl
      · show upd (D' 21) (ctn (kn D n) k) (nI k) (ctn (kn D n) z) = nI z ∧ upd (D' 22) (ctn (kn D n) k) (nI k) (ctn (kn D n) z) = nI z
        by_cases e : z = k
        · subst e
          simp only [upd_s]
          exact ⟨trivial, trivial⟩
        · have := ctn_lt _ hz2 k (by omega)
          rw [upd_n _ _ (by omega), upd_n _ _ (by omega)]
          exact h.2.2 z (by omega) hz2
theorem gathers_D {n : Nat} {C D : Mem} (hP : RP n C D) : ∃ D1, f_X12_gathers D = some D1 ∧ GM D n D1 4 := by
  unfold f_X12_gathers
  simp only [sto]
  exact gath_D hP 4 0 FU _ rfl (by have := FU_ge; omega) ⟨Km.st0 _ (Or.inr rfl), rfl, fun q hq => absurd hq (Nat.not_lt_zero q)⟩
/-! what goes with what -/
theorem way_cmp {a b : Nat} (ha : a ≤ 1000000) (hb : b ≤ 1000000) : f_X12_way (nI a - nI b) = f_J6_compare_7cf53 (nI a) (nI b) := by
  unfold f_X12_way f_J6_compare_7cf53
  have h0 : (0 : Int32).toInt = 0 := by decide
  have hd : (nI a - nI b).toInt = (a : Int) - b := pk_sub_toInt (by omega) (by omega)
  rcases Nat.lt_trichotomy a b with h | h | h
  · rw [if_pos (by rw [Int32.le_iff_toInt_le, hd, h0]; omega), if_neg (by rw [Int32.le_iff_toInt_le, hd, h0]; omega), if_neg (by rw [le_nI hb ha]; omega)]
  · subst h
    rw [if_pos (by rw [Int32.le_iff_toInt_le, hd, h0]; omega), if_pos (by rw [Int32.le_iff_toInt_le, hd, h0]; omega), if_pos (Int32.le_refl _), if_pos rfl]
  · rw [if_neg (by rw [Int32.le_iff_toInt_le, hd, h0]; omega), if_pos (by rw [le_nI hb ha]; omega), if_neg (by rw [eq_nI ha hb]; omega)]
def EE (D : Mem) (n x y : Nat) : Int32 := f_J6_compare_7cf53 (nI (sP D n x) * nI (cP D n y)) (nI (sP D n y) * nI (cP D n x))
def XX (D : Mem) (g x y : Nat) : Int32 := f_J6_compare_7cf53 (D 20 (4 * g + x)) (D 20 (4 * g + y))
theorem EE_w {n : Nat} {C D : Mem} (hP : RP n C D) (x y : Nat) : f_X12_way (nI (sP D n x) * nI (cP D n y) - nI (sP D n y) * nI (cP D n x)) = EE D n x y := by
  unfold EE
  have := (sP_c hP x).2
  have := (sP_c hP y).2
  have := (cP_c hP x).2
  have := (cP_c hP y).2
  have h1 : sP D n x * cP D n y ≤ 600 * 60 := Nat.mul_le_mul (by omega) (by omega)
  have h2 : sP D n y * cP D n x ≤ 600 * 60 := Nat.mul_le_mul (by omega) (by omega)
  rw [pk_mul, pk_mul, way_cmp (by omega) (by omega)]
theorem XX_w {C D : Mem} {nT g x y : Nat} (hT : ∀ k, k < 4 * nT → C 37 k = D 20 k ∧ ∃ j, j ≤ 99 ∧ D 20 k = nI j) (hg : g < nT) (hx : x < 4) (hy : y < 4) : f_X12_way (D 20 (4 * g + x) - D 20 (4 * g + y)) = XX D g x y := by
  obtain ⟨j1, h1, e1⟩ := (hT (4 * g + x) (by omega)).2
  obtain ⟨j2, h2, e2⟩ := (hT (4 * g + y) (by omega)).2
  unfold XX
  rw [e1, e2, way_cmp (by omega) (by omega)]
def TG (D : Mem) (n g : Nat) (F : Nat → Nat) : Int32 := sm (fun v => sm (fun u => if kn D n v = true then (if kn D n u = true then XX D g v u * EE D n (F v) (F u) else 0) else 0) v) 4
theorem TG_congr {D : Mem} {n g : Nat} {F G : Nat → Nat} (h : ∀ q, q < 4 → kn D n q = true → F q = G q) : TG D n g F = TG D n g G := by
  unfold TG
  refine sm_congr 4 (fun v hv => sm_congr v (fun u hu => ?_))
  by_cases h1 : kn D n v = true
  · by_cases h2 : kn D n u = true
    · rw [h v hv h1, h u (by omega) h2]
    · rw [if_neg h2, if_neg h2]
  · rw [if_neg h1, if_neg h1]
/-- what the class's memory says while it asks how things go -/
def LF (D : Mem) (n nT : Nat) (M : Mem) (F : Nat → Nat) : Prop := (∀ p, p < 4 → M 33 p = nI (sP D n p) ∧ M 34 p = nI (cP D n p) ∧ M 35 p = nI (F p) ∧ F p < 4) ∧ (∀ k, k < 4 * nT → M 37 k = D 20 k)
theorem known_M {n : Nat} {C D M : Mem} (hP : RP n C D) {p : Nat} (hp : p < 4) (h : M 34 p = nI (cP D n p)) : f_X3_isKnown (nI p) M = some (kn D n p) := by
  unfold f_X3_isKnown
  rw [gdn hp (by decide), cl_nI (by omega), h, kn_c D n hp]
  have hc := (cP_c hP p).2
  rcases Nat.eq_zero_or_pos (cP D n p) with q | q
  · rw [q, if_pos (by decide)]; rfl
  · rw [if_neg (nI_nle q (by omega)), decide_eq_true q]
theorem tog_in {n nT : Nat} {C D M : Mem} {F : Nat → Nat} (hP : RP n C D) (hF : LF D n nT M F) (hn : nT ≤ 6) {g v : Nat} (hg : g < nT) (hv : v < 4) (a : Int32) (kx : Int32 → Option Int32) : L_X10_together_19 (nI (4 * g)) (nI v) M kx FU a 0 = kx (a + sm (fun u => if kn D n v = true then (if kn D n u = true then XX D g v u * EE D n (F v) (F u) else 0) else 0) v) := by
  have h9 := up_FU (N := v) (by omega) (fun f b i => L_X10_together_19 (nI (4 * g)) (nI v) M kx f b i) (fun k => a + sm (fun u => if kn D n v = true then (if kn D n u = true then XX D g v u * EE D n (F v) (F u) else 0) else 0) k) (kx (a + sm (fun u => if kn D n v = true then (if kn D n u = true then XX D g v u * EE D n (F v) (F u) else 0) else 0) v)) (fun f => ?_) (fun f u hu => ?_)
  · simp only [sm, Int32.add_zero] at h9
    exact h9
  · show L_X10_together_19 (nI (4 * g)) (nI v) M kx (f + 1) _ (nI v) = _
    rw [L_X10_together_19, if_pos (Int32.le_refl _)]
  · show L_X10_together_19 (nI (4 * g)) (nI v) M kx (f + 1) _ (nI u) = L_X10_together_19 (nI (4 * g)) (nI v) M kx f _ (nI (u + 1))
    obtain ⟨v3, v4, v5, v6⟩ := hF.1 v hv
    obtain ⟨u3, u4, u5, u6⟩ := hF.1 u (by omega)
    obtain ⟨x3, x4, -, -⟩ := hF.1 (F v) v6
    obtain ⟨y3, y4, -, -⟩ := hF.1 (F u) u6
    rw [L_X10_together_19, if_neg (by rw [le_nI (by omega) (by omega)]; omega), known_M hP hv v4, bnd_e, known_M hP (by omega) u4, bnd_e]
    unfold B_X10_together_83 f_X3_order
    simp only [lt_, nI_1, nI_add, sm, gdn hv (show 4 ≤ 1000000 by decide), gdn (show u < 4 by omega) (show 4 ≤ 1000000 by decide), cl_nI (show v ≤ 1000000 by omega), cl_nI (show u ≤ 1000000 by omega), v5, u5, gdn v6 (show 4 ≤ 1000000 by decide), gdn u6 (show 4 ≤ 1000000 by decide), cl_nI (show F v ≤ 1000000 by omega), cl_nI (show F u ≤ 1000000 by omega), x3, x4, y3, y4, bnd_e, gdn (show 4 * g + v < 24 by omega) (show 24 ≤ 1000000 by decide), gdn (show 4 * g + u < 24 by omega) (show 24 ≤ 1000000 by decide), cl_nI (show 4 * g + v ≤ 1000000 by omega), cl_nI (show 4 * g + u ≤ 1000000 by omega), hF.2 (4 * g + v) (by omega), hF.2 (4 * g + u) (by omega)]
    by_cases h1 : kn D n v = true
    · by_cases h2 : kn D n u = true
      · rw [if_pos h1, if_pos h2, if_pos h1, if_pos h2, Int32.add_assoc]
        rfl
      · rw [if_pos h1, if_neg h2, if_pos h1, if_neg h2, Int32.add_zero]
    · rw [if_neg h1, if_neg h1, Int32.add_zero]
theorem lt_e {α β : Type} (x : α) (f : α → Option β) : lt_ x f = f x := rfl
theorem tog_C {n nT : Nat} {C D M : Mem} {F : Nat → Nat} (hP : RP n C D) (hF : LF D n nT M F) (hn : nT ≤ 6) {g : Nat} (hg : g < nT) : f_X10_together (nI g) M = some (TG D n g F) := by
  have e4 : nI g * 4 = nI (4 * g) := by rw [show (4 : Int32) = nI 4 from rfl, pk_mul, Nat.mul_comm]
  have h9 := up_FU (N := 4) (by decide) (fun f b i => L_X10_together_10 (nI (4 * g)) M (fun v => some v) f b i) (fun k => sm (fun v => sm (fun u => if kn D n v = true then (if kn D n u = true then XX D g v u * EE D n (F v) (F u) else 0) else 0) v) k) (some (TG D n g F)) (fun f => ?_) (fun f v hv => ?_)
  · simp only [sm] at h9
    unfold f_X10_together
    rw [lt_e, e4]
    exact h9
  · show L_X10_together_10 (nI (4 * g)) M _ (f + 1) _ (nI 4) = _
    rw [L_X10_together_10, if_pos (show (4 : Int32) ≤ nI 4 from Int32.le_refl _)]
    unfold TG
    rfl
  · show L_X10_together_10 (nI (4 * g)) M _ (f + 1) _ (nI v) = L_X10_together_10 (nI (4 * g)) M _ f _ (nI (v + 1))
    rw [L_X10_together_10, if_neg (show ¬ (4 : Int32) ≤ nI v from fun q => by have := (le_nI (a := 4) (by decide) (by omega)).mp q; omega), tog_in hP hF hn hg hv]
    simp only [lt_, nI_1]
    rfl
/-! the model's likewise -/
def tI (k : Nat → Bool) (i : Nat) : Nat := ((List.range 4).filter k).getD i 0
theorem tI_c : ∀ b0 b1 b2 b3, ∀ i, i < 4 → i < ctn (kb b0 b1 b2 b3) 4 → kb b0 b1 b2 b3 (tI (kb b0 b1 b2 b3) i) = true ∧ ctn (kb b0 b1 b2 b3) (tI (kb b0 b1 b2 b3) i) = i ∧ tI (kb b0 b1 b2 b3) i < 4 := by decide
theorem tI_q : ∀ b0 b1 b2 b3, ∀ q, q < 4 → kb b0 b1 b2 b3 q = true → tI (kb b0 b1 b2 b3) (ctn (kb b0 b1 b2 b3) q) = q := by decide
theorem sm_known (k : Nat → Bool) (H : Nat → Int32) : ∀ n, sm H (ctn k n) = sm (fun q => if k q = true then H (ctn k q) else 0) n
  | 0 => rfl
  | n + 1 => by
    rw [ctn, sm]
    by_cases h : k n = true
    · rw [if_pos h, if_pos h, sm, sm_known k H n]
    · rw [if_neg h, if_neg h, Nat.add_zero, Int32.add_zero, sm_known k H n]
def MF (D : Mem) (n : Nat) (M : Mem) (F : Nat → Nat) : Prop := Km D M ∧ M 0 30 = nI (ctn (kn D n) 4) ∧ ∀ i, i < ctn (kn D n) 4 → M 21 i = nI (tI (kn D n) i) ∧ M 22 i = nI (F (tI (kn D n) i))
theorem goes_in {n nT : Nat} {C D M : Mem} {F : Nat → Nat} (hP : RP n C D) (hF : MF D n M F) (hn : nT ≤ 6) (hT : ∀ k, k < 4 * nT → C 37 k = D 20 k ∧ ∃ j, j ≤ 99 ∧ D 20 k = nI j) {g i : Nat} (hg : g < nT) (hi : i < ctn (kn D n) 4) (a : Int32) (kx : Int32 → Option Int32) : L_X12_goesBy_15 (nI g) (nI i) M kx FU a 0 = kx (a + sm (fun j => EE D n (F (tI (kn D n) i)) (F (tI (kn D n) j)) * XX D g (tI (kn D n) i) (tI (kn D n) j)) i) := by
  have h4 := ctn_le (kn D n) 4
  have h9 := up_FU (N := i) (by omega) (fun f b j => L_X12_goesBy_15 (nI g) (nI i) M kx f b j) (fun k => a + sm (fun j => EE D n (F (tI (kn D n) i)) (F (tI (kn D n) j)) * XX D g (tI (kn D n) i) (tI (kn D n) j)) k) (kx (a + sm (fun j => EE D n (F (tI (kn D n) i)) (F (tI (kn D n) j)) * XX D g (tI (kn D n) i) (tI (kn D n) j)) i)) (fun f => ?_) (fun f j hj => ?_)
  · simp only [sm, Int32.add_zero] at h9
    exact h9
  · show L_X12_goesBy_15 (nI g) (nI i) M kx (f + 1) _ (nI i) = _
    rw [L_X12_goesBy_15, if_pos (Int32.le_refl _)]
  · show L_X12_goesBy_15 (nI g) (nI i) M kx (f + 1) _ (nI j) = L_X12_goesBy_15 (nI g) (nI i) M kx f _ (nI (j + 1))
    obtain ⟨e1, e2⟩ := hF.2.2 i hi
    obtain ⟨e3, e4⟩ := hF.2.2 j (by omega)
    have t1 : tI (kn D n) i < 4 := (tI_c _ _ _ _ i (by omega) hi).2.2
    have t2 : tI (kn D n) j < 4 := (tI_c _ _ _ _ j (by omega) (show j < ctn (kn D n) 4 by omega)).2.2
    have i4 : ∀ x, 4 * nI g + nI x = nI (4 * g + x) := fun x => by rw [show (4 : Int32) = nI 4 from rfl, pk_mul, nI_add]
    rw [L_X12_goesBy_15, if_neg (by rw [le_nI (by omega) (by omega)]; omega)]
    simp only [gdn (show i < 4 by omega) (show 4 ≤ 1000000 by decide), gdn (show j < 4 by omega) (show 4 ≤ 1000000 by decide), cl_nI (show i ≤ 1000000 by omega), cl_nI (show j ≤ 1000000 by omega), e1, e2, e3, e4, sumOf_Km hP hF.1, cntOf_Km hP hF.1, bnd_e, i4, lt_, nI_1, gdn (show 4 * g + tI (kn D n) i < 24 by omega) (show 24 ≤ 1000000 by decide), gdn (show 4 * g + tI (kn D n) j < 24 by omega) (show 24 ≤ 1000000 by decide), cl_nI (show 4 * g + tI (kn D n) i ≤ 1000000 by omega), cl_nI (show 4 * g + tI (kn D n) j ≤ 1000000 by omega), sm, hF.1.1 20 rfl]
    rw [EE_w hP, XX_w hT hg t1 t2, Int32.add_assoc]
theorem goes_D {n nT : Nat} {C D M : Mem} {F : Nat → Nat} (hP : RP n C D) (hF : MF D n M F) (hn : nT ≤ 6) (hT : ∀ k, k < 4 * nT → C 37 k = D 20 k ∧ ∃ j, j ≤ 99 ∧ D 20 k = nI j) {g : Nat} (hg : g < nT) : f_X12_goesBy (nI g) M = some (TG D n g F) := by
  have h4 := ctn_le (kn D n) 4
  have e : TG D n g F = sm (fun i => sm (fun j => EE D n (F (tI (kn D n) i)) (F (tI (kn D n) j)) * XX D g (tI (kn D n) i) (tI (kn D n) j)) i) (ctn (kn D n) 4) := by
    unfold TG
    rw [sm_known]
    refine sm_congr 4 (fun v hv => ?_)
    by_cases h1 : kn D n v = true
    · rw [if_pos h1, sm_known]
      refine sm_congr v (fun u hu => ?_)
      rw [if_pos h1]
      by_cases h2 : kn D n u = true
      · rw [if_pos h2, if_pos h2, show tI (kn D n) (ctn (kn D n) v) = v from tI_q _ _ _ _ v hv h1, show tI (kn D n) (ctn (kn D n) u) = u from tI_q _ _ _ _ u (by omega) h2, Int32.mul_comm]
      · rw [if_neg h2, if_neg h2]
    · rw [if_neg h1]
      simp only [if_neg h1]
      clear hv h1
      induction v with
      | zero => rfl
      | succ v ih => rw [sm, ih, Int32.add_zero]
  rw [e]
  unfold f_X12_goesBy
  refine up_FU (N := ctn (kn D n) 4) (by omega) (fun f b i => L_X12_goesBy_4 (nI g) M (fun v => some v) f b i) (fun k => sm (fun i => sm (fun j => EE D n (F (tI (kn D n) i)) (F (tI (kn D n) j)) * XX D g (tI (kn D n) i) (tI (kn D n) j)) i) k) _ (fun f => ?_) (fun f i hi => ?_)
  · show L_X12_goesBy_4 (nI g) M _ (f + 1) _ (nI (ctn (kn D n) 4)) = _
    rw [L_X12_goesBy_4, hF.2.1, if_pos (Int32.le_refl _)]
  · show L_X12_goesBy_4 (nI g) M _ (f + 1) _ (nI i) = L_X12_goesBy_4 (nI g) M _ f _ (nI (i + 1))
    rw [L_X12_goesBy_4, hF.2.1, if_neg (by rw [le_nI (by omega) (by omega)]; omega), goes_in hP hF hn hT hg hi]
    simp only [lt_, nI_1]
    rfl
theorem LM_LF {n nT : Nat} {C D M : Mem} (h : LM D n C M 4) (hT : ∀ k, k < 4 * nT → C 37 k = D 20 k ∧ ∃ j, j ≤ 99 ∧ D 20 k = nI j) : LF D n nT M (fun p => p) :=
  ⟨fun p hp => ⟨(h.2.1 p hp).1, (h.2.1 p hp).2.1, (h.2.1 p hp).2.2, hp⟩, fun k hk => by rw [h.1.1 37 rfl]; exact (hT k hk).1⟩
theorem GM_MF {n : Nat} {D M : Mem} (h : GM D n M 4) : MF D n M (fun p => p) := by
  have h4 := ctn_le (kn D n) 4
  refine ⟨h.1, h.2.1, fun i hi => ?_⟩
  obtain ⟨t1, t2, t3⟩ := tI_c _ _ _ _ i (by omega) hi
  have := h.2.2 (tI (kn D n) i) t3 t1
  rw [show ctn (kn D n) (tI (kn D n) i) = i from t2] at this
  exact this
theorem goes_both {C D : Mem} (hI : Inv C D) {nT g : Nat} (h0 : D 0 26 = nI nT) (hn : nT ≤ 6) (hg : g < nT) : ∃ (r : Int32) (C1 D1 : Mem), Option.bind (f_X11_learnMeans C) (fun C_15 => Option.bind (f_X10_together (nI g) C_15) (fun r_27 => some (r_27, C_15))) = some (r, C1) ∧ f_X12_goesNow (nI g) D = some (r, D1) ∧ Inv C1 D1 ∧ D1 0 26 = D 0 26 := by
  obtain ⟨n, hP⟩ := hI.1
  obtain ⟨nT', hn', c0, d0, hT⟩ := hI.2.2.2.1
  have e : nT' = nT := (eq_nI (by omega) (by omega)).mp (d0.symm.trans h0)
  subst e
  obtain ⟨C1, e1, h1⟩ := means_C hP
  obtain ⟨D1, e2, h2⟩ := gathers_D hP
  unfold f_X12_goesNow
  rw [e1, e2, bnd_e, bnd_e, tog_C hP (LM_LF h1 hT) hn hg, goes_D hP (GM_MF h2) hn hT hg]
  exact ⟨_, _, _, rfl, rfl, hI.keep h1.1 h2.1, h2.1.2 26 (by decide) (by decide)⟩
theorem ok_goes {C D : Mem} (hI : Inv C D) (a1 : Int32) : ∃ (r : Int32) (C1 : Mem) (D1 : Mem), f_X11_goes a1 C = some (r, C1) ∧ f_X12_goes a1 D = some (r, D1) ∧ Inv C1 D1 := by
  obtain ⟨nT, hn, c0, d0, hT⟩ := hI.2.2.2.1
  unfold f_X11_goes f_X12_goes
  have key : f_X10_has a1 C = f_X12_in a1 0 (D 0 26 - 1) := by
    unfold f_X10_has f_X12_in
    rw [c0, d0]
    by_cases h : a1 < 0
    · rw [if_pos h, if_pos h]
    · rw [if_neg h, if_neg h]
      have key : nI nT ≤ a1 ↔ nI nT - 1 < a1 := by
        rw [Int32.le_iff_toInt_le, Int32.lt_iff_toInt_lt, show (1 : Int32) = nI 1 from rfl, pk_sub_toInt (by omega) (by decide), nI_toInt (by omega)]
        omega
      by_cases h2 : nI nT ≤ a1
      · rw [if_pos h2, if_pos (key.mp h2)]
      · rw [if_neg h2, if_neg (fun q => h2 (key.mpr q))]
  rw [key, bnd2_id]
  by_cases h1 : f_X12_in a1 0 (D 0 26 - 1) = true
  · rw [if_pos h1, if_pos h1]
    rw [d0] at h1
    obtain ⟨g, hg, rfl⟩ := in_lt (by omega) h1
    obtain ⟨r, C1, D1, e1, e2, h, -⟩ := goes_both hI d0 hn hg
    exact ⟨r, C1, D1, e1, e2, h⟩
  · exact ⟨-99, C, D, by rw [if_neg h1], by rw [if_neg h1], hI⟩
