/-! the class pools the offers of two peoples -/
def cw (L : List Nat) (l s : Nat) : Nat := WL L (fun l' s' => decide (l' = l ∧ s' = s))
def KT (M M' : Mem) : Prop := ∀ k, k ≠ 30 → k ≠ 31 → M' k = M k
theorem KT.rf (M : Mem) : KT M M := fun _ _ _ => rfl
theorem KT.tr {A B C : Mem} (h : KT A B) (g : KT B C) : KT A C := fun k a b => (g k a b).trans (h k a b)
def DPs (L : List Nat) (M : Mem) : Prop := M 30 1 = nI L.length ∧ M 30 2 = nI (sL L) ∧ ∀ l, l ≤ 7 → ∀ s, s ≤ 70 → M 31 (71 * l + s) = nI (cw L l s)
def ro (w : Nat → Int32) (v j k : Nat) : Nat → Int32 := fun i => if 71 * v + j ≤ i ∧ i < 71 * v + k then w i + w (i - 71 - j) else w i
def rowsL (w : Nat → Int32) (j v : Nat) : Nat → Int32 := fun i => if 71 * (v + 1) ≤ i ∧ i < 568 ∧ j ≤ i % 71 then w i + w (i - 71 - j) else w i
theorem ro_j (w : Nat → Int32) (v j : Nat) : ro w v j j = w := by
  funext i
  unfold ro
  rw [if_neg (by omega)]
theorem ro_s (w : Nat → Int32) {v j k : Nat} (hv : 1 ≤ v) (hj : j ≤ k) (hk : k < 71) : upd (ro w v j k) (71 * v + k) (ro w v j k (71 * v + k) + ro w v j k (71 * v + k - 71 - j)) = ro w v j (k + 1) := by
  funext i
  unfold upd
  by_cases h : i = 71 * v + k
  · rw [if_pos h, h]
    unfold ro
    rw [if_neg (by omega), if_neg (by omega), if_pos (by omega)]
  · rw [if_neg h]
    unfold ro
    by_cases h2 : 71 * v + j ≤ i ∧ i < 71 * v + k
    · rw [if_pos h2, if_pos (by omega)]
    · rw [if_neg h2, if_neg (by omega)]
theorem rowsL_s (w : Nat → Int32) {v j : Nat} (hv : v < 7) (hj : j ≤ 10) : ro (rowsL w j (v + 1)) (v + 1) j 71 = rowsL w j v := by
  funext i
  unfold ro
  by_cases h : 71 * (v + 1) + j ≤ i ∧ i < 71 * (v + 1) + 71
  · rw [if_pos h]
    unfold rowsL
    rw [if_neg (by omega), if_neg (by omega), if_pos (by omega)]
  · rw [if_neg h]
    unfold rowsL
    by_cases h2 : 71 * (v + 1 + 1) ≤ i ∧ i < 568 ∧ j ≤ i % 71
    · rw [if_pos h2, if_pos (by omega)]
    · rw [if_neg h2, if_neg (by omega)]
theorem rowsL_7 (w : Nat → Int32) (j : Nat) : rowsL w j 7 = w := by
  funext i
  unfold rowsL
  rw [if_neg (by omega)]
theorem po_in {v j : Nat} (hv : 1 ≤ v) (hv2 : v ≤ 7) (hj : j ≤ 10) (M : Mem) (kx : Mem → Option Mem) : L_X1_poolOne_9 (nI j) (nI v) kx FU (nI j) M = kx (up2 M 31 (ro (M 31) v j 71)) := by
  have hF := FU_ge
  have h9 := up_loop (N := 71 - j) (fun f a i => L_X1_poolOne_9 (nI j) (nI v) kx f (nI j + i) a) (fun k => up2 M 31 (ro (M 31) v j (j + k))) (kx (up2 M 31 (ro (M 31) v j 71))) (fun f => ?_) (fun f k hk => ?_) (71 - j) 0 FU (by omega) (by omega)
  · simp only [Nat.add_zero, ro_j, up2_self] at h9
    rw [show nI 0 = (0 : Int32) from rfl, Int32.add_zero] at h9
    exact h9
  · show L_X1_poolOne_9 (nI j) (nI v) kx (f + 1) (nI j + nI (71 - j)) _ = _
    rw [nI_add, L_X1_poolOne_9, show j + (71 - j) = 71 by omega, if_pos (show (71 : Int32) ≤ nI 71 from Int32.le_refl _)]
  · show L_X1_poolOne_9 (nI j) (nI v) kx (f + 1) (nI j + nI k) _ = L_X1_poolOne_9 (nI j) (nI v) kx f (nI j + nI (k + 1)) (up2 M 31 (ro (M 31) v j (j + (k + 1))))
    have ix : nI v * 71 + nI (j + k) = nI (71 * v + (j + k)) := by rw [show (71 : Int32) = nI 71 from rfl, pk_mul, nI_add, Nat.mul_comm]
    have iy : (nI v - 1) * 71 + nI (j + k) - nI j = nI (71 * v + (j + k) - 71 - j) := by
      rw [show (1 : Int32) = nI 1 from rfl, pk_sub hv, show (71 : Int32) = nI 71 from rfl, pk_mul, nI_add, pk_sub (by omega)]
      congr 1
      have : (v - 1) * 71 = 71 * v - 71 := by omega
      omega
    rw [nI_add, nI_add, L_X1_poolOne_9, if_neg (show ¬ (71 : Int32) ≤ nI (j + k) from fun q => by have := (le_nI (a := 71) (by decide) (by omega)).mp q; omega), ix, iy, gdn (by omega) (by decide), gdn (by omega) (by decide), gdn (by omega) (by decide), cl_nI (by omega), cl_nI (by omega), sto_e, lt_e, nI_1]
    unfold st2
    rw [up2_s, up2_up2, ro_s _ hv (by omega) (by omega)]
    rfl
theorem po_out {j : Nat} (hj : j ≤ 10) (M : Mem) (kx : Mem → Option Mem) : L_X1_poolOne_3 (nI j) kx FU 7 M = kx (up2 M 31 (rowsL (M 31) j 0)) := by
  have hF := FU_ge
  have key : ∀ v fuel, v ≤ 7 → v < fuel → L_X1_poolOne_3 (nI j) kx fuel (nI v) (up2 M 31 (rowsL (M 31) j v)) = kx (up2 M 31 (rowsL (M 31) j 0)) := by
    intro v
    induction v with
    | zero =>
      intro fuel _ h2
      obtain ⟨f, rfl⟩ : ∃ f, fuel = f + 1 := ⟨fuel - 1, by omega⟩
      rw [L_X1_poolOne_3, if_pos (show nI 0 ≤ 0 by decide)]
    | succ v ih =>
      intro fuel h1 h2
      obtain ⟨f, rfl⟩ : ∃ f, fuel = f + 1 := ⟨fuel - 1, by omega⟩
      rw [L_X1_poolOne_3, if_neg (nI_nle (by omega) (by omega)), po_in (by omega) h1 hj, lt_e, pk_m1, up2_s, up2_up2, rowsL_s _ (by omega) hj]
      exact ih f (by omega) (by omega)
  have h9 := key 7 FU (by decide) (by omega)
  rw [rowsL_7, up2_self] at h9
  exact h9
theorem po_C {j : Nat} (hj : j ≤ 10) {L : List Nat} {M : Mem} (h : DPs L M) : ∃ M', f_X1_poolOne (nI j) M = some M' ∧ DPs (j :: L) M' ∧ KT M M' := by
  obtain ⟨h1, h2, h3⟩ := h
  unfold f_X1_poolOne
  rw [po_out hj, sto_e, sto_e]
  refine ⟨_, rfl, ⟨?_, ?_, fun l hl s hs => ?_⟩, fun k a b => ?_⟩
  · show M 30 1 + 1 = _
    rw [h1, nI_1]
    rfl
  · show M 30 2 + nI j = _
    rw [h2, nI_add]
    rfl
  · show rowsL (M 31) j 0 (71 * l + s) = _
    unfold cw
    rw [WL_push]
    unfold rowsL
    by_cases q : 1 ≤ l ∧ j ≤ s
    · rw [if_pos (by omega), if_pos q, ← nI_add, h3 l hl s hs, show 71 * l + s - 71 - j = 71 * (l - 1) + (s - j) by omega, h3 (l - 1) (by omega) (s - j) (by omega)]
      rfl
    · rw [if_neg (by omega), if_neg q, h3 l hl s hs]
      rfl
  · rw [st2_n _ _ _ a, st2_n _ _ _ a, up2_n _ _ b]
theorem pool1_C (t j : Nat) (hj : j ≤ 10) (ht : t = 8 ∨ t = 11) {off : Nat} (ho : off ≤ 60) (kx : Mem → Option Mem) : ∀ m k fuel M L, k + m = off → m < fuel → M (t + 1) j = nI off → DPs L M → ∃ M' L', L_X1_pool_10 t (nI j) kx fuel (nI k) M = kx M' ∧ DPs L' M' ∧ KT M M' ∧ ∀ a, L'.count a = L.count a + (if a = j then m else 0)
  | 0, k, fuel, M, L, h1, h2, h3, h => by
    obtain ⟨f, rfl⟩ : ∃ f, fuel = f + 1 := ⟨fuel - 1, by omega⟩
    rw [L_X1_pool_10, gdn (by omega) (by decide), cl_nI (by omega), h3, if_pos (by rw [le_nI (by omega) (by omega)]; omega)]
    exact ⟨M, L, rfl, h, KT.rf M, fun a => by split <;> rfl⟩
  | m + 1, k, fuel, M, L, h1, h2, h3, h => by
    obtain ⟨f, rfl⟩ : ∃ f, fuel = f + 1 := ⟨fuel - 1, by omega⟩
    rw [L_X1_pool_10, gdn (by omega) (by decide), cl_nI (by omega), h3, if_neg (by rw [le_nI (by omega) (by omega)]; omega)]
    obtain ⟨M1, e1, d1, k1⟩ := po_C hj h
    rw [e1, bnd_e, lt_e, nI_1]
    obtain ⟨M2, L2, e2, d2, k2, c2⟩ := pool1_C t j hj ht ho kx m (k + 1) f M1 (j :: L) (by omega) (by omega) (by rw [k1 (t + 1) (by omega) (by omega)]; exact h3) d1
    refine ⟨M2, L2, e2, d2, k1.tr k2, fun a => ?_⟩
    rw [c2 a, List.count_cons]
    by_cases q : a = j
    · subst q; simp; omega
    · rw [if_neg q, if_neg q, if_neg (by simpa using fun z => q z.symm)]
theorem pool_C (t : Nat) (ht : t = 8 ∨ t = 11) {off : Nat → Nat} (ho : ∀ j, off j ≤ 60) (kx : Mem → Option Mem) : ∀ m j fuel M L, j + m = 11 → m < fuel → (∀ i, i < 11 → M (t + 1) i = nI (off i)) → DPs L M → ∃ M' L', L_X1_pool_2 t kx fuel (nI j) M = kx M' ∧ DPs L' M' ∧ KT M M' ∧ ∀ a, L'.count a = L.count a + (if j ≤ a ∧ a < 11 then off a else 0)
  | 0, j, fuel, M, L, h1, h2, h3, h => by
    obtain ⟨f, rfl⟩ : ∃ f, fuel = f + 1 := ⟨fuel - 1, by omega⟩
    have e : j = 11 := by omega
    subst e
    rw [L_X1_pool_2, if_pos (show (11 : Int32) ≤ nI 11 from Int32.le_refl _)]
    exact ⟨M, L, rfl, h, KT.rf M, fun a => by rw [if_neg (by omega)]; rfl⟩
  | m + 1, j, fuel, M, L, h1, h2, h3, h => by
    obtain ⟨f, rfl⟩ : ∃ f, fuel = f + 1 := ⟨fuel - 1, by omega⟩
    rw [L_X1_pool_2, if_neg (show ¬ (11 : Int32) ≤ nI j from fun q => by have := (le_nI (a := 11) (by decide) (by omega)).mp q; omega)]
    obtain ⟨M1, L1, e1, d1, k1, c1⟩ := pool1_C t j (by omega) ht (ho j) (fun (C_31 : Mem) => lt_ (nI j + 1) (fun v2_31 => L_X1_pool_2 t kx f v2_31 C_31)) (off j) 0 FU M L (by omega) (by have := FU_ge; have := ho j; omega) (h3 j (by omega)) h
    rw [show nI 0 = (0 : Int32) from rfl] at e1
    rw [e1, lt_e, nI_1]
    obtain ⟨M2, L2, e2, d2, k2, c2⟩ := pool_C t ht ho kx m (j + 1) f M1 L1 (by omega) (by omega) (fun i hi => by rw [k1 (t + 1) (by omega) (by omega)]; exact h3 i hi) d1
    refine ⟨M2, L2, e2, d2, k1.tr k2, fun a => ?_⟩
    rw [c2 a, c1 a]
    by_cases q : a = j
    · subst q; rw [if_pos rfl, if_neg (by omega), if_pos (by omega)]; omega
    · rw [if_neg q]
      by_cases q2 : j + 1 ≤ a ∧ a < 11
      · rw [if_pos q2, if_pos (by omega)]; omega
      · rw [if_neg q2, if_neg (by omega)]
theorem clr_C (M : Mem) : ∃ M', f_X1_clear M = some M' ∧ DPs [] M' ∧ KT M M' := by
  unfold f_X1_clear
  rw [fill_C 31 568 (by decide), bnd_e, gd_t (by decide), sto_e, sto_e, sto_e]
  refine ⟨_, rfl, ⟨rfl, rfl, fun l hl s hs => ?_⟩, fun k a b => ?_⟩
  · show upd (fil 568 0 (M 31)) 0 1 (71 * l + s) = _
    unfold cw WL
    by_cases q : l = 0 ∧ s = 0
    · obtain ⟨rfl, rfl⟩ := q
      rfl
    · rw [upd_n _ _ (by omega), if_neg (by simp; omega)]
      unfold fil
      rw [if_pos (by omega)]
      rfl
  · rw [st2_n _ _ _ a, st2_n _ _ _ a, st2_n _ _ _ b, up2_n _ _ b]
/-! how far apart -/
def ad (a b : Nat) : Nat := if a ≤ b then b - a else a - b
theorem jabs_ad {a b : Nat} (ha : a ≤ 1000000) (hb : b ≤ 1000000) : jabs (nI a - nI b) = nI (ad a b) := by
  have hd : (nI a - nI b).toInt = (a : Int) - b := pk_sub_toInt (by omega) (by omega)
  have h0 : (0 : Int32).toInt = 0 := by decide
  unfold jabs ad
  rcases Nat.lt_trichotomy a b with h | h | h
  · rw [if_pos (show a ≤ b by omega), if_neg (by rw [Int32.le_iff_toInt_le, hd, h0]; omega), Int32.zero_sub, Int32.neg_sub, pk_sub (by omega)]
  · subst h
    rw [if_pos (Nat.le_refl _), if_pos (by rw [Int32.le_iff_toInt_le, hd, h0]; omega), pk_sub (Nat.le_refl _)]
  · rw [if_neg (show ¬ a ≤ b by omega), if_pos (by rw [Int32.le_iff_toInt_le, hd, h0]; omega), pk_sub (by omega)]
def farC (N T l S s : Nat) : Bool := !(decide (ad (s * N) (T * l) < ad (S * N) (T * l)))
theorem far_C {M : Mem} {L : List Nat} {t l S : Nat} (hM : DPs L M) (hl : l ≤ 7) (h2 : M t 2 = nI l) (h4 : M t 4 = nI S) (hN : L.length ≤ 14) (hT : sL L ≤ 140) (hS : S ≤ 140) : f_X1_asFarApart t M = f_X11_millionths (nI (sN (fun s => if farC L.length (sL L) l S s = true then cw L l s else 0) 71)) (nI (sN (fun s => cw L l s) 71)) := by
  have mb : ∀ s, s ≤ 140 → s * L.length ≤ 140 * 14 := fun s hs => Nat.mul_le_mul hs hN
  have mt : sL L * l ≤ 140 * 7 := Nat.mul_le_mul hT hl
  have adl : ∀ a b, a ≤ 140 * 14 → b ≤ 140 * 14 → ad a b ≤ 140 * 14 := fun a b h1 h2 => by unfold ad; split <;> omega
  have ap : ∀ s, s ≤ 140 → f_X1_apart (nI l) (nI s) M = nI (ad (s * L.length) (sL L * l)) := fun s hs => by
    unfold f_X1_apart
    have := mb s hs
    rw [hM.1, hM.2.1, pk_mul, pk_mul, jabs_ad (by omega) (by omega)]
  unfold f_X1_asFarApart
  rw [h2, h4, if_pos (show nI l ≤ (7 : Int32) from (le_nI (b := 7) (by omega) (by decide)).mpr hl), lt_e, ap S hS]
  simp only [bnd_id]
  have h9 := up_FU (N := 71) (by decide) (fun f (a : Int32 × Int32) i => L_X1_asFarApart_32 t (nI (ad (S * L.length) (sL L * l))) M (fun (v3_92 : Int32) (v4_92 : Int32) => f_X11_millionths v4_92 v3_92) f a.1 a.2 i) (fun k => (nI (sN (fun s => cw L l s) k), nI (sN (fun s => if farC L.length (sL L) l S s = true then cw L l s else 0) k))) (f_X11_millionths (nI (sN (fun s => if farC L.length (sL L) l S s = true then cw L l s else 0) 71)) (nI (sN (fun s => cw L l s) 71))) (fun f => ?_) (fun f s hs => ?_)
  · exact h9
  · show L_X1_asFarApart_32 t _ M _ (f + 1) _ _ (nI 71) = _
    rw [L_X1_asFarApart_32, if_pos (show (71 : Int32) ≤ nI 71 from Int32.le_refl _)]
  · show L_X1_asFarApart_32 t _ M _ (f + 1) (nI (sN (fun s => cw L l s) s)) (nI (sN (fun s => if farC L.length (sL L) l S s = true then cw L l s else 0) s)) (nI s) = L_X1_asFarApart_32 t _ M _ f (nI (sN (fun s => cw L l s) (s + 1))) (nI (sN (fun s => if farC L.length (sL L) l S s = true then cw L l s else 0) (s + 1))) (nI (s + 1))
    have ix : nI l * 71 + nI s = nI (71 * l + s) := by rw [show (71 : Int32) = nI 71 from rfl, pk_mul, nI_add, Nat.mul_comm]
    rw [L_X1_asFarApart_32, if_neg (show ¬ (71 : Int32) ≤ nI s from fun q => by have := (le_nI (a := 71) (by decide) (by omega)).mp q; omega), h2, ix, gdn (by omega) (by decide), cl_nI (by omega), lt_e, lt_e, hM.2.2 l hl s (by omega), ap s (by omega), nI_add]
    unfold B_X1_asFarApart_83
    rw [lt_e, lt_e, lt_e, lt_e, nI_1]
    have m1 := adl (s * L.length) (sL L * l) (mb s (by omega)) (by omega)
    have m2 := adl (S * L.length) (sL L * l) (mb S hS) (by omega)
    simp only [sN]
    by_cases h : ad (s * L.length) (sL L * l) < ad (S * L.length) (sL L * l)
    · rw [if_pos ((lt_nI (by omega) (by omega)).mpr h), if_neg (by unfold farC; simp [h]), Int32.add_zero]
      rfl
    · rw [if_neg (by rw [lt_nI (by omega) (by omega)]; exact h), if_pos (by unfold farC; simp [h]), nI_add]
