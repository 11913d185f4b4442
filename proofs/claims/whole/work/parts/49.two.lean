/-! two peoples: the model's selections -/
def ml (D : Mem) (p q : Int32) : Nat → List Nat
  | 0 => []
  | k + 1 => if isD D p 0 k = true then (D 3 k).toNatClampNeg :: ml D p q k else if isD D q 0 k = true then (D 3 k).toNatClampNeg :: ml D p q k else ml D p q k
def el (L : List Nat) (i : Nat) : Nat := L.getD (L.length - 1 - i) 0
theorem el_top (x : Nat) (L : List Nat) : el (x :: L) L.length = x := by
  unfold el
  rw [List.length_cons, show L.length + 1 - 1 - L.length = 0 by omega]
  rfl
theorem el_low (x : Nat) (L : List Nat) {i : Nat} (h : i < L.length) : el (x :: L) i = el L i := by
  unfold el
  rw [List.length_cons, show L.length + 1 - 1 - i = (L.length - 1 - i) + 1 by omega]
  rfl
theorem ex_D {D : Mem} {p q : Nat} (hp : p ≤ 3) (hq : q ≤ 3) (h : p ≠ q) (k : Nat) : isD D (nI p) 0 k = true → ¬ isD D (nI q) 0 k = true := by
  intro h1 h2
  rw [isD_eq, Bool.and_eq_true] at h1 h2
  have n1 : ∀ x, x ≤ 3 → ¬ nI x = -1 := by decide
  have a1 := h1.1
  have a2 := h2.1
  rw [if_neg (n1 p hp)] at a1
  rw [if_neg (n1 q hq)] at a2
  by_cases z : D 2 k = 0
  · rw [if_pos z] at a1 a2
    by_cases z1 : D 1 k = nI p
    · rw [if_neg (fun e => h ((eq_nI (by omega) (by omega)).mp (z1.symm.trans e)))] at a2
      cases a2
    · rw [if_neg z1] at a1
      cases a1
  · rw [if_neg z] at a1
    cases a1
theorem ml_len {D : Mem} {p q : Nat} (hp : p ≤ 3) (hq : q ≤ 3) (h : p ≠ q) : ∀ k, (ml D (nI p) (nI q) k).length = cP D k p + cP D k q
  | 0 => rfl
  | k + 1 => by
    have ih := ml_len (D := D) hp hq h k
    unfold cP at ih ⊢
    rw [ml, ctn_s _ k, ctn_s _ k]
    by_cases h1 : isD D (nI p) 0 k = true
    · rw [if_pos h1, if_pos h1, if_neg (ex_D hp hq h k h1), List.length_cons]; omega
    · rw [if_neg h1, if_neg h1]
      by_cases h2 : isD D (nI q) 0 k = true
      · rw [if_pos h2, if_pos h2, List.length_cons]; omega
      · rw [if_neg h2, if_neg h2]; omega
theorem ml_sum {D : Mem} {p q : Nat} (hp : p ≤ 3) (hq : q ≤ 3) (h : p ≠ q) : ∀ k, (∀ i, i < k → ∃ j, j ≤ 10 ∧ D 3 i = nI j) → sm (gS D (nI p) 0) k + sm (gS D (nI q) 0) k = nI (sL (ml D (nI p) (nI q) k))
  | 0, _ => rfl
  | k + 1, hj => by
    have ih := ml_sum hp hq h k (fun i hi => hj i (by omega))
    obtain ⟨j, h10, e⟩ := hj k (by omega)
    have ec : (D 3 k).toNatClampNeg = j := by rw [e, cl_nI (by omega)]
    rw [ml, sm, sm, ec]
    unfold gS
    rw [e]
    by_cases h1 : isD D (nI p) 0 k = true
    · rw [if_pos h1, if_pos h1, if_neg (ex_D hp hq h k h1), sL, ← nI_add, ← ih, Int32.add_zero, Int32.add_assoc, Int32.add_comm (nI j), ← Int32.add_assoc]
      rfl
    · rw [if_neg h1, if_neg h1]
      by_cases h2 : isD D (nI q) 0 k = true
      · rw [if_pos h2, if_pos h2, sL, ← nI_add, ← ih, Int32.add_zero, ← Int32.add_assoc]
        rfl
      · rw [if_neg h2, if_neg h2, ← ih, Int32.add_zero, Int32.add_zero]
        rfl
theorem ml_cnt {D : Mem} {p q : Nat} (hp : p ≤ 3) (hq : q ≤ 3) (h : p ≠ q) (a : Nat) : ∀ k, (∀ i, i < k → ∃ j, j ≤ 10 ∧ D 3 i = nI j) → (ml D (nI p) (nI q) k).count a = (if a < 11 then ctn (bF D (nI p) 0 a) k else 0) + (if a < 11 then ctn (bF D (nI q) 0 a) k else 0)
  | 0, _ => by simp [ml, ctn]
  | k + 1, hj => by
    have ih := ml_cnt hp hq h a k (fun i hi => hj i (by omega))
    obtain ⟨j, h10, e⟩ := hj k (by omega)
    have ec : (D 3 k).toNatClampNeg = j := by rw [e, cl_nI (by omega)]
    have eF : ∀ x, a < 11 → bF D (nI x) 0 a k = (isD D (nI x) 0 k && decide (j = a)) := fun x ha => by
      unfold bF
      rw [e]
      congr 1
      exact decide_eq_decide.mpr (eq_nI (by omega) (by omega))
    rw [ml, ec]
    by_cases ha : a < 11
    · rw [if_pos ha, if_pos ha] at ih ⊢
      rw [ctn_s _ k, ctn_s _ k, eF p ha, eF q ha]
      by_cases h1 : isD D (nI p) 0 k = true
      · have h2 := ex_D hp hq h k h1
        have h2' : isD D (nI q) 0 k = false := by simpa using h2
        rw [if_pos h1, h1, h2', List.count_cons, ih]
        by_cases z : j = a
        · subst z; simp; omega
        · simp [z]
      · have h1' : isD D (nI p) 0 k = false := by simpa using h1
        rw [if_neg h1, h1']
        by_cases h2 : isD D (nI q) 0 k = true
        · rw [if_pos h2, h2, List.count_cons, ih]
          by_cases z : j = a
          · subst z; simp; omega
          · simp [z]
        · have h2' : isD D (nI q) 0 k = false := by simpa using h2
          rw [if_neg h2, h2', ih]
          simp
    · rw [if_neg ha, if_neg ha] at ih ⊢
      have hz : ¬ j = a := by omega
      split
      · rw [List.count_cons, ih]; simp [hz]
      · split
        · rw [List.count_cons, ih]; simp [hz]
        · exact ih
theorem ml_10 {D : Mem} (p q : Int32) : ∀ k, (∀ i, i < k → ∃ j, j ≤ 10 ∧ D 3 i = nI j) → ∀ x, x ∈ ml D p q k → x ≤ 10
  | 0, _, x, hx => by cases hx
  | k + 1, hj, x, hx => by
    have ih := ml_10 p q k (fun i hi => hj i (by omega)) x
    obtain ⟨j, h10, e⟩ := hj k (by omega)
    have ec : (D 3 k).toNatClampNeg = j := by rw [e, cl_nI (by omega)]
    rw [ml, ec] at hx
    have key : x ∈ j :: ml D p q k → x ≤ 10 := fun hm => by
      rcases List.mem_cons.mp hm with z | z
      · omega
      · exact ih z
    split at hx
    · exact key hx
    · split at hx
      · exact key hx
      · exact ih hx
theorem gath2_D {n : Nat} {C D : Mem} (hP : RP n C D) {p q : Nat} (hp : p ≤ 3) (hq : q ≤ 3) (h : p ≠ q) (hN : (ml D (nI p) (nI q) n).length ≤ 14) (kx : Mem → Option (Int32 × Mem)) : ∀ m k fuel g, k + m = n → m < fuel → (∀ i, i < (ml D (nI p) (nI q) k).length → g i = nI (el (ml D (nI p) (nI q) k) i)) → ∃ g', L_X12_two_104 (nI p) (nI q) kx fuel (nI (ml D (nI p) (nI q) k).length) (nI k) (up2 D 19 g) = kx (up2 D 19 g') ∧ ∀ i, i < (ml D (nI p) (nI q) n).length → g' i = nI (el (ml D (nI p) (nI q) n) i)
  | 0, k, fuel, g, h1, h2, hg => by
    obtain ⟨f, rfl⟩ : ∃ f, fuel = f + 1 := ⟨fuel - 1, by omega⟩
    have e : k = n := by omega
    subst e
    rw [L_X12_two_104, show up2 D 19 g 0 0 = nI k from hP.2.2.1, if_pos (Int32.le_refl _)]
    exact ⟨g, rfl, hg⟩
  | m + 1, k, fuel, g, h1, h2, hg => by
    obtain ⟨f, rfl⟩ : ∃ f, fuel = f + 1 := ⟨fuel - 1, by omega⟩
    have hn := hP.1
    have hK : Km D (up2 D 19 g) := Km.up _ rfl (by decide)
    obtain ⟨j, h10, e⟩ := (hP.2.2.2.2.2 k (by omega)).2.2.2.2.2.1
    have ec : (D 3 k).toNatClampNeg = j := by rw [e, cl_nI (by omega)]
    rw [L_X12_two_104, show up2 D 19 g 0 0 = nI n from hP.2.2.1, if_neg (by rw [le_nI (by omega) (by omega)]; omega), isOf_D _ _ _ (show k < 60 by omega), isOf_D _ _ _ (show k < 60 by omega), isD_Km hK, bnd_e, bnd_e]
    have push : isD D (nI p) 0 k = true ∨ isD D (nI q) 0 k = true → ∃ g', B_X12_two_135 (nI (ml D (nI p) (nI q) k).length) (nI k) (up2 D 19 g) (L_X12_two_104 (nI p) (nI q) kx f) = kx (up2 D 19 g') ∧ ∀ i, i < (ml D (nI p) (nI q) n).length → g' i = nI (el (ml D (nI p) (nI q) n) i) := by
      intro hor
      have el1 : ml D (nI p) (nI q) (k + 1) = j :: ml D (nI p) (nI q) k := by
        rw [ml, ec]
        rcases hor with z | z
        · rw [if_pos z]
        · rw [if_pos z]
          split <;> rfl
      have hmono : (ml D (nI p) (nI q) (k + 1)).length ≤ (ml D (nI p) (nI q) n).length := by
        rw [ml_len hp hq h, ml_len hp hq h]
        unfold cP
        obtain ⟨d, rfl⟩ : ∃ d, n = k + 1 + d := ⟨n - (k + 1), by omega⟩
        rw [ctn_add _ (k + 1) d, ctn_add _ (k + 1) d]
        omega
      rw [el1, List.length_cons] at hmono
      unfold B_X12_two_135 B_X12_two_152
      rw [gdn (by omega) (by decide), gdn (by omega) (by decide), cl_nI (by omega), cl_nI (by omega), sto_e, lt_e, lt_e, nI_1, nI_1]
      have e5 : st2 (up2 D 19 g) 19 (ml D (nI p) (nI q) k).length (up2 D 19 g 3 k) = up2 D 19 (upd g (ml D (nI p) (nI q) k).length (nI j)) := by
        unfold st2
        rw [up2_s, up2_up2, up2_n _ _ (by decide), e]
      rw [e5]
      have ih := gath2_D hP hp hq h hN kx m (k + 1) f (upd g (ml D (nI p) (nI q) k).length (nI j)) (by omega) (by omega) (fun i hi => by
        rw [el1] at hi ⊢
        rw [List.length_cons] at hi
        by_cases z : i = (ml D (nI p) (nI q) k).length
        · subst z; rw [upd_s, el_top]
        · rw [upd_n _ _ z, el_low _ _ (by omega)]
          exact hg i (by omega))
      rw [el1, List.length_cons] at ih
      exact ih
    by_cases z1 : isD D (nI p) 0 k = true
    · rw [if_pos z1]
      exact push (Or.inl z1)
    · rw [if_neg z1]
      by_cases z2 : isD D (nI q) 0 k = true
      · rw [if_pos z2]
        exact push (Or.inr z2)
      · rw [if_neg z2]
        unfold B_X12_two_152
        rw [lt_e, nI_1]
        have el1 : ml D (nI p) (nI q) (k + 1) = ml D (nI p) (nI q) k := by rw [ml, if_neg z1, if_neg z2]
        have ih := gath2_D hP hp hq h hN kx m (k + 1) f g (by omega) (by omega) (fun i hi => by
          rw [el1] at hi ⊢
          exact hg i hi)
        rw [el1] at ih
        exact ih
/-! masks -/
theorem has14 {b o : Nat} (hb : b < 16384) (ho : o < 14) : f_X12_has (nI b) (nI o) = b.testBit o := by
  unfold f_X12_has
  rw [pk_shrN (by omega) _ o (by
    have : ∀ o, o < 14 → ((nI o &&& 31).toBitVec.smod 32).toNat = o := by decide +kernel
    exact this o ho), pk_andN (by have := Nat.div_le_self b (2 ^ o); omega) 1 (by decide), Nat.testBit_eq_decide_div_mod_eq]
  rcases (show b / 2 ^ o % 2 ^ 1 = 0 ∨ b / 2 ^ o % 2 ^ 1 = 1 by omega) with h | h
  · rw [h]; rfl
  · rw [h]; rfl
theorem ctn_no (b : Nat → Bool) (k : Nat) : ∀ d, (∀ i, b (k + i) = false) → ctn b (k + d) = ctn b k
  | 0, _ => rfl
  | d + 1, h => by rw [← Nat.add_assoc, ctn_s, ctn_no b k d h, h d]; rfl
theorem onL_ctn : ∀ (L : List Nat) (c : Nat), onL L c = ctn (fun i => c.testBit i) L.length
  | [], _ => rfl
  | x :: L, c => by rw [onL, onL_ctn L c, List.length_cons, ctn_s]
theorem ones_D {L : List Nat} (hL : L.length ≤ 14) {c : Nat} (hc : c < 2 ^ L.length) : f_X12_ones (nI c) = some (nI (onL L c)) := by
  have h2 : 2 ^ L.length ≤ 2 ^ 14 := Nat.pow_le_pow_right (by decide) hL
  have e : ctn (fun i => c.testBit i) 14 = onL L c := by
    rw [onL_ctn]
    obtain ⟨d, hd⟩ : ∃ d, 14 = L.length + d := ⟨14 - L.length, by omega⟩
    rw [hd]
    exact ctn_no _ _ d (fun i => Nat.testBit_lt_two_pow (Nat.lt_of_lt_of_le hc (Nat.pow_le_pow_right (by decide) (by omega))))
  rw [← e]
  unfold f_X12_ones
  refine up_FU (N := 14) (by decide) (fun f a i => L_X12_ones_4 (nI c) (fun v => some v) f a i) (fun k => nI (ctn (fun i => c.testBit i) k)) _ (fun f => ?_) (fun f k hk => ?_)
  · show L_X12_ones_4 (nI c) _ (f + 1) _ (nI 14) = _
    rw [L_X12_ones_4, if_pos (show (14 : Int32) ≤ nI 14 from Int32.le_refl _)]
  · show L_X12_ones_4 (nI c) _ (f + 1) _ (nI k) = L_X12_ones_4 (nI c) _ f _ (nI (k + 1))
    rw [L_X12_ones_4, if_neg (show ¬ (14 : Int32) ≤ nI k from fun q => by have := (le_nI (a := 14) (by decide) (by omega)).mp q; omega), has_b, has14 (by omega) hk, lt_e, lt_e, nI_1, ctn_s]
    by_cases z : c.testBit k = true
    · rw [if_pos z, if_pos z, nI_1]
    · rw [if_neg z, if_neg z, Int32.add_zero]
      rfl
theorem suL_sN : ∀ (L : List Nat) (c : Nat), suL L c = sN (fun i => if c.testBit i = true then el L i else 0) L.length
  | [], _ => rfl
  | x :: L, c => by
    rw [suL, suL_sN L c, List.length_cons, sN, el_top]
    congr 1
    refine sN_congr _ (fun i hi => ?_)
    rw [el_low _ _ hi]
theorem suL_le : ∀ (L : List Nat) (c : Nat), suL L c ≤ sL L
  | [], _ => Nat.le_refl _
  | x :: L, c => by
    have := suL_le L c
    rw [suL, sL]
    split <;> omega
theorem sums_D {L : List Nat} {M : Mem} {n m : Nat} (hL : L.length = n + m) (h14 : n + m ≤ 14) (hM : ∀ i, i < L.length → M 19 i = nI (el L i)) {c : Nat} (hc : c < 2 ^ L.length) (kx : Int32 → Option (Int32 × Mem)) : L_X12_two_193 (nI n) (nI m) (nI c) M kx FU 0 0 = kx (nI (suL L c)) := by
  have h2 : 2 ^ L.length ≤ 2 ^ 14 := Nat.pow_le_pow_right (by decide) (by omega)
  rw [suL_sN]
  refine up_FU (N := L.length) (by omega) (fun f a i => L_X12_two_193 (nI n) (nI m) (nI c) M kx f a i) (fun k => nI (sN (fun i => if c.testBit i = true then el L i else 0) k)) _ (fun f => ?_) (fun f k hk => ?_)
  · show L_X12_two_193 (nI n) (nI m) (nI c) M kx (f + 1) _ (nI L.length) = _
    rw [L_X12_two_193, nI_add, hL, if_pos (Int32.le_refl _)]
  · show L_X12_two_193 (nI n) (nI m) (nI c) M kx (f + 1) _ (nI k) = L_X12_two_193 (nI n) (nI m) (nI c) M kx f _ (nI (k + 1))
    rw [L_X12_two_193, nI_add, if_neg (by rw [le_nI (by omega) (by omega)]; omega), has14 (by omega) (show k < 14 by omega)]
    unfold B_X12_two_225
    rw [lt_e, lt_e, lt_e, lt_e, nI_1, sN]
    by_cases z : c.testBit k = true
    · rw [if_pos z, if_pos z, gdn (by omega) (by decide), cl_nI (by omega), hM k hk, nI_add]
    · rw [if_neg z, if_neg z, Int32.add_zero]
      rfl
def farD (n m T S s : Nat) : Bool := !(decide (ad (s * m) ((T - s) * n) < ad (S * m) ((T - S) * n)))
theorem shl14 : ∀ m, m < 15 → (1 : Int32) <<< (nI m &&& 31) = nI (2 ^ m) := by decide
theorem masks_D {L : List Nat} {M : Mem} {n m S : Nat} (hL : L.length = n + m) (h14 : n + m ≤ 14) (hT : sL L ≤ 140) (hS : S ≤ sL L) (hM : ∀ i, i < L.length → M 19 i = nI (el L i)) (kx : Int64 → Int64 → Option (Int32 × Mem)) : L_X12_two_167 (nI n) (nI m) (nI (sL L)) (nI (ad (S * m) ((sL L - S) * n))) M kx FU 0 0 0 = kx (lN (WL L (fun l _ => decide (l = n)))) (lN (WL L (fun l s => decide (l = n) && farD n m (sL L) S s))) := by
  have h2 : 2 ^ L.length ≤ 2 ^ 14 := Nat.pow_le_pow_right (by decide) (by omega)
  have mb : ∀ a b, a ≤ 140 → b ≤ 14 → a * b ≤ 140 * 14 := fun a b h1 h2 => Nat.mul_le_mul h1 h2
  have adl : ∀ a b, a ≤ 140 * 14 → b ≤ 140 * 14 → ad a b ≤ 140 * 14 := fun a b h1 h2 => by unfold ad; split <;> omega
  rw [← masks L (fun l _ => decide (l = n)), ← masks L (fun l s => decide (l = n) && farD n m (sL L) S s)]
  have h9 := up_FU (N := 2 ^ L.length) (by omega) (fun f (a : Int64 × Int64) i => L_X12_two_167 (nI n) (nI m) (nI (sL L)) (nI (ad (S * m) ((sL L - S) * n))) M kx f a.1 a.2 i) (fun k => (lN (ctn (fun c => decide (onL L c = n)) k), lN (ctn (fun c => decide (onL L c = n) && farD n m (sL L) S (suL L c)) k))) (kx (lN (ctn (fun c => decide (onL L c = n)) (2 ^ L.length))) (lN (ctn (fun c => decide (onL L c = n) && farD n m (sL L) S (suL L c)) (2 ^ L.length)))) (fun f => ?_) (fun f c hc => ?_)
  · exact h9
  · show L_X12_two_167 _ _ _ _ M kx (f + 1) _ _ (nI (2 ^ L.length)) = _
    rw [L_X12_two_167, nI_add, shl14 _ (by omega), ← hL, if_pos (Int32.le_refl _)]
  · show L_X12_two_167 _ _ _ _ M kx (f + 1) (lN (ctn (fun c => decide (onL L c = n)) c)) (lN (ctn (fun c => decide (onL L c = n) && farD n m (sL L) S (suL L c)) c)) (nI c) = L_X12_two_167 _ _ _ _ M kx f (lN (ctn (fun c => decide (onL L c = n)) (c + 1))) (lN (ctn (fun c => decide (onL L c = n) && farD n m (sL L) S (suL L c)) (c + 1))) (nI (c + 1))
    have hs := suL_le L c
    have ho : onL L c ≤ 14 := by rw [onL_ctn]; exact Nat.le_trans (ctn_le _ _) (by omega)
    rw [L_X12_two_167, nI_add, shl14 _ (by omega), ← hL, if_neg (by rw [le_nI (by omega) (by omega)]; omega), ones_D (by omega) hc, bnd_e, sums_D hL h14 hM hc, ctn_s _ c, ctn_s _ c]
    unfold B_X12_two_268 B_X12_two_271
    rw [lt_e, lt_e, lt_e, lt_e, lt_e, lt_e, nI_1, am_abs]
    have b1 := mb (suL L c) m (by omega) (by omega)
    have b2 := mb (sL L - suL L c) n (by omega) (by omega)
    have b3 := mb S m (by omega) (by omega)
    have b4 := mb (sL L - S) n (by omega) (by omega)
    have a1 := adl _ _ b1 b2
    have a2 := adl _ _ b3 b4
    rw [pk_sub hs, pk_mul, pk_mul, jabs_ad (by omega) (by omega)]
    by_cases z : onL L c = n
    · rw [if_pos (show nI (onL L c) = nI n by rw [z]), decide_eq_true z, Bool.true_and, lN_1]
      unfold farD
      by_cases w : ad (suL L c * m) ((sL L - suL L c) * n) < ad (S * m) ((sL L - S) * n)
      · rw [if_pos ((lt_nI (by omega) (by omega)).mpr w), decide_eq_true w, Int64.add_zero]
        rfl
      · rw [if_neg (by rw [lt_nI (by omega) (by omega)]; exact w), decide_eq_false w, lN_1]
        rfl
    · rw [if_neg (fun q => z ((eq_nI (by omega) (by omega)).mp q)), decide_eq_false z, Bool.false_and]
      rfl
