/-! lines of rows -/
def tn (b f t : Nat) : Nat := ctn (fun o => decide (¬ b2i (f_X12_has (nI b) (nI o)) = b2i (f_X12_in (nI o) (nI f) (nI t)))) 11
theorem bc_all : ∀ z, z < 2048 → f_J6_bitCount_0f7a4 (nI z) = nI (ctn (fun o => z.testBit o) 11) := fun z hz => co_dec (N := 2048) (P := fun z => f_J6_bitCount_0f7a4 (nI z) = nI (ctn (fun o => z.testBit o) 11)) (by decide +kernel) hz
def mk (f t : Nat) : Nat := (2 ^ (t - f + 1) - 1) * 2 ^ f
theorem mk_all : ∀ f, f < 11 → ∀ t, t < 11 → f ≤ t → mk f t < 2048 ∧ ((((1 : Int32) <<< ((nI t - nI f + 1) &&& 31)) - 1) <<< (nI f &&& 31)) = nI (mk f t) ∧ ∀ o, o < 11 → (mk f t).testBit o = decide (f ≤ o ∧ o ≤ t) := by decide +kernel
theorem has_bit {b o : Nat} (hb : b < 2048) (ho : o < 11) : f_X12_has (nI b) (nI o) = b.testBit o := by
  unfold f_X12_has
  rw [pk_shrN (by omega) _ o (by
    have : ∀ o, o < 11 → ((nI o &&& 31).toBitVec.smod 32).toNat = o := by decide +kernel
    exact this o ho), pk_andN (by have := Nat.div_le_self b (2 ^ o); omega) 1 (by decide), Nat.testBit_eq_decide_div_mod_eq]
  rcases (show b / 2 ^ o % 2 ^ 1 = 0 ∨ b / 2 ^ o % 2 ^ 1 = 1 by omega) with h | h
  · rw [h]; rfl
  · rw [h]; rfl
theorem in_bit {o f t : Nat} (ho : o < 11) (hf : f < 11) (ht : t < 11) : f_X12_in (nI o) (nI f) (nI t) = decide (f ≤ o ∧ o ≤ t) := by
  by_cases h : f ≤ o ∧ o ≤ t
  · rw [decide_eq_true h]
    exact (in_c _ _ _).mpr ⟨(le_nI (by omega) (by omega)).mpr h.1, (le_nI (by omega) (by omega)).mpr h.2⟩
  · rw [decide_eq_false h]
    cases q : f_X12_in (nI o) (nI f) (nI t)
    · rfl
    · have := (in_c _ _ _).mp q
      exact absurd ⟨(le_nI (by omega) (by omega)).mp this.1, (le_nI (by omega) (by omega)).mp this.2⟩ h
theorem turned {b f t : Nat} (hb : b < 2048) (hf : f < 11) (ht : t < 11) (hft : f ≤ t) : f_J6_bitCount_0f7a4 (nI b ^^^ ((((1 : Int32) <<< ((nI t - nI f + 1) &&& 31)) - 1) <<< (nI f &&& 31))) = nI (tn b f t) := by
  obtain ⟨h1, h2, h3⟩ := mk_all f hf t ht hft
  have hx : nI b ^^^ nI (mk f t) = nI (b ^^^ mk f t) := by
    apply Int32.toBitVec_inj.mp
    show BitVec.ofNat 32 b ^^^ BitVec.ofNat 32 (mk f t) = BitVec.ofNat 32 (b ^^^ mk f t)
    apply BitVec.eq_of_toNat_eq
    simp [BitVec.toNat_ofNat, BitVec.toNat_xor]
  rw [h2, hx, bc_all _ (Nat.xor_lt_two_pow (n := 11) hb h1)]
  unfold tn
  congr 1
  refine ctn_congr 11 (fun o ho => ?_)
  rw [Nat.testBit_xor, h3 o ho, has_bit hb ho, in_bit ho hf ht]
  cases b.testBit o <;> cases decide (f ≤ o ∧ o ≤ t) <;> rfl
abbrev T3 : Type := Int32 × Int32 × Int32
def upT (x f t : Int32) (T : T3) : T3 := if T.1 ≤ x then T else (x, f, t)
def iF (b f : Nat) : Nat → T3 → T3
  | 0, T => T
  | m + 1, T => iF b f m (upT (nI (tn b f (f + m))) (nI f) (nI (f + m)) T)
def oF (b : Nat) : Nat → T3 → T3
  | 0, T => T
  | f + 1, T => iF b f (11 - f) (oF b f T)
theorem ln_in {D : Mem} {r b : Nat} (hr : r < 12) (hb : b < 2048) (e : D 8 r = nI b) {f t : Nat} (hf : f < 11) (ht : t < 11) (kx : Int32 → Option Int32) : L_X12_lineNow_36 (nI r) (nI f) (nI t) D kx FU 0 0 = kx (nI (tn b f t)) := by
  unfold tn
  refine up_FU (N := 11) (by decide) (fun fu a i => L_X12_lineNow_36 (nI r) (nI f) (nI t) D kx fu a i) (fun k => nI (ctn (fun o => decide (¬ b2i (f_X12_has (nI b) (nI o)) = b2i (f_X12_in (nI o) (nI f) (nI t)))) k)) _ (fun fu => ?_) (fun fu k hk => ?_)
  · show L_X12_lineNow_36 (nI r) (nI f) (nI t) D kx (fu + 1) _ (nI 11) = _
    rw [L_X12_lineNow_36, if_pos (show (11 : Int32) ≤ nI 11 from Int32.le_refl _)]
  · show L_X12_lineNow_36 (nI r) (nI f) (nI t) D kx (fu + 1) _ (nI k) = L_X12_lineNow_36 (nI r) (nI f) (nI t) D kx fu _ (nI (k + 1))
    rw [L_X12_lineNow_36, show (11 : Int32) = nI 11 from rfl, if_neg (by rw [le_nI (by omega) (by omega)]; omega), gdn hr (by decide), cl_nI (by omega), e]
    unfold B_X12_lineNow_73 lt_
    simp only [ctn, nI_1]
    by_cases h : b2i (f_X12_has (nI b) (nI k)) = b2i (f_X12_in (nI k) (nI f) (nI t))
    · simp [h]
    · simp [h]
theorem nlt_dn {f : Nat} (hf : f ≤ 1000) : nI f + (-1) < nI f := by
  rw [Int32.lt_iff_toInt_lt, Int32.toInt_add, nI_toInt (by omega), show (-1 : Int32).toInt = -1 from by decide, Int.bmod_eq_of_le (by omega) (by omega)]
  omega
theorem ln_mid {D : Mem} {r b : Nat} (hr : r < 12) (hb : b < 2048) (e : D 8 r = nI b) {f : Nat} (hf : f < 11) (kx : Int32 → Int32 → Int32 → Option Int32) : ∀ m, f + m ≤ 11 → ∀ fu T, m < fu → L_X12_lineNow_23 (nI r) (nI f) D kx fu T.1 T.2.1 T.2.2 (nI (f + m) + (-1)) = kx (iF b f m T).1 (iF b f m T).2.1 (iF b f m T).2.2 := by
  intro m
  induction m with
  | zero =>
    intro hm fu T hfu
    obtain ⟨fu, rfl⟩ : ∃ g, fu = g + 1 := ⟨fu - 1, by omega⟩
    rw [L_X12_lineNow_23, Nat.add_zero, if_pos (nlt_dn (by omega))]
    rfl
  | succ m ih =>
    intro hm fu T hfu
    obtain ⟨fu, rfl⟩ : ∃ g, fu = g + 1 := ⟨fu - 1, by omega⟩
    rw [L_X12_lineNow_23, ← Nat.add_assoc, pk_m1, if_neg (by rw [lt_nI (by omega) (by omega)]; omega), ln_in hr hb e hf (by omega)]
    unfold B_X12_lineNow_99 lt_
    have hs := ih (by omega) fu (upT (nI (tn b f (f + m))) (nI f) (nI (f + m)) T) (by omega)
    rw [iF, ← hs]
    unfold upT
    split <;> rfl
theorem ln_out {D : Mem} {r b : Nat} (hr : r < 12) (hb : b < 2048) (e : D 8 r = nI b) (T : T3) (kx : Int32 → Int32 → Int32 → Option Int32) : L_X12_lineNow_12 (nI r) D kx FU T.1 T.2.1 T.2.2 0 = kx (oF b 11 T).1 (oF b 11 T).2.1 (oF b 11 T).2.2 := by
  have hF := FU_ge
  refine up_FU (N := 11) (by decide) (fun fu (a : T3) i => L_X12_lineNow_12 (nI r) D kx fu a.1 a.2.1 a.2.2 i) (fun k => oF b k T) _ (fun fu => ?_) (fun fu k hk => ?_)
  · show L_X12_lineNow_12 (nI r) D kx (fu + 1) _ _ _ (nI 11) = _
    rw [L_X12_lineNow_12, if_pos (show (11 : Int32) ≤ nI 11 from Int32.le_refl _)]
  · show L_X12_lineNow_12 (nI r) D kx (fu + 1) _ _ _ (nI k) = L_X12_lineNow_12 (nI r) D kx fu _ _ _ (nI (k + 1))
    rw [L_X12_lineNow_12, show (11 : Int32) = nI 11 from rfl, if_neg (by rw [le_nI (by omega) (by omega)]; omega)]
    have h := ln_mid hr hb e hk (fun v3 v4 v5 => lt_ (nI k + 1) (fun v6 => L_X12_lineNow_12 (nI r) D kx fu v3 v4 v5 v6)) (11 - k) (by omega) FU (oF b k T) (by omega)
    rw [show k + (11 - k) = 11 by omega, show nI 11 + (-1) = (10 : Int32) from rfl] at h
    rw [h]
    unfold lt_
    rw [nI_1]
    rfl
def MT (C : Mem) (T : T3) : Mem := up2 C 14 (upd (upd (upd (C 14) 4 T.1) 5 T.2.1) 6 T.2.2)
theorem MT_4 (C : Mem) (T : T3) : MT C T 14 4 = T.1 := rfl
theorem MT_st (C : Mem) (T : T3) (a b c : Int32) : st2 (st2 (st2 (MT C T) 14 4 a) 14 5 b) 14 6 c = MT C (a, b, c) := by
  unfold MT st2
  simp only [up2_up2, up2_s]
  congr 1
  funext j
  unfold upd
  by_cases h4 : j = 4 <;> by_cases h5 : j = 5 <;> by_cases h6 : j = 6 <;> simp [h4, h5, h6]
theorem mend_mid {C : Mem} {r b : Nat} (hr : r < 12) (hb : b < 2048) (e : C 16 r = nI b) {f : Nat} (hf : f < 11) (kx : Mem → Option Mem) : ∀ m, f + m ≤ 11 → ∀ fu T, m < fu → L_X6_mend_17 (nI r) (nI f) kx fu (nI (f + m) + (-1)) (MT C T) = kx (MT C (iF b f m T)) := by
  intro m
  induction m with
  | zero =>
    intro hm fu T hfu
    obtain ⟨fu, rfl⟩ : ∃ g, fu = g + 1 := ⟨fu - 1, by omega⟩
    rw [L_X6_mend_17, Nat.add_zero, if_pos (nlt_dn (by omega))]
    rfl
  | succ m ih =>
    intro hm fu T hfu
    obtain ⟨fu, rfl⟩ : ∃ g, fu = g + 1 := ⟨fu - 1, by omega⟩
    rw [L_X6_mend_17, ← Nat.add_assoc, pk_m1, if_neg (by rw [lt_nI (by omega) (by omega)]; omega)]
    unfold B_X6_mend_74
    simp only [lt_, sto]
    rw [gdn hr (by decide), cl_nI (by omega), show MT C T 16 r = nI b from e, turned hb hf (by omega) (by omega), MT_4, MT_st]
    have hs := ih (by omega) fu (upT (nI (tn b f (f + m))) (nI f) (nI (f + m)) T) (by omega)
    rw [iF, ← hs]
    unfold upT
    split <;> rfl
theorem mend_C {C : Mem} {r b : Nat} (hr : r < 12) (hb : b < 2048) (e : C 16 r = nI b) : f_X6_mend (nI r) C = some (MT C (oF b 11 (12, C 14 5, C 14 6))) := by
  have hF := FU_ge
  unfold f_X6_mend sto
  have h := up_FU (N := 11) (by decide) (fun fu a i => L_X6_mend_8 (nI r) (fun c => some c) fu i a) (fun k => MT C (oF b k (12, C 14 5, C 14 6))) (some (MT C (oF b 11 (12, C 14 5, C 14 6)))) (fun fu => ?_) (fun fu k hk => ?_)
  · have e0 : MT C (oF b 0 (12, C 14 5, C 14 6)) = st2 C 14 4 12 := by
      unfold MT st2 oF
      congr 1
      funext j
      unfold upd
      by_cases h4 : j = 4 <;> by_cases h5 : j = 5 <;> by_cases h6 : j = 6 <;> simp [h4, h5, h6]
    rw [e0] at h
    exact h
  · show L_X6_mend_8 (nI r) _ (fu + 1) (nI 11) _ = _
    rw [L_X6_mend_8, if_pos (show (11 : Int32) ≤ nI 11 from Int32.le_refl _)]
  · show L_X6_mend_8 (nI r) _ (fu + 1) (nI k) _ = L_X6_mend_8 (nI r) _ fu (nI (k + 1)) _
    rw [L_X6_mend_8, show (11 : Int32) = nI 11 from rfl, if_neg (by rw [le_nI (by omega) (by omega)]; omega)]
    have h := mend_mid (C := C) hr hb e hk (fun c => lt_ (nI k + 1) (fun v2 => L_X6_mend_8 (nI r) (fun c => some c) fu v2 c)) (11 - k) (by omega) FU (oF b k (12, C 14 5, C 14 6)) (by omega)
    rw [show k + (11 - k) = 11 by omega, show nI 11 + (-1) = (10 : Int32) from rfl] at h
    rw [h]
    unfold lt_
    rw [nI_1]
    rfl
theorem oF_start (b : Nat) (x y : Int32) : oF b 11 (12, x, y) = oF b 11 (99, 0, 0) := by
  have e1 : oF b 1 (12, x, y) = oF b 1 (99, 0, 0) := by
    show iF b 0 10 (upT _ _ _ (12, x, y)) = iF b 0 10 (upT _ _ _ (99, 0, 0))
    have h : tn b 0 (0 + 10) ≤ 11 := ctn_le _ 11
    unfold upT
    rw [if_neg (show ¬ (12 : Int32) ≤ nI (tn b 0 (0 + 10)) from fun q => by
      have := (le_nI (a := 12) (by decide) (by omega)).mp q
      omega), if_neg (show ¬ (99 : Int32) ≤ nI (tn b 0 (0 + 10)) from fun q => by
      have := (le_nI (a := 99) (by decide) (by omega)).mp q
      omega)]
  have key : ∀ m, oF b (m + 1) (12, x, y) = oF b (m + 1) (99, 0, 0) := by
    intro m
    induction m with
    | zero => exact e1
    | succ m ih => rw [oF, ih]; rfl
  exact key 10
theorem Kp14 {C : Mem} (T : T3) : Kp C (MT C T) := ⟨fun k hk => up2_n _ _ (fun e => by rw [e] at hk; cases hk), rfl, rfl⟩
theorem line_both {C D : Mem} (hI : Inv C D) {r : Nat} (hr : ∃ n, n ≤ 12 ∧ D 0 9 = nI n ∧ r < n) (w : Int32) : ∃ (x : Int32) (C1 : Mem), Option.bind (f_X6_mend (nI r) C) (fun C_27 => (if w = 0 then some ((C_27 14 4), C_27) else (if w = 1 then some ((C_27 14 5), C_27) else some ((C_27 14 6), C_27)))) = some (x, C1) ∧ f_X12_lineNow (nI r) w D = some x ∧ Inv C1 D := by
  obtain ⟨n, hn, e1, e2, hp⟩ := hI.2.1
  obtain ⟨n', hn', e2', hr'⟩ := hr
  have : n' = n := (eq_nI (by omega) (by omega)).mp (e2'.symm.trans e2)
  subst this
  obtain ⟨-, h16, b, hb, e8⟩ := hp r hr'
  rw [mend_C (by omega) hb (h16.trans e8), bnd_e, oF_start]
  unfold f_X12_lineNow
  rw [ln_out (by omega) hb e8 (99, 0, 0)]
  refine ⟨if w = 0 then (oF b 11 (99, 0, 0)).1 else if w = 1 then (oF b 11 (99, 0, 0)).2.1 else (oF b 11 (99, 0, 0)).2.2, MT C (oF b 11 (99, 0, 0)), ?_, ?_, hI.keepC (Kp14 _)⟩
  · split
    · rfl
    · split <;> rfl
  · split
    · rfl
    · split <;> rfl
theorem ok_line {C D : Mem} (hI : Inv C D) (a1 : Int32) (a2 : Int32) : ∃ (r : Int32) (C1 : Mem), f_X11_line a1 a2 C = some (r, C1) ∧ f_X12_line a1 a2 D = some r ∧ Inv C1 D := by
  obtain ⟨n, hn, e1, e2, hp⟩ := hI.2.1
  unfold f_X11_line f_X12_line f_X6_has
  rw [e1, hasG (by omega), e2, show f_X11_isWithin a2 2 = f_X12_in a2 0 2 from rfl, bnd_id]
  by_cases h1 : f_X12_in a1 0 (nI n - 1) = true
  · by_cases h2 : f_X12_in a2 0 2 = true
    · rw [if_pos h1, if_pos h1, if_pos h2, if_pos h2]
      obtain ⟨r, hr, rfl⟩ := in_lt (by omega) h1
      exact line_both hI ⟨n, hn, e2, hr⟩ a2
    · exact ⟨_, C, by rw [if_pos h1, if_neg h2], by rw [if_pos h1, if_neg h2], hI⟩
  · exact ⟨_, C, by rw [if_neg h1], by rw [if_neg h1], hI⟩
