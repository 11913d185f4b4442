/-! what is asked of a solved game -/
theorem KM_self (C : Mem) {a b : Nat} (h : a ≠ b) (P : Nat → Int32) : KM C a b P (C b) = up2 C a P := by
  unfold KM
  have e : (up2 C a P) b = C b := up2_n _ _ (Ne.symm h)
  rw [← e, up2_self]
theorem solve_both {C D : Mem} {n N : Nat} (hn : n ≤ 60) (hS : S4 n C D N none) (v : Int32) : ∃ P E Tk En, f_X2_solve v C = some (KM C 28 29 P E) ∧ f_X12_reckons v D = some (KM D 17 16 Tk En) ∧ RZ C N v 0 P E Tk En := by
  obtain ⟨⟨h7, h8, h10, h11⟩, h9, hN1, hN2, hT, hH, hE, hA, -⟩ := hS
  have hF := FU_ge
  obtain ⟨P, E, Tk, En, e1, e2, hR⟩ := solve_in (show N ≤ 60 by omega) hT hH hA v (fun c => some c) (fun c => some c) N FU FU (fil 60 (-1) (C 28)) (C 29) (D 17) (D 16) (Nat.le_refl _) (by omega) (by omega) ⟨fun i i1 i2 => by omega, fun i hi => ⟨none, by unfold fil; rw [if_pos (show i < 60 by omega)]; rfl, Or.inl ⟨rfl, fun j j1 j2 => by omega⟩⟩⟩
  refine ⟨P, E, Tk, En, ?_, ?_, hR⟩
  · unfold f_X2_solve
    rw [fill_C 28 60 (by decide), bnd_e, lt_e, up2_n _ _ (show 22 ≠ 28 by decide), h11, Int32.sub_eq_add_neg]
    rw [KM_self C (by decide)] at e1
    exact e1
  · unfold f_X12_reckons
    rw [lt_e, hA.1, Int32.sub_eq_add_neg]
    rw [KM_self D (by decide), up2_self] at e2
    exact e2
theorem S4_KM {C D : Mem} {n N : Nat} (hS : S4 n C D N none) (P E Tk En : Nat → Int32) : S4 n (KM C 28 29 P E) (KM D 17 16 Tk En) N none := by
  unfold S4 SB TN TH TE AG at hS ⊢
  rw [KM_o C (k := 22) (by decide) (by decide), KM_o C (k := 23) (by decide) (by decide), KM_o C (k := 24) (by decide) (by decide), KM_o C (k := 25) (by decide) (by decide), KM_o C (k := 26) (by decide) (by decide), KM_o C (k := 27) (by decide) (by decide), KM_o D (k := 0) (by decide) (by decide), KM_o D (k := 12) (by decide) (by decide), KM_o D (k := 13) (by decide) (by decide), KM_o D (k := 14) (by decide) (by decide), KM_o D (k := 15) (by decide) (by decide), KM_o D (k := 18) (by decide) (by decide)]
  exact hS
theorem Kp_KM (C : Mem) (P E : Nat → Int32) : Kp C (KM C 28 29 P E) := (Kp.up _ rfl (by decide) (by decide)).tr (Kp.up _ rfl (by decide) (by decide))
theorem Km_KM (D : Mem) (P E : Nat → Int32) : Km D (KM D 17 16 P E) := (Km.up _ rfl (by decide)).tr (Km.up _ rfl (by decide))
/-- the way from node i at depth c -/
theorem way_both {C D : Mem} {n N : Nat} (hn : n ≤ 60) (hS : S4 n C D N none) {v : Int32} {P E Tk En : Nat → Int32} (hR : RZ C N v 0 P E Tk En) : ∀ m i c, i + m = N → 0 < m → c ≤ i → ∃ r, c ≤ r ∧ r ≤ N ∧ (∀ f, m < f → L_X2_wayLength_6 (KM C 28 29 P E) (fun x => some x) f (nI c) (nI i) (nI c) = some (nI r)) ∧ (∀ f, m < f → L_X12_wayOf_4 (KM D 17 16 Tk En) (fun x => some x) f (nI c) (nI i) = some (nI r)) ∧ ∀ a, c ≤ a → a < 2 ^ 31 → (a < r → ∃ x, (∀ f, m < f → L_X2_choiceAt_4 (nI a) (KM C 28 29 P E) (some (-1)) f (nI i) (nI c) = some x) ∧ ∀ f, m < f → L_X12_how_48 (nI a) (KM D 17 16 Tk En) (fun (v3_67 : Int32) => gd (inb v3_67 60) (gd (inb (KM D 17 16 Tk En 17 v3_67.toNatClampNeg) 60) (some ((KM D 17 16 Tk En 14 (KM D 17 16 Tk En 17 v3_67.toNatClampNeg).toNatClampNeg), KM D 17 16 Tk En)))) f (nI i) (nI c) = some (x, KM D 17 16 Tk En)) ∧ (r ≤ a → ∀ f, m < f → L_X2_choiceAt_4 (nI a) (KM C 28 29 P E) (some (-1)) f (nI i) (nI c) = some (-1)) := by
  obtain ⟨⟨h7, h8, h10, h11⟩, h9, hN1, hN2, hT, hH, hE, hA, -⟩ := hS
  intro m
  induction m using Nat.strongRecOn with
  | ind m ih =>
    intro i c h1 h2 h3
    have hi : i < N := by omega
    obtain ⟨o, eo, hB⟩ := hR.2 i hi
    have et : Tk i = P i := (hR.1 i (by omega) hi).1
    have ec : ∀ f, m < f → ∃ g, f = g + 1 := fun f hf => ⟨f - 1, by omega⟩
    have nc : ¬ nI N ≤ nI c := by rw [le_nI (by omega) (by omega)]; omega
    cases o with
    | none =>
      have eP : P i = -1 := eo
      refine ⟨c, Nat.le_refl _, by omega, fun f hf => ?_, fun f hf => ?_, fun a ha1 ha2 => ⟨fun q => by omega, fun _ f hf => ?_⟩⟩
      · obtain ⟨f, rfl⟩ := ec f hf
        rw [L_X2_wayLength_6, KM_o C (k := 22) (by decide) (by decide), h11, if_neg nc, gdn (by omega) (by decide), cl_nI (by omega), KM_a C (by decide), eP, if_pos rfl]
      · obtain ⟨f, rfl⟩ := ec f hf
        rw [L_X12_wayOf_4, gdn (by omega) (by decide), cl_nI (by omega), KM_a D (by decide), et, eP, if_pos rfl]
      · obtain ⟨f, rfl⟩ := ec f hf
        rw [L_X2_choiceAt_4, KM_o C (k := 22) (by decide) (by decide), h11, if_neg nc, gdn (by omega) (by decide), cl_nI (by omega), KM_a C (by decide), eP, if_pos rfl]
    | some b =>
      have eP : P i = nI b := eo
      obtain ⟨b1, b2, b3⟩ : i < b ∧ b < N ∧ C 24 b = nI i := by
        rcases hB with ⟨w, -⟩ | ⟨b', w, w1, w2, w3, -⟩
        · cases w
        · cases w
          refine ⟨?_, w2, w3⟩
          rcases (hT b w2).2.2.1 with ⟨-, y⟩ | ⟨j, j1, j2, -⟩
          · rw [y] at w3; exact absurd w3.symm (nI_n1 (by omega))
          · have : j = i := (eq_nI (by omega) (by omega)).mp (j2.symm.trans w3)
            omega
      obtain ⟨r, r1, r2, r3, r4, r5⟩ := ih (N - b) (by omega) b (c + 1) (by omega) (by omega) (by omega)
      have nb : ¬ nI b = -1 := nI_n1 (by omega)
      refine ⟨r, by omega, r2, fun f hf => ?_, fun f hf => ?_, fun a ha1 ha2 => ?_⟩
      · obtain ⟨f, rfl⟩ := ec f hf
        rw [L_X2_wayLength_6, KM_o C (k := 22) (by decide) (by decide), h11, if_neg nc, gdn (by omega) (by decide), cl_nI (by omega), KM_a C (by decide), eP, if_neg nb, lt_e, gdn (by omega) (by decide), lt_e, lt_e, nI_1]
        exact r3 f (by omega)
      · obtain ⟨f, rfl⟩ := ec f hf
        rw [L_X12_wayOf_4, gdn (by omega) (by decide), cl_nI (by omega), KM_a D (by decide), et, eP, if_neg nb, gdn (by omega) (by decide), lt_e, lt_e, nI_1]
        exact r4 f (by omega)
      · have cs : ∀ f, L_X2_choiceAt_4 (nI a) (KM C 28 29 P E) (some (-1)) (f + 1) (nI i) (nI c) = if nI c = nI a then some (C 25 b) else L_X2_choiceAt_4 (nI a) (KM C 28 29 P E) (some (-1)) f (nI b) (nI (c + 1)) := fun f => by
          rw [L_X2_choiceAt_4, KM_o C (k := 22) (by decide) (by decide), h11, if_neg nc, gdn (by omega) (by decide), cl_nI (by omega), KM_a C (by decide), eP, if_neg nb, gdn (by omega) (by decide), lt_e, lt_e, nI_1, gdn (by omega) (by decide), cl_nI (by omega), KM_o C (k := 25) (by decide) (by decide)]
        by_cases q : c = a
        · subst q
          refine ⟨fun _ => ⟨C 25 b, fun f hf => ?_, fun f hf => ?_⟩, fun z => by omega⟩
          · obtain ⟨f, rfl⟩ := ec f hf
            rw [cs, if_pos rfl]
          · obtain ⟨f, rfl⟩ := ec f hf
            rw [L_X12_how_48, if_pos (Int32.le_refl _), gdn (by omega) (by decide), cl_nI (by omega), KM_a D (by decide), et, eP, gdn (by omega) (by decide), cl_nI (by omega), KM_o D (k := 14) (by decide) (by decide), (hA.2 b b2).2.1 (by omega)]
        · have nq : ¬ nI c = nI a := fun z => q ((nI_eq (by omega) ha2).mp z)
          obtain ⟨s1, s2⟩ := r5 a (by omega) ha2
          refine ⟨fun z => ?_, fun z f hf => ?_⟩
          · obtain ⟨x, x1, x2⟩ := s1 z
            refine ⟨x, fun f hf => ?_, fun f hf => ?_⟩
            · obtain ⟨f, rfl⟩ := ec f hf
              rw [cs, if_neg nq]
              exact x1 f (by omega)
            · obtain ⟨f, rfl⟩ := ec f hf
              rw [L_X12_how_48, if_neg (by rw [nI_leI ha2 (by omega)]; omega), gdn (by omega) (by decide), cl_nI (by omega), lt_e, lt_e, KM_a D (by decide), et, eP, nI_1]
              have := x2 f (by omega)
              rw [KM_a D (by decide)] at this
              exact this
          · obtain ⟨f, rfl⟩ := ec f hf
            rw [cs, if_neg nq]
            exact s2 z f (by omega)
theorem letters_D {C D : Mem} {N : Nat} (hN : N ≤ 60) (hT : TN C N) (hA : AG C D N) : f_X12_lettersOf 1 D = some (nI (ctn (fun i => decide (C 23 i = -1)) N)) ∧ f_X12_lettersOf 0 D = some (nI (N - ctn (fun i => decide (C 23 i = -1)) N)) := by
  have d12 : ∀ i, i < N → (D 12 i = 3 ↔ C 23 i = -1) := fun i hi => by
    obtain ⟨-, -, -, a4, a5, -⟩ := hA.2 i hi
    rcases (hT i hi).1 with z | ⟨p, hp, z⟩
    · exact ⟨fun _ => z, fun _ => a4 z⟩
    · rw [a5 p hp z, z]
      exact ⟨fun q => by have := (eq_nI (b := 3) (by omega) (by decide)).mp q; omega, fun q => absurd q (nI_n1 (by omega))⟩
  constructor
  · unfold f_X12_lettersOf
    refine up_FU (N := N) (by omega) (fun f a i => L_X12_lettersOf_4 1 D (fun x => some x) f a i) (fun k => nI (ctn (fun i => decide (C 23 i = -1)) k)) _ (fun f => ?_) (fun f k hk => ?_)
    · show L_X12_lettersOf_4 1 D _ (f + 1) _ (nI N) = _
      rw [L_X12_lettersOf_4, hA.1, if_pos (Int32.le_refl _)]
    · show L_X12_lettersOf_4 1 D _ (f + 1) _ (nI k) = L_X12_lettersOf_4 1 D _ f _ (nI (k + 1))
      rw [L_X12_lettersOf_4, hA.1, if_neg (by rw [le_nI (by omega) (by omega)]; omega), gdn (by omega) (by decide), cl_nI (by omega)]
      unfold B_X12_lettersOf_28 B_X12_lettersOf_37
      rw [lt_e, lt_e, lt_e, lt_e, nI_1 k, ctn_s]
      by_cases q : C 23 k = -1
      · rw [if_pos ((d12 k hk).mpr q), if_pos rfl, if_pos (decide_eq_true q), nI_1]
      · rw [if_neg (fun z => q ((d12 k hk).mp z)), if_neg (by decide), if_neg (by simpa using q), Int32.add_zero]
        rfl
  · unfold f_X12_lettersOf
    refine up_FU (N := N) (by omega) (fun f a i => L_X12_lettersOf_4 0 D (fun x => some x) f a i) (fun k => nI (k - ctn (fun i => decide (C 23 i = -1)) k)) _ (fun f => ?_) (fun f k hk => ?_)
    · show L_X12_lettersOf_4 0 D _ (f + 1) _ (nI N) = _
      rw [L_X12_lettersOf_4, hA.1, if_pos (Int32.le_refl _)]
    · show L_X12_lettersOf_4 0 D _ (f + 1) _ (nI k) = L_X12_lettersOf_4 0 D _ f _ (nI (k + 1))
      have hle := ctn_le (fun i => decide (C 23 i = -1)) k
      rw [L_X12_lettersOf_4, hA.1, if_neg (by rw [le_nI (by omega) (by omega)]; omega), gdn (by omega) (by decide), cl_nI (by omega)]
      unfold B_X12_lettersOf_28 B_X12_lettersOf_37
      rw [lt_e, lt_e, lt_e, lt_e, nI_1 k, ctn_s]
      by_cases q : C 23 k = -1
      · rw [if_pos ((d12 k hk).mpr q), if_neg (by decide), if_pos (decide_eq_true q), Int32.add_zero, show k + 1 - (ctn (fun i => decide (C 23 i = -1)) k + 1) = k - ctn (fun i => decide (C 23 i = -1)) k by omega]
      · rw [if_neg (fun z => q ((d12 k hk).mp z)), if_pos rfl, if_neg (by simpa using q), nI_1, show k + 1 - (ctn (fun i => decide (C 23 i = -1)) k + 0) = k - ctn (fun i => decide (C 23 i = -1)) k + 1 by omega]
