/-! reckon, how, temper -/
theorem reckon_both {C D : Mem} (hI : Inv C D) (v : Int32) {w : Nat} (hw : w ≤ 5) : ∃ (r : Int32) (C1 D1 : Mem), (if (f_X2_faultPlace C) = (-1) then (if nI w = 4 then some ((C 22 12), C) else (if nI w = 5 then some (((C 22 11) - (C 22 12)), C) else Option.bind (f_X2_solve v C) (fun C_73 => (if nI w = 3 then Option.bind (f_X2_wayLength C_73) (fun r_85 => some (r_85, C_73)) else Option.bind (f_X2_gets (nI w) C_73) (fun r_96 => some (r_96, C_73)))))) else some ((-3), C)) = some (r, C1) ∧ f_X12_reckonNow v (nI w) D = some (r, D1) ∧ Inv C1 D1 := by
  obtain ⟨r0, D0, e1, e2, hI0, hS⟩ := fault_both hI
  unfold f_X12_reckonNow B_X12_reckonNow_62
  rw [e1, e2, bnd2_e]
  by_cases q : r0 = -1
  · obtain ⟨n, N, hS, hn⟩ := hS q
    rw [if_pos q, if_pos q]
    obtain ⟨P, E, Tk, En, s1, s2, hR⟩ := solve_both hn hS v
    have hS' := S4_KM hS P E Tk En
    obtain ⟨⟨h7, h8, h10, h11⟩, h9, hN1, hN2, hT, hH, hE, hA, -⟩ := id hS
    obtain ⟨⟨-, -, -, -⟩, -, -, -, hT', -, -, hA', -⟩ := id hS'
    have hF := FU_ge
    have hIC : Inv (KM C 28 29 P E) (KM D0 17 16 Tk En) := hI0.keep (Kp_KM C P E) (Km_KM D0 Tk En)
    have hID : Inv C (KM D0 17 16 Tk En) := hI0.keep (Kp.rf C) (Km_KM D0 Tk En)
    obtain ⟨l1, l2⟩ := letters_D (show N ≤ 60 by omega) hT' hA'
    have e23 : KM C 28 29 P E 23 = C 23 := KM_o C (by decide) (by decide) _ _
    rw [e23] at l1 l2
    have hle := ctn_le (fun i => decide (C 23 i = -1)) N
    rw [s1, s2, bnd_e, bnd_e]
    rcases (show w ≤ 2 ∨ w = 3 ∨ w = 4 ∨ w = 5 by omega) with z | z | z | z
    · rw [if_neg (show ¬ nI w = (4 : Int32) from fun y => by have := (eq_nI (b := 4) (by omega) (by decide)).mp y; omega), if_neg (show ¬ nI w = (5 : Int32) from fun y => by have := (eq_nI (b := 5) (by omega) (by decide)).mp y; omega), if_neg (show ¬ nI w = (3 : Int32) from fun y => by have := (eq_nI (b := 3) (by omega) (by decide)).mp y; omega), if_neg (show ¬ (3 : Int32) ≤ nI w from fun y => by have := (le_nI (a := 3) (by decide) (by omega)).mp y; omega)]
      obtain ⟨-, x2, e, x3, x4, x5⟩ := hR.1 0 (by omega) (by omega)
      unfold f_X2_gets
      have ez : (0 : Int32).toNatClampNeg = 0 := by decide
      rw [ez, KM_b, KM_b, x2, x4, gd_t (show inb 0 60 = true by decide), gd_t (show inb 0 60 = true by decide), ix3_c, ix3_d, gdn (show 3 * e + w < 180 by omega) (by decide), gdn (show 3 * e + w < 180 by omega) (by decide), cl_nI (show 3 * e + w ≤ 1000000 by omega), bnd_e, KM_o C (k := 27) (by decide) (by decide), KM_o D0 (k := 18) (by decide) (by decide), (hA.2 e x3).2.2.2.2.2 x5 w (by omega)]
      exact ⟨_, _, _, rfl, rfl, hIC⟩
    · subst z
      obtain ⟨r, -, -, w1, w2, -⟩ := way_both hn hS hR N 0 0 (by omega) (by omega) (by omega)
      rw [if_neg (show ¬ nI 3 = (4 : Int32) by decide), if_neg (show ¬ nI 3 = (5 : Int32) by decide), if_pos (show nI 3 = (3 : Int32) from rfl), if_pos (show (3 : Int32) ≤ nI 3 by decide), if_pos (show nI 3 = (3 : Int32) from rfl)]
      rw [show f_X2_wayLength (KM C 28 29 P E) = some (nI r) from w1 FU (by omega), show f_X12_wayOf (KM D0 17 16 Tk En) = some (nI r) from w2 FU (by omega), bnd_e, bnd_e]
      exact ⟨_, _, _, rfl, rfl, hIC⟩
    · subst z
      rw [if_pos (show nI 4 = (4 : Int32) from rfl), if_pos (show (3 : Int32) ≤ nI 4 by decide), if_neg (show ¬ nI 4 = (3 : Int32) by decide), if_pos (show nI 4 = (4 : Int32) from rfl), l1, bnd_e, hE]
      exact ⟨_, _, _, rfl, rfl, hID⟩
    · subst z
      rw [if_neg (show ¬ nI 5 = (4 : Int32) by decide), if_pos (show nI 5 = (5 : Int32) from rfl), if_pos (show (3 : Int32) ≤ nI 5 by decide), if_neg (show ¬ nI 5 = (3 : Int32) by decide), if_neg (show ¬ nI 5 = (4 : Int32) by decide), l2, bnd_e, hE, h11, pk_sub hle]
      exact ⟨_, _, _, rfl, rfl, hID⟩
  · rw [if_neg q, if_neg q]
    exact ⟨-3, C, D0, rfl, rfl, hI0⟩
theorem ok_reckon {C D : Mem} (hI : Inv C D) (a1 : Int32) (a2 : Int32) : ∃ (r : Int32) (C1 : Mem) (D1 : Mem), f_X11_reckon a1 a2 C = some (r, C1) ∧ f_X12_reckon a1 a2 D = some (r, D1) ∧ Inv C1 D1 := by
  unfold f_X11_reckon f_X12_reckon
  rw [wi_in, wi_in, bnd2_id]
  by_cases h1 : f_X12_in a1 0 40 = true
  · by_cases h2 : f_X12_in a2 0 5 = true
    · rw [if_pos h1, if_pos h1, if_pos h2, if_pos h2]
      obtain ⟨w, hw, rfl⟩ := in_nI (n := 5) rfl (by decide) h2
      exact reckon_both hI a1 hw
    · exact ⟨-2, C, D, by rw [if_pos h1, if_neg h2], by rw [if_pos h1, if_neg h2], hI⟩
  · exact ⟨-2, C, D, by rw [if_neg h1], by rw [if_neg h1], hI⟩
theorem ok_how {C D : Mem} (hI : Inv C D) (a1 : Int32) (a2 : Int32) : ∃ (r : Int32) (C1 : Mem) (D1 : Mem), f_X11_how a1 a2 C = some (r, C1) ∧ f_X12_how a1 a2 D = some (r, D1) ∧ Inv C1 D1 := by
  unfold f_X11_how f_X12_how
  rw [wi_in]
  by_cases h1 : f_X12_in a1 0 40 = true
  · by_cases h2 : 0 ≤ a2
    · rw [if_pos h1, if_pos h1, if_pos h2, if_pos h2]
      obtain ⟨a, ha, rfl⟩ := nI_of (x := a2) (Int32.not_lt.mpr h2)
      obtain ⟨r0, D0, e1, e2, hI0, hS⟩ := fault_both hI
      rw [e1, e2, bnd2_e]
      by_cases q : r0 = -1
      · obtain ⟨n, N, hS, hn⟩ := hS q
        rw [if_pos q, if_pos q]
        obtain ⟨P, E, Tk, En, s1, s2, hR⟩ := solve_both hn hS a1
        have hN1 := hS.2.2.1
        have hF := FU_ge
        have hIC : Inv (KM C 28 29 P E) (KM D0 17 16 Tk En) := hI0.keep (Kp_KM C P E) (Km_KM D0 Tk En)
        have hN2 := hS.2.2.2.1
        obtain ⟨r, -, r2, -, w2, w3⟩ := way_both hn hS hR N 0 0 (by omega) (by omega) (by omega)
        obtain ⟨y1, y2⟩ := w3 a (by omega) ha
        rw [s1, s2, bnd_e, bnd_e, show f_X12_wayOf (KM D0 17 16 Tk En) = some (nI r) from w2 FU (by omega), bnd_e]
        by_cases z : a < r
        · obtain ⟨x, x1, x2⟩ := y1 z
          rw [if_pos ((nI_ltI ha (by omega)).mpr z), show f_X2_choiceAt (nI a) (KM C 28 29 P E) = some x from x1 FU (by omega), bnd_e]
          exact ⟨_, _, _, rfl, x2 FU (by omega), hIC⟩
        · rw [if_neg (by rw [nI_ltI ha (by omega)]; exact z), show f_X2_choiceAt (nI a) (KM C 28 29 P E) = some (-1) from y2 (by omega) FU (by omega), bnd_e]
          exact ⟨_, _, _, rfl, rfl, hIC⟩
      · rw [if_neg q, if_neg q]
        exact ⟨-3, C, D0, rfl, rfl, hI0⟩
    · exact ⟨-2, C, D, by rw [if_pos h1, if_neg h2], by rw [if_pos h1, if_neg h2], hI⟩
  · exact ⟨-2, C, D, by rw [if_neg h1], by rw [if_neg h1], hI⟩
theorem temper_in {n N : Nat} (hn : n ≤ 60) (e0 : Int32) : ∀ m k fuel (C D : Mem), k + m = 41 → m < fuel → Inv C D → S4 n C D N none → ∃ r C1 D1, L_X2_leastAngerThatMatters_14 e0 (fun c => some ((-1), c)) fuel (nI k) C = some (r, C1) ∧ L_X12_temperNow_25 e0 (fun c => some ((-1), c)) fuel (nI k) D = some (r, D1) ∧ Inv C1 D1
  | 0, k, fuel, C, D, h1, h2, hI, hS => by
    obtain ⟨f, rfl⟩ : ∃ f, fuel = f + 1 := ⟨fuel - 1, by omega⟩
    have e : k = 41 := by omega
    subst e
    rw [L_X2_leastAngerThatMatters_14, L_X12_temperNow_25, if_pos (show (40 : Int32) < nI 41 by decide), if_pos (show (41 : Int32) ≤ nI 41 by decide)]
    exact ⟨_, _, _, rfl, rfl, hI⟩
  | m + 1, k, fuel, C, D, h1, h2, hI, hS => by
    obtain ⟨f, rfl⟩ : ∃ f, fuel = f + 1 := ⟨fuel - 1, by omega⟩
    obtain ⟨P, E, Tk, En, s1, s2, hR⟩ := solve_both hn hS (nI k)
    have hN1 := hS.2.2.1
    have ez : (0 : Int32).toNatClampNeg = 0 := by decide
    obtain ⟨-, x2, -⟩ := hR.1 0 (by omega) (by omega)
    have hIC : Inv (KM C 28 29 P E) (KM D 17 16 Tk En) := hI.keep (Kp_KM C P E) (Km_KM D Tk En)
    rw [L_X2_leastAngerThatMatters_14, L_X12_temperNow_25, if_neg (show ¬ (40 : Int32) < nI k from fun q => by have := (lt_nI (a := 40) (by decide) (by omega)).mp q; omega), if_neg (show ¬ (41 : Int32) ≤ nI k from fun q => by have := (le_nI (a := 41) (by decide) (by omega)).mp q; omega), s1, s2, bnd_e, bnd_e, gd_t (by decide), gd_t (by decide), ez, KM_b, KM_b, x2, lt_e, lt_e, nI_1]
    by_cases q : E 0 = e0
    · rw [if_pos q, if_pos q]
      exact temper_in hn e0 m (k + 1) f _ _ (by omega) (by omega) hIC (S4_KM hS P E Tk En)
    · rw [if_neg q, if_neg q]
      exact ⟨_, _, _, rfl, rfl, hIC⟩
theorem temper_both {C D : Mem} (hI : Inv C D) : ∃ (r : Int32) (C1 D1 : Mem), f_X11_temper C = some (r, C1) ∧ f_X12_temperNow D = some (r, D1) ∧ Inv C1 D1 := by
  unfold f_X11_temper f_X12_temperNow f_X2_leastAngerThatMatters
  rw [bnd2_id]
  obtain ⟨r0, D0, e1, e2, hI0, hS⟩ := fault_both hI
  rw [e1, e2, bnd2_e]
  by_cases q : r0 = -1
  · obtain ⟨n, N, hS, hn⟩ := hS q
    rw [if_pos q, if_pos q]
    obtain ⟨P, E, Tk, En, s1, s2, hR⟩ := solve_both hn hS 0
    have hN1 := hS.2.2.1
    have ez : (0 : Int32).toNatClampNeg = 0 := by decide
    obtain ⟨-, x2, -⟩ := hR.1 0 (by omega) (by omega)
    have hIC : Inv (KM C 28 29 P E) (KM D0 17 16 Tk En) := hI0.keep (Kp_KM C P E) (Km_KM D0 Tk En)
    rw [s1, s2, bnd_e, bnd_e, gd_t (by decide), gd_t (by decide), ez, KM_b, KM_b, x2, lt_e, lt_e]
    exact temper_in hn (E 0) 40 1 FU _ _ rfl (by have := FU_ge; omega) hIC (S4_KM hS P E Tk En)
  · rw [if_neg q, if_neg q]
    exact ⟨-3, C, D0, rfl, rfl, hI0⟩
theorem ok_temper {C D : Mem} (hI : Inv C D) : ∃ (r : Int32) (C1 : Mem) (D1 : Mem), f_X11_temper C = some (r, C1) ∧ f_X12_temper D = some (r, D1) ∧ Inv C1 D1 := by
  unfold f_X12_temper
  rw [bnd2_id]
  exact temper_both hI
