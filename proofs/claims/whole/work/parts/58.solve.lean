/-! both solve the game alike -/
theorem scan_end {M : Mem} {u : Nat} (hu : u < 60) (h3 : M 12 u = 3) (v h : Int32) (kx : Mem → Option Mem) (f : Nat) : L_X12_reckons_43 v (nI u) kx (f + 1) h M = kx M := by
  rw [L_X12_reckons_43]
  by_cases q : M 0 17 ≤ h
  · rw [if_pos q]
  · rw [if_neg q, gdn hu (by decide), cl_nI (by omega), h3, if_pos (show (3 : Int32) ≤ 3 by decide)]
def RZ (C : Mem) (N : Nat) (v : Int32) (u : Nat) (P E Tk En : Nat → Int32) : Prop := (∀ i, u ≤ i → i < N → Tk i = P i ∧ En i = E i ∧ EN C N E i) ∧ ∀ i, i < N → ∃ o, P i = opI o ∧ BS C v E i u N o
theorem solve_in {C D : Mem} {N : Nat} (hN : N ≤ 60) (hT : TN C N) (hH : TH C N none) (hA : AG C D N) (v : Int32) (kc : Mem → Option Mem) (kd : Mem → Option Mem) : ∀ u f1 f2 P E Tk En, u ≤ N → u < f1 → u < f2 → RZ C N v u P E Tk En → ∃ P' E' Tk' En', L_X2_solve_15 v kc f1 (nI u + (-1)) (KM C 28 29 P E) = kc (KM C 28 29 P' E') ∧ L_X12_reckons_7 v kd f2 (nI u + (-1)) (KM D 17 16 Tk En) = kd (KM D 17 16 Tk' En') ∧ RZ C N v 0 P' E' Tk' En'
  | 0, f1, f2, P, E, Tk, En, _, h1, h2, hR => by
    obtain ⟨f1, rfl⟩ : ∃ f, f1 = f + 1 := ⟨f1 - 1, by omega⟩
    obtain ⟨f2, rfl⟩ : ∃ f, f2 = f + 1 := ⟨f2 - 1, by omega⟩
    rw [L_X2_solve_15, L_X12_reckons_7, if_pos (show nI 0 + (-1) < 0 by decide), if_pos (show nI 0 + (-1) < 0 by decide)]
    exact ⟨P, E, Tk, En, rfl, rfl, hR⟩
  | u + 1, f1, f2, P, E, Tk, En, hu, h1, h2, hR => by
    obtain ⟨f1, rfl⟩ : ∃ f, f1 = f + 1 := ⟨f1 - 1, by omega⟩
    obtain ⟨f2, rfl⟩ : ∃ f, f2 = f + 1 := ⟨f2 - 1, by omega⟩
    have huN : u < N := by omega
    obtain ⟨hR1, hR2⟩ := hR
    obtain ⟨ou, eP, hBu⟩ := hR2 u huN
    obtain ⟨t1, t2, t3, t4⟩ := hT u huN
    -- the end of u
    obtain ⟨e, heN, he23, hee⟩ : ∃ e, e < N ∧ C 23 e = -1 ∧ ((ou = none ∧ e = u) ∨ ∃ b, ou = some b ∧ u < b ∧ b < N ∧ E b = nI e) := by
      rcases hBu with ⟨e, n⟩ | ⟨b, e, b1, b2, b3, -⟩
      · rcases t1 with z | ⟨p, hp, z⟩
        · exact ⟨u, huN, z, Or.inl ⟨e, rfl⟩⟩
        · obtain ⟨j, j1, j2, j3⟩ := hH u huN (fun e he => by cases he) (by rw [z]; exact nI_n1 (by omega))
          exact absurd j3 (n j (by omega) j2)
      · obtain ⟨-, -, x, x1, x2, x3⟩ := hR1 b b1 b2
        exact ⟨x, x1, x3, Or.inr ⟨b, e, by omega, b2, x2⟩⟩
    -- the model at u
    have key : ∃ Tk1 En1, L_X12_reckons_7 v kd (f2 + 1) (nI u) (KM D 17 16 Tk En) = L_X12_reckons_7 v kd f2 (nI u + (-1)) (KM D 17 16 Tk1 En1) ∧ Tk1 u = P u ∧ En1 u = nI e ∧ ∀ i, i ≠ u → Tk1 i = Tk i ∧ En1 i = En i := by
      rw [L_X12_reckons_7, if_neg (nI_pos (by omega)), gdn (show u < 60 by omega) (by decide), cl_nI (show u ≤ 1000000 by omega), sto_x, gdn (show u < 60 by omega) (by decide), KM_sa D (by decide), KM_o D (k := 12) (by decide) (by decide)]
      unfold B_X12_reckons_38 B_X12_reckons_171
      rcases t1 with z | ⟨p, hp, z⟩
      · have d12 : D 12 u = 3 := (hA.2 u huN).2.2.2.1 z
        have hou : ou = none ∧ e = u := by
          rcases hee with q | ⟨b, q1, q2, q3, -⟩
          · exact q
          · rcases hBu with ⟨w, -⟩ | ⟨b', w, b1, b2, b3, -⟩
            · rw [q1] at w; cases w
            · rcases (hT b' b2).2.2.1 with ⟨y, -⟩ | ⟨j, j1, j2, j3⟩
              · omega
              · have : j = u := (eq_nI (by omega) (by omega)).mp (j2.symm.trans b3)
                rw [this] at j3
                exact absurd z j3
        obtain ⟨F, eF⟩ : ∃ F, FU = F + 1 := ⟨FU - 1, by have := FU_ge; omega⟩
        rw [d12, if_pos rfl, gdn (show u < 60 by omega) (by decide), cl_nI (show u ≤ 1000000 by omega), sto_x, KM_sb, lt_e, nI_1, eF, scan_end (show u < 60 by omega) (by rw [KM_o D (k := 12) (by decide) (by decide)]; exact d12), gdn (show u < 60 by omega) (by decide), KM_a D (by decide), upd_s, if_pos rfl, gdn (show u < 60 by omega) (by decide), gdn (show u < 60 by omega) (by decide), sto_x, KM_sb, lt_e]
        refine ⟨upd Tk u (-1), _, rfl, ?_, ?_, fun i hi => ⟨upd_n _ _ hi, ?_⟩⟩
        · rw [upd_s, eP, hou.1]; rfl
        · rw [upd_s, KM_b, upd_s, hou.2]
        · rw [upd_n _ _ hi, upd_n _ _ hi]
      · have d12 : D 12 u = nI p := (hA.2 u huN).2.2.2.2.1 p hp z
        have n3 : ¬ nI p = (3 : Int32) := fun q => by have := (eq_nI (b := 3) (by omega) (by decide)).mp q; omega
        rw [d12, if_neg n3, gdn (show u < 60 by omega) (by decide), cl_nI (show u ≤ 1000000 by omega), sto_x, KM_sb, lt_e, nI_1]
        have hEn : ∀ j, u < j → j < N → upd En u (-1) j = E j := fun j j1 j2 => by rw [upd_n _ _ (by omega)]; exact (hR1 j (by omega) j2).2.1
        have hEN : ∀ j, u < j → j < N → EN C N (upd En u (-1)) j := fun j j1 j2 => by
          obtain ⟨-, -, x, x1, x2, x3⟩ := hR1 j (by omega) j2
          exact ⟨x, x1, by rw [hEn j j1 j2]; exact x2, x3⟩
        obtain ⟨o', es, hB'⟩ := scan_D (Tk := Tk) hN hT hA huN hp z v hEN (fun (D_136 : Mem) => gd (inb (nI u) 60) (if (D_136 17 u) = (-1) then gd (inb (nI u) 60) (gd (inb (nI u) 60) (sto D_136 16 u (D_136 16 u) (fun D_171 => lt_ (nI u + (-1)) (fun v2_172 => L_X12_reckons_7 v kd f2 v2_172 D_171)))) else gd (inb (nI u) 60) (gd (inb (D_136 17 u) 60) (gd (inb (nI u) 60) (sto D_136 16 u (D_136 16 (D_136 17 u).toNatClampNeg) (fun D_171 => lt_ (nI u + (-1)) (fun v2_172 => L_X12_reckons_7 v kd f2 v2_172 D_171))))))) (N - (u + 1)) (u + 1) FU none (by omega) (by omega) (by have := FU_ge; omega) (Or.inl ⟨rfl, fun j j1 j2 => by omega⟩)
        rw [show upd Tk u (-1) = upd Tk u (opI none) from rfl, es]
        have eo : o' = ou := BS_uni (BS_congr (fun j j1 j2 => hEn j (by omega) j2) hB') hBu
        rw [eo]
        obtain ⟨b, q1, q2, q3, q4⟩ : ∃ b, ou = some b ∧ u < b ∧ b < N ∧ E b = nI e := by
          rcases hee with ⟨q1, q2⟩ | q
          · rw [q2] at he23
            rw [he23] at z
            exact absurd z.symm (nI_n1 (by omega))
          · exact q
        have eb : opI ou = nI b := by rw [q1]; rfl
        simp only [KM_a D (show 17 ≠ 16 by decide), KM_b, cl_nI (show u ≤ 1000000 by omega), upd_s, eb, gdn (show u < 60 by omega) (show 60 ≤ 1000000 by decide), gdn (show b < 60 by omega) (show 60 ≤ 1000000 by decide), cl_nI (show b ≤ 1000000 by omega), hEn b q2 q3, q4, sto_x, KM_sb]
        rw [if_neg (nI_n1 (by omega)), lt_e]
        refine ⟨upd Tk u (nI b), _, rfl, ?_, ?_, fun i hi => ⟨upd_n _ _ hi, ?_⟩⟩
        · rw [upd_s, eP, eb]
        · rw [upd_s]
        · rw [upd_n _ _ hi, upd_n _ _ hi]
    obtain ⟨Tk1, En1, k1, k2, k3, k4⟩ := key
    rw [pk_m1, k1]
    -- the class at u
    have hE1 : ∀ j, u + 1 ≤ j → j < N → E j = upd E u (nI e) j := fun j j1 j2 => by rw [upd_n _ _ (by omega)]
    have hEN1 : ∀ j, u ≤ j → j < N → EN C N (upd E u (nI e)) j := fun j j1 j2 => by
      by_cases z : j = u
      · subst z; exact ⟨e, heN, upd_s _ _ _, he23⟩
      · obtain ⟨-, -, x, x1, x2, x3⟩ := hR1 j (by omega) j2
        exact ⟨x, x1, by rw [upd_n _ _ z]; exact x2, x3⟩
    have fin : ∀ P1, (∀ i, i < N → ∃ o, P1 i = opI o ∧ BS C v (upd E u (nI e)) i u N o) → (∀ i, u ≤ i → P1 i = P i) → ∃ P' E' Tk' En', L_X2_solve_15 v kc f1 (nI u + (-1)) (KM C 28 29 P1 (upd E u (nI e))) = kc (KM C 28 29 P' E') ∧ L_X12_reckons_7 v kd f2 (nI u + (-1)) (KM D 17 16 Tk1 En1) = kd (KM D 17 16 Tk' En') ∧ RZ C N v 0 P' E' Tk' En' := fun P1 hb1 hb2 => by
      refine solve_in hN hT hH hA v kc kd u f1 f2 P1 (upd E u (nI e)) Tk1 En1 (by omega) (by omega) (by omega) ⟨fun i i1 i2 => ?_, hb1⟩
      by_cases z : i = u
      · subst z
        exact ⟨by rw [k2, hb2 i (Nat.le_refl _)], by rw [k3, upd_s], hEN1 i i1 i2⟩
      · obtain ⟨w1, w2, -⟩ := hR1 i (by omega) i2
        exact ⟨by rw [(k4 i z).1, w1, hb2 i i1], by rw [(k4 i z).2, w2, upd_n _ _ z], hEN1 i i1 i2⟩
    have cl : L_X2_solve_15 v kc (f1 + 1) (nI u) (KM C 28 29 P E) = B_X2_solve_49 (nI u) (nI e) v (nI u) (KM C 28 29 P E) (L_X2_solve_15 v kc f1) := by
      rw [L_X2_solve_15, if_neg (nI_pos (by omega)), gdn (show u < 60 by omega) (by decide), gdn (show u < 60 by omega) (by decide), cl_nI (show u ≤ 1000000 by omega), KM_a C (by decide), KM_b, eP]
      rcases hee with ⟨q1, q2⟩ | ⟨b, q1, q2, q3, q4⟩
      · rw [q1, if_pos (show opI none = -1 from rfl), q2]
      · rw [q1, show opI (some b) = nI b from rfl, if_neg (nI_n1 (by omega)), gdn (show b < 60 by omega) (by decide), cl_nI (show b ≤ 1000000 by omega), q4]
    rw [cl]
    unfold B_X2_solve_49 B_X2_solve_104 B_X2_solve_111
    rw [gdn (show u < 60 by omega) (by decide), cl_nI (show u ≤ 1000000 by omega), sto_x, gdn (show u < 60 by omega) (by decide), KM_sb, KM_o C (k := 24) (by decide) (by decide), KM_a C (by decide), KM_o C (k := 23) (by decide) (by decide), lt_e]
    rcases t3 with ⟨z0, z1⟩ | ⟨j, j1, j2, j3⟩
    · rw [z1, if_pos rfl, lt_e]
      refine fin P (fun i hi => ?_) (fun _ _ => rfl)
      obtain ⟨o, o1, o2⟩ := hR2 i hi
      exact ⟨o, o1, (BS_dn huN (BS_congr hE1 o2)).1 (by rw [z1]; exact fun q => nI_n1 (by omega) q.symm)⟩
    · obtain ⟨p, hp, hj23⟩ : ∃ p, p ≤ 2 ∧ C 23 j = nI p := (hT j (by omega)).1.resolve_left j3
      obtain ⟨oj, ej, hBj⟩ := hR2 j (by omega)
      obtain ⟨-, dn⟩ := BS_dn huN (BS_congr hE1 hBj)
      obtain ⟨d1, d2⟩ := dn j2
      have oth : ∀ i, i < N → i ≠ j → ∃ o, P i = opI o ∧ BS C v (upd E u (nI e)) i u N o := fun i hi hij => by
        obtain ⟨o, o1, o2⟩ := hR2 i hi
        exact ⟨o, o1, (BS_dn huN (BS_congr hE1 o2)).1 (by rw [j2]; exact fun q => hij ((eq_nI (by omega) (by omega)).mp q).symm)⟩
      have set1 : BS C v (upd E u (nI e)) j u N (some u) → ∃ P' E' Tk' En', L_X2_solve_15 v kc f1 (nI u + (-1)) (KM C 28 29 (upd P j (nI u)) (upd E u (nI e))) = kc (KM C 28 29 P' E') ∧ L_X12_reckons_7 v kd f2 (nI u + (-1)) (KM D 17 16 Tk1 En1) = kd (KM D 17 16 Tk' En') ∧ RZ C N v 0 P' E' Tk' En' := fun hb => fin _ (fun i hi => by
        by_cases q : i = j
        · subst q; exact ⟨some u, upd_s _ _ _, hb⟩
        · rw [upd_n _ _ q]; exact oth i hi q) (fun i hi => upd_n _ _ (by omega))
      rw [j2, if_neg (nI_n1 (by omega)), gdn (show j < 60 by omega) (by decide), gdn (show j < 60 by omega) (by decide), gdn (show j < 60 by omega) (by decide), cl_nI (show j ≤ 1000000 by omega), sto_x, lt_e, lt_e, ej, KM_sa C (by decide), hj23]
      cases oj with
      | none =>
        rw [if_pos (show opI none = -1 from rfl)]
        exact set1 (d1 rfl)
      | some b =>
        obtain ⟨d3, d4⟩ := d2 b rfl
        obtain ⟨b1, b2⟩ : u + 1 ≤ b ∧ b < N := by
          rcases hBj with ⟨w, -⟩ | ⟨b', w, b1, b2, -⟩
          · cases w
          · cases w; exact ⟨b1, b2⟩
        rw [show opI (some b) = nI b from rfl, if_neg (nI_n1 (by omega)), wC hN hT v huN (hEN1 u (Nat.le_refl _) huN) hp hj23, bnd_e, gdn (show j < 60 by omega) (by decide), gdn (show j < 60 by omega) (by decide), wC hN hT v b2 (hEN1 b (by omega) b2) hp hj23, bnd_e]
        by_cases w : WW C v (upd E u (nI e)) j u < WW C v (upd E u (nI e)) j b
        · rw [if_pos w]
          exact fin P (fun i hi => by
            by_cases q : i = j
            · subst q; exact ⟨some b, ej, d3 w⟩
            · exact oth i hi q) (fun _ _ => rfl)
        · rw [if_neg w]
          exact set1 (d4 w)
