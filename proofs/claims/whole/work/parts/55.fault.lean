/-! the fault -/
theorem sim0_let {T : Nat → Int32} {M D : Mem} (hM : g0 M) {n k f9 N : Nat} {op : Option Nat} {p : Nat} (hp : p ≤ 2) (hn : n ≤ 60) (hk : k < n) (hTX : TX T n D) (hS : S0 k (grun T M k) D N op) (hb : f_X2_playerOf (T k) = nI p) (ih : ∀ D' k' N' op, k < k' → k' ≤ n → S0 k' (grun T M k') D' N' op → TX T n D' → FIN T M n D' (L_X12_faultNow_9 f9 (nI k') (opI op) D')) : FIN T M n D (B_X12_faultNow_46 (nI p) (nI k) (opI op) D (L_X12_faultNow_9 f9)) := by
  obtain ⟨⟨h7, h8, h10, h11⟩, h9, hN2, hT, hH, hE, hA, hO⟩ := id hS
  have hop : ∀ j, op = some j → j < N := fun j hj => (hO.2 j hj).1
  obtain ⟨D1, e1, d0, d12, d13, d14, d15, dk⟩ := more_D (show N < 60 by omega) hA.1 hop (nI p)
  have K1 : Km D D1 := Km_more ⟨_, d0⟩ dk
  have X1 := hTX.km K1
  have n17 : D1 0 17 = nI (N + 1) := by rw [d0, upd_s]
  unfold B_X12_faultNow_46 B_X12_faultNow_226
  rw [if_neg (show ¬ (3 : Int32) ≤ nI p from fun q => by have := (le_nI (a := 3) (by decide) (by omega)).mp q; omega), e1, bnd_e, lt_e, nI_1, byte_D hn X1.2 (k + 1) (by omega), bnd_e, X1.1]
  obtain ⟨S, es, s22, s23, s24, s25, s26, s27⟩ := start_C (show N < 60 by omega) h11 h10 hop (nI p)
  have t11 : S 22 11 = nI (N + 1) := by rw [s22, upd_s]
  have t12 : S 22 12 = grun T M k 22 12 := by rw [s22, upd_n _ _ (by decide)]
  have t7 : S 22 7 = nI k := by rw [s22, upd_n _ _ (by decide)]; exact h7
  have t8 : S 22 8 = -1 := by rw [s22, upd_n _ _ (by decide)]; exact h8
  have r1 := run_ok (by omega) h7 h8 (go0_let h9 hb (nI_n1 (by omega)) es) t7
  have m7 : grun T M (k + 1) 22 7 = nI (k + 1) := by rw [r1]; rfl
  have m8 : grun T M (k + 1) 22 8 = -1 := by rw [r1]; exact t8
  have m9 : grun T M (k + 1) 22 9 = 1 := by rw [r1]; rfl
  have m11 : grun T M (k + 1) 22 11 = nI (N + 1) := by rw [r1]; exact t11
  by_cases q1 : n ≤ k + 1
  · have e : k + 1 = n := by omega
    rw [if_pos q1, if_neg (by decide)]
    rw [e] at m7 m8 m9 ⊢
    exact FIN.at hn (fl_ph (ph := 1) m7 m8 m9 (by decide)) K1
  · rw [if_neg q1]
    have g1 := go1 (T (k + 1)) m9
    by_cases f1 : T (k + 1) = 40
    · rw [if_pos f1] at g1 ⊢
      rw [lt_e, lt_e, nI_1, n17, nI_pred]
      rw [m11, nI_pred] at g1
      have r2 := run_ok (by omega) m7 m8 g1 m7
      have tr := tree_add (M := grun T M k) (D := D) (M1 := grun T M (k + 1 + 1)) (D1 := D1) (N := N) (op := op) (w := nI p) (dw := nI p) hT hH hE hA hO
        (by rw [r2, r1, if_neg (nI_n1 (by omega)), ← t12, Int32.add_zero]; rfl) (by rw [r2, r1, ← s23]; rfl) (by rw [r2, r1, ← s24]; rfl) (by rw [r2, r1, ← s25]; rfl) (by rw [r2, r1, ← s26]; rfl)
        (fun i hi => by rw [r2, r1, ← s27]; rfl)
        n17 d12 d13 d14 d15 (fun i hi => by rw [dk 18 (by decide) (by omega)])
        (Or.inr ⟨p, hp, rfl⟩) (fun z => absurd z (nI_n1 (by omega))) (fun p' hp' z => z)
      rw [if_neg (nI_n1 (by omega))] at tr
      obtain ⟨u1, u2, u3, u4⟩ := tr
      refine FIN.km (ih D1 (k + 1 + 1) (N + 1) (some N) (by omega) (by omega) ⟨⟨by rw [r2]; rfl, by rw [r2]; exact m8, by rw [r2]; rfl, by rw [r2]; exact m11⟩, by rw [r2]; rfl, by omega, u1, u2, u3, u4, (fun z => by cases z), fun j hj => ?_⟩ X1) K1
      cases hj
      refine ⟨by omega, ?_, 0, by decide, ?_⟩
      · rw [r2, r1]
        show ¬ S 23 N = -1
        rw [s23, upd_s]
        exact nI_n1 (by omega)
      · rw [r2, r1]
        show S 26 N = _
        rw [s26, kd_N hop]
        rfl
    · rw [if_neg f1] at g1 ⊢
      exact FIN.at (by omega) (run_bad hM hn (by omega) m7 m8 g1) K1
theorem sim0 {T : Nat → Int32} {M : Mem} (hM : g0 M) {n : Nat} (hn : n ≤ 60) : ∀ d k fuel D N op, k + d = n → d < fuel → TX T n D → S0 k (grun T M k) D N op → FIN T M n D (L_X12_faultNow_9 fuel (nI k) (opI op) D) := by
  intro d
  induction d using Nat.strongRecOn with
  | ind d ihd =>
    intro k fuel D N op h1 h2 hTX hS
    obtain ⟨f, rfl⟩ : ∃ f, fuel = f + 1 := ⟨fuel - 1, by omega⟩
    have ih : ∀ D' k' N' op, k < k' → k' ≤ n → S0 k' (grun T M k') D' N' op → TX T n D' → FIN T M n D' (L_X12_faultNow_9 f (nI k') (opI op) D') := fun D' k' N' op a b c e => ihd (n - k') (by omega) k' f D' N' op (by omega) (by omega) e c
    rw [L_X12_faultNow_9, byte_D hn hTX.2 k (by omega), bnd_e, hTX.1]
    by_cases q : n ≤ k
    · rw [if_pos q, if_neg (by decide), if_neg (by decide), if_neg (by decide)]
      exact sim3 hM hn (by omega) hTX hS (fun z => by omega) ih
    · rw [if_neg q]
      by_cases b1 : T k = 103
      · rw [if_pos b1]
        exact sim0_let (p := 0) hM (by decide) hn (by omega) hTX hS (by rw [b1]; rfl) ih
      · rw [if_neg b1]
        by_cases b2 : T k = 97
        · rw [if_pos b2]
          exact sim0_let (p := 1) hM (by decide) hn (by omega) hTX hS (by rw [b2]; rfl) ih
        · rw [if_neg b2]
          by_cases b3 : T k = 116
          · rw [if_pos b3]
            exact sim0_let (p := 2) hM (by decide) hn (by omega) hTX hS (by rw [b3]; rfl) ih
          · rw [if_neg b3]
            exact sim3 hM hn (by omega) hTX hS (fun _ => let_c b1 b2 b3) ih
theorem S4_cells {n N : Nat} {M C D : Mem} (h : ∀ c, 22 ≤ c → c ≤ 27 → C c = M c) (hS : S4 n M D N none) : S4 n C D N none := by
  unfold S4 SB TN TH TE AG at hS ⊢
  rw [h 22 (by decide) (by decide), h 23 (by decide) (by decide), h 24 (by decide) (by decide), h 25 (by decide) (by decide), h 26 (by decide) (by decide), h 27 (by decide) (by decide)]
  exact hS
/-- both find the same fault; if none, both have the same tree -/
theorem fault_both {C D : Mem} (hI : Inv C D) : ∃ r D1, f_X2_faultPlace C = r ∧ f_X12_faultNow D = some (r, D1) ∧ Inv C D1 ∧ (r = -1 → ∃ n N, S4 n C D1 N none ∧ n ≤ 60) := by
  obtain ⟨n, M, hn, d15, hx, hg, hc⟩ := hI.2.2.2.2.2.2.2
  have g := hg
  obtain ⟨h7, h8, h9, h10, h11, h12⟩ := g
  have K0 : Km D (st2 D 0 17 0) := Km.st0 _ (Or.inl rfl)
  have hF := FU_ge
  obtain ⟨r, D', e1, e2, e3, e4⟩ := sim0 (T := D 11) hg hn n 0 FU (st2 D 0 17 0) 0 none (by omega) (by omega) ⟨rfl, d15⟩ ⟨⟨h7, h8, h10, h11⟩, h9, by omega, fun i hi => absurd hi (Nat.not_lt_zero i), fun i hi => absurd hi (Nat.not_lt_zero i), h12, ⟨rfl, fun i hi => absurd hi (Nat.not_lt_zero i)⟩, fun _ => rfl, fun j hj => by cases hj⟩
  have ef : f_X2_faultPlace C = f_X2_faultPlace (grun (D 11) M n) := by
    unfold f_X2_faultPlace
    rw [hc 22 (by decide) (by decide)]
  refine ⟨r, D', by rw [ef, e2], ?_, hI.keep (Kp.rf C) (K0.tr e3), fun z => ?_⟩
  · unfold f_X12_faultNow
    rw [sto_x]
    exact e1
  · obtain ⟨N, hN⟩ := e4 z
    exact ⟨n, N, S4_cells hc hN, hn⟩
theorem ok_fault {C D : Mem} (hI : Inv C D) : ∃ (r : Int32) (D1 : Mem), f_X11_fault C = r ∧ f_X12_fault D = some (r, D1) ∧ Inv C D1 := by
  obtain ⟨r, D1, e1, e2, e3, -⟩ := fault_both hI
  unfold f_X11_fault f_X12_fault
  rw [bnd2_id]
  exact ⟨r, D1, e1, e2, e3⟩
