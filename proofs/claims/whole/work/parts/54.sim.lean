/-! the model reads the text as the class has read it -/
def SB (k : Nat) (M : Mem) (N : Nat) (op : Option Nat) : Prop := M 22 7 = nI k ∧ M 22 8 = -1 ∧ M 22 10 = opI op ∧ M 22 11 = nI N
def S0 (k : Nat) (M D : Mem) (N : Nat) (op : Option Nat) : Prop := SB k M N op ∧ M 22 9 = 0 ∧ 2 * N ≤ k ∧ TN M N ∧ TH M N op ∧ TE M N ∧ AG M D N ∧ OPc M N op
def S4 (k : Nat) (M D : Mem) (N : Nat) (op : Option Nat) : Prop := SB k M N op ∧ M 22 9 = 4 ∧ 1 ≤ N ∧ 2 * N ≤ k + 1 ∧ TN M N ∧ TH M N none ∧ TE M N ∧ AG M D N ∧ ∀ j, op = some j → j < N ∧ ¬ M 23 j = -1
def TX (T : Nat → Int32) (n : Nat) (D : Mem) : Prop := D 11 = T ∧ D 0 15 = nI n
def FIN (T : Nat → Int32) (M : Mem) (n : Nat) (D : Mem) (x : Option (Int32 × Mem)) : Prop := ∃ r D', x = some (r, D') ∧ r = f_X2_faultPlace (grun T M n) ∧ Km D D' ∧ (r = -1 → ∃ N, S4 n (grun T M n) D' N none)
theorem FIN.km {T : Nat → Int32} {M D D1 : Mem} {n : Nat} {x : Option (Int32 × Mem)} (h : FIN T M n D1 x) (hK : Km D D1) : FIN T M n D x := by
  obtain ⟨r, D', e1, e2, e3, e4⟩ := h
  exact ⟨r, D', e1, e2, hK.tr e3, e4⟩
theorem FIN.at {T : Nat → Int32} {M D D' : Mem} {n k : Nat} (hk : k ≤ 60) (h : f_X2_faultPlace (grun T M n) = nI k) (hK : Km D D') : FIN T M n D (some (nI k, D')) := ⟨nI k, D', rfl, h.symm, hK, fun q => absurd q (nI_n1 (by omega))⟩
theorem TX.km {T : Nat → Int32} {n : Nat} {D D' : Mem} (h : TX T n D) (hK : Km D D') : TX T n D' := ⟨(hK.1 11 rfl).trans h.1, (hK.2 15 (by decide) (by decide)).trans h.2⟩
theorem sim4 {T : Nat → Int32} {M D : Mem} (hM : g0 M) {n k0 f9 N : Nat} (hn : n ≤ 60) (hTX : TX T n D) (ih : ∀ k' op, k0 < k' → k' ≤ n → S0 k' (grun T M k') D N op → FIN T M n D (L_X12_faultNow_9 f9 (nI k') (opI op) D)) : ∀ d k f op, k + d = n → k0 ≤ k → d < f → S4 k (grun T M k) D N op → FIN T M n D (L_X12_faultNow_154 D (fun (v1_182 : Int32) (v2_182 : Int32) => (if v2_182 = (-1) then (if (D 0 15) ≤ v1_182 then some ((-1), D) else some (v1_182, D)) else Option.bind (f_X12_byteAt v1_182 D) (fun r_203 => (if r_203 = 44 then gd (inb v2_182 60) ((if (D 15 v2_182.toNatClampNeg) = 4 then some (v1_182, D) else lt_ (v1_182 + 1) (fun v1_223 => (B_X12_faultNow_226 v1_223 v2_182 D (L_X12_faultNow_9 f9))))) else some (v1_182, D))))) f (nI k) (opI op)) := by
  intro d
  induction d with
  | zero =>
    intro k f op h1 h2 h3 h
    obtain ⟨f, rfl⟩ : ∃ g, f = g + 1 := ⟨f - 1, by omega⟩
    have e : k = n := by omega
    subst e
    obtain ⟨⟨h7, h8, h10, h11⟩, h9, hN1, hN2, hT, hH, hE, hA, hO⟩ := id h
    cases op with
    | none =>
      rw [L_X12_faultNow_154, if_pos (show opI none = -1 from rfl), if_pos (show opI none = -1 from rfl), hTX.2, if_pos (Int32.le_refl _)]
      refine ⟨-1, D, rfl, ?_, Km.rf D, fun _ => ⟨N, h⟩⟩
      unfold f_X2_faultPlace
      rw [h8, if_pos rfl, h9, if_pos rfl, h10, if_pos (show opI none = -1 from rfl)]
    | some j =>
      have hj := (hO j rfl).1
      have ej : opI (some j) = nI j := rfl
      rw [ej, L_X12_faultNow_154, if_neg (nI_n1 (by omega)), byte_D hn hTX.2 k hn, if_pos (Nat.le_refl _), bnd_e, if_neg (by decide), if_neg (nI_n1 (by omega)), bnd_e, if_neg (by decide)]
      exact FIN.at hn (fl_op (by omega) h7 h8 h9 h10) (Km.rf D)
  | succ d ihd =>
    intro k f op h1 h2 h3 h
    obtain ⟨f, rfl⟩ : ∃ g, f = g + 1 := ⟨f - 1, by omega⟩
    obtain ⟨⟨h7, h8, h10, h11⟩, h9, hN1, hN2, hT, hH, hE, hA, hO⟩ := id h
    cases op with
    | none =>
      rw [L_X12_faultNow_154, if_pos (show opI none = -1 from rfl), if_pos (show opI none = -1 from rfl), hTX.2, if_neg (by rw [le_nI (by omega) (by omega)]; omega)]
      exact FIN.at (by omega) (run_bad hM hn (by omega) h7 h8 (go4n _ h9 h10)) (Km.rf D)
    | some j =>
      obtain ⟨hj, hl⟩ := hO j rfl
      have ej : opI (some j) = nI j := rfl
      have eg := go4s (T k) (show j < 60 by omega) h9 h10
      obtain ⟨-, ⟨c, hc, e26⟩, hpar, -⟩ := hT j hj
      obtain ⟨a13, a14, a15, -⟩ := hA.2 j hj
      rw [ej, L_X12_faultNow_154, if_neg (nI_n1 (by omega)), byte_D hn hTX.2 k (by omega), if_neg (show ¬ n ≤ k by omega), hTX.1, bnd_e]
      by_cases q1 : T k = 41
      · rw [if_pos q1, gdn (by omega) (by decide), lt_e, lt_e, cl_nI (by omega), nI_1, a13]
        rw [if_neg (fun z => by rw [q1] at z; exact absurd z.1 (by decide)), if_pos q1] at eg
        have er := run_ok (by omega) h7 h8 eg h7
        have key : ∀ o, grun T M k 24 j = opI o → (∀ i, o = some i → i < N ∧ ¬ grun T M k 23 i = -1) → FIN T M n D (L_X12_faultNow_154 D (fun (v1_182 : Int32) (v2_182 : Int32) => (if v2_182 = (-1) then (if (D 0 15) ≤ v1_182 then some ((-1), D) else some (v1_182, D)) else Option.bind (f_X12_byteAt v1_182 D) (fun r_203 => (if r_203 = 44 then gd (inb v2_182 60) ((if (D 15 v2_182.toNatClampNeg) = 4 then some (v1_182, D) else lt_ (v1_182 + 1) (fun v1_223 => (B_X12_faultNow_226 v1_223 v2_182 D (L_X12_faultNow_9 f9))))) else some (v1_182, D))))) f (nI (k + 1)) (grun T M k 24 j)) := by
          intro o ho hoo
          rw [ho] at er ⊢
          refine ihd (k + 1) f o (by omega) (by omega) (by omega) ?_
          rw [er]
          exact ⟨⟨rfl, h8, rfl, h11⟩, h9, hN1, by omega, hT, hH, hE, hA, hoo⟩
        rcases hpar with ⟨-, z⟩ | ⟨i, i1, i2, i3⟩
        · exact key none z (fun i hi => by cases hi)
        · exact key (some i) i2 (fun i' hi => by cases hi; exact ⟨by omega, i3⟩)
      · rw [if_neg q1, if_neg (nI_n1 (by omega)), bnd_e]
        by_cases q2 : T k = 44
        · rw [if_pos q2, gdn (by omega) (by decide), cl_nI (by omega), a15, e26]
          rw [e26] at eg
          by_cases q3 : c = 4
          · subst q3
            rw [if_pos (show nI 4 = (4 : Int32) from rfl)]
            rw [if_neg (fun z => z.2 (by decide)), if_neg q1] at eg
            exact FIN.at (by omega) (run_bad hM hn (by omega) h7 h8 eg) (Km.rf D)
          · rw [if_neg (show ¬ nI c = (4 : Int32) from fun z => q3 ((eq_nI (b := 4) (by omega) (by decide)).mp z)), lt_e, nI_1]
            rw [if_pos ⟨q2, fun z => q3 (by have := (le_nI (a := 4) (by decide) (by omega)).mp z; omega)⟩] at eg
            have er := run_ok (by omega) h7 h8 eg h7
            unfold B_X12_faultNow_226
            refine ih (k + 1) (some j) (by omega) (by omega) ?_
            rw [er]
            exact ⟨⟨rfl, h8, h10, h11⟩, rfl, by omega, hT, fun i hi _ hll => hH i hi (fun e he => by cases he) hll, hE, hA, ⟨(fun z => by cases z), (fun i hi => by cases hi; exact ⟨hj, hl, c, by omega, e26⟩)⟩⟩
        · rw [if_neg q2]
          rw [if_neg (fun z => q2 z.1), if_neg q1] at eg
          exact FIN.at (by omega) (run_bad hM hn (by omega) h7 h8 eg) (Km.rf D)
theorem fig_D {D : Mem} {n N k c f : Nat} (hn : n ≤ 60) (hk : k ≤ 60) (hN : N < 60) (hc : c < 3) (h15 : D 0 15 = nI n) (h17 : D 0 17 = nI (N + 1)) (kx : Int32 → Mem → Option (Int32 × Mem)) : L_X12_faultNow_98 kx (f + 1) (nI k) (nI c) D = if n ≤ k then some (nI k, D) else if f_X2_isFigure (D 11 k) = true then L_X12_faultNow_98 kx f (nI (k + 1)) (nI (c + 1)) (st2 D 18 (3 * N + c) (D 11 k - 48)) else some (nI k, D) := by
  have ix : 3 * (nI (N + 1) - 1) + nI c = nI (3 * N + c) := by rw [nI_pred, show (3 : Int32) = nI 3 from rfl, pk_mul, nI_add]
  rw [L_X12_faultNow_98, if_neg (show ¬ (3 : Int32) ≤ nI c from fun q => by have := (le_nI (a := 3) (by decide) (by omega)).mp q; omega), byte_D hn h15 k hk, bnd_e, bnd_e, h17, ix, gdn (by omega) (by decide), cl_nI (by omega), sto_x, lt_e, lt_e, nI_1, nI_1]
  by_cases q : n ≤ k
  · rw [if_pos q, if_neg (by decide), if_pos q]
  · rw [if_neg q, if_neg q]
    rfl
theorem fig_nat {b : Int32} (h : f_X2_isFigure b = true) : ∃ x, x ≤ 9 ∧ b - 48 = nI x := by
  have h2 := (in_c b 48 57).mp h
  obtain ⟨j, hj, rfl⟩ := nI_of (x := b) (Int32.not_lt.mpr (Int32.le_trans (by decide) h2.1))
  have l1 : 48 ≤ j := (nI_leI (a := 48) (by decide) hj).mp h2.1
  have l2 : j ≤ 57 := (nI_leI (b := 57) hj (by decide)).mp h2.2
  exact ⟨j - 48, by omega, by rw [show (48 : Int32) = nI 48 from rfl, pk_sub l1]⟩
theorem Km_more {D S : Mem} (h0 : ∃ v, S 0 = upd (D 0) 17 v) (hk : ∀ k, k ≠ 0 → ¬ (12 ≤ k ∧ k ≤ 15) → S k = D k) : Km D S := by
  obtain ⟨v, h0⟩ := h0
  refine ⟨fun k hp => hk k (fun e => by rw [e] at hp; cases hp) (fun e => ?_), fun j j1 j2 => by rw [h0, upd_n _ _ j1]⟩
  unfold perM at hp
  have := of_decide_eq_true hp
  omega
theorem let_c {b : Int32} (h1 : ¬ b = 103) (h2 : ¬ b = 97) (h3 : ¬ b = 116) : f_X2_playerOf b = -1 := by
  unfold f_X2_playerOf
  rw [if_neg h2, if_neg h1, if_neg h3]
theorem sim3 {T : Nat → Int32} {M D : Mem} (hM : g0 M) {n k f9 N : Nat} {op : Option Nat} (hn : n ≤ 60) (hk : k ≤ n) (hTX : TX T n D) (hS : S0 k (grun T M k) D N op) (hb : k < n → f_X2_playerOf (T k) = -1) (ih : ∀ D' k' N' op, k < k' → k' ≤ n → S0 k' (grun T M k') D' N' op → TX T n D' → FIN T M n D' (L_X12_faultNow_9 f9 (nI k') (opI op) D')) : FIN T M n D (B_X12_faultNow_46 3 (nI k) (opI op) D (L_X12_faultNow_9 f9)) := by
  obtain ⟨⟨h7, h8, h10, h11⟩, h9, hN2, hT, hH, hE, hA, hO⟩ := id hS
  have hop : ∀ j, op = some j → j < N := fun j hj => (hO.2 j hj).1
  obtain ⟨D1, e1, d0, d12, d13, d14, d15, dk⟩ := more_D (show N < 60 by omega) hA.1 hop 3
  have K1 : Km D D1 := Km_more ⟨_, d0⟩ dk
  have X1 := hTX.km K1
  have n17 : D1 0 17 = nI (N + 1) := by rw [d0, upd_s]
  unfold B_X12_faultNow_46
  rw [if_pos (Int32.le_refl _), e1, bnd_e]
  obtain ⟨F, eF⟩ : ∃ F, FU = F + 4 := ⟨FU - 4, by have := FU_ge; omega⟩
  rw [eF, show (0 : Int32) = nI 0 from rfl]
  rw [fig_D (c := 0) hn (by omega) (show N < 60 by omega) (by decide) X1.2 n17, X1.1]
  by_cases q0 : n ≤ k
  · have e : k = n := by omega
    subst e
    rw [if_pos q0]
    exact FIN.at hn (fl_ph (ph := 0) h7 h8 h9 (by decide)) K1
  · rw [if_neg q0]
    have hlet := hb (by omega)
    by_cases f0 : f_X2_isFigure (T k) = true
    · rw [if_pos f0]
      obtain ⟨S, es, s22, s23, s24, s25, s26, s27⟩ := start_C (show N < 60 by omega) h11 h10 hop (-1)
      have t11 : S 22 11 = nI (N + 1) := by rw [s22, upd_s]
      have t12 : S 22 12 = grun T M k 22 12 := by rw [s22, upd_n _ _ (by decide)]
      have t7 : S 22 7 = nI k := by rw [s22, upd_n _ _ (by decide)]; exact h7
      have t8 : S 22 8 = -1 := by rw [s22, upd_n _ _ (by decide)]; exact h8
      have t10 : S 22 10 = opI op := by rw [s22, upd_n _ _ (by decide)]; exact h10
      have r1 := run_ok (by omega) h7 h8 (go0_fig (show N < 60 by omega) h9 hlet f0 es t11) t7
      obtain ⟨D2, hD2⟩ : ∃ D2, D2 = st2 D1 18 (3 * N + 0) (T k - 48) := ⟨_, rfl⟩
      have K2 : Km D D2 := K1.tr (by rw [hD2]; exact Km.st _ rfl (by decide))
      have X2 := hTX.km K2
      have n2 : D2 0 17 = nI (N + 1) := by rw [hD2]; exact n17
      rw [← hD2, fig_D (c := 0 + 1) hn (by omega) (show N < 60 by omega) (by decide) X2.2 n2, X2.1]
      obtain ⟨M1, hM1⟩ : ∃ M1, M1 = grun T M (k + 1) := ⟨_, rfl⟩
      have m7 : grun T M (k + 1) 22 7 = nI (k + 1) := by rw [r1]; rfl
      have m8 : grun T M (k + 1) 22 8 = -1 := by rw [r1]; exact t8
      have m9 : grun T M (k + 1) 22 9 = 2 := by rw [r1]; rfl
      have m11 : grun T M (k + 1) 22 11 = nI (N + 1) := by rw [r1]; exact t11
      by_cases q1 : n ≤ k + 1
      · have e : k + 1 = n := by omega
        rw [if_pos q1]
        rw [e] at m7 m8 m9 ⊢
        exact FIN.at hn (fl_ph (ph := 2) m7 m8 m9 (by decide)) K2
      · rw [if_neg q1]
        have g2 := go2 (T (k + 1)) (show N < 60 by omega) m11 m9
        by_cases f1 : f_X2_isFigure (T (k + 1)) = true
        · rw [if_pos f1] at g2 ⊢
          have r2 := run_ok (by omega) m7 m8 g2 m7
          obtain ⟨D3, hD3⟩ : ∃ D3, D3 = st2 D2 18 (3 * N + (0 + 1)) (T (k + 1) - 48) := ⟨_, rfl⟩
          have K3 : Km D D3 := K2.tr (by rw [hD3]; exact Km.st _ rfl (by decide))
          have X3 := hTX.km K3
          have n3 : D3 0 17 = nI (N + 1) := by rw [hD3]; exact n2
          rw [← hD3, fig_D (c := 0 + 1 + 1) hn (by omega) (show N < 60 by omega) (by decide) X3.2 n3, X3.1]
          have p7 : grun T M (k + 1 + 1) 22 7 = nI (k + 1 + 1) := by rw [r2]; rfl
          have p8 : grun T M (k + 1 + 1) 22 8 = -1 := by rw [r2]; exact m8
          have p9 : grun T M (k + 1 + 1) 22 9 = 3 := by rw [r2]; rfl
          have p11 : grun T M (k + 1 + 1) 22 11 = nI (N + 1) := by rw [r2]; exact m11
          by_cases q2 : n ≤ k + 1 + 1
          · have e : k + 1 + 1 = n := by omega
            rw [if_pos q2]
            rw [e] at p7 p8 p9 ⊢
            exact FIN.at hn (fl_ph (ph := 3) p7 p8 p9 (by decide)) K3
          · rw [if_neg q2]
            have g3 := go3 (T (k + 1 + 1)) (show N < 60 by omega) p11 p9
            by_cases f2 : f_X2_isFigure (T (k + 1 + 1)) = true
            · rw [if_pos f2] at g3 ⊢
              have r3 := run_ok (by omega) p7 p8 g3 p7
              obtain ⟨D4, hD4⟩ : ∃ D4, D4 = st2 D3 18 (3 * N + (0 + 1 + 1)) (T (k + 1 + 1) - 48) := ⟨_, rfl⟩
              have K4 : Km D D4 := K3.tr (by rw [hD4]; exact Km.st _ rfl (by decide))
              have X4 := hTX.km K4
              rw [← hD4, L_X12_faultNow_98, if_pos (show (3 : Int32) ≤ nI (0 + 1 + 1 + 1) by decide)]
              obtain ⟨x0, hx0, y0⟩ := fig_nat f0
              obtain ⟨x1, hx1, y1⟩ := fig_nat f1
              obtain ⟨x2, hx2, y2⟩ := fig_nat f2
              rw [y0] at hD2 r1
              rw [y1] at hD3 r2
              rw [y2] at hD4 r3
              have c27 : grun T M (k + 1 + 1 + 1) 27 = upd (upd (upd (grun T M k 27) (3 * N) (nI x0)) (3 * N + 1) (nI x1)) (3 * N + 2) (nI x2) := by
                rw [r3, r2, r1, ← s27]
                rfl
              have c18 : D4 18 = upd (upd (upd (D 18) (3 * N) (nI x0)) (3 * N + 1) (nI x1)) (3 * N + 2) (nI x2) := by
                rw [hD4, hD3, hD2, ← dk 18 (by decide) (by omega)]
                rfl
              have hS4 : S4 (k + 1 + 1 + 1) (grun T M (k + 1 + 1 + 1)) D4 (N + 1) op := by
                have tr := tree_add (M := grun T M k) (D := D) (M1 := grun T M (k + 1 + 1 + 1)) (D1 := D4) (N := N) (op := op) (w := -1) (dw := 3) hT hH hE hA hO
                  (by rw [r3, r2, r1, if_pos rfl, ← t12]; rfl) (by rw [r3, r2, r1, ← s23]; rfl) (by rw [r3, r2, r1, ← s24]; rfl) (by rw [r3, r2, r1, ← s25]; rfl) (by rw [r3, r2, r1, ← s26]; rfl)
                  (fun i hi => by rw [c27, upd_n _ _ (by omega), upd_n _ _ (by omega), upd_n _ _ (by omega)])
                  (by rw [hD4, hD3, hD2]; exact n17) (by rw [hD4, hD3, hD2, ← d12]; rfl) (by rw [hD4, hD3, hD2, ← d13]; rfl) (by rw [hD4, hD3, hD2, ← d14]; rfl) (by rw [hD4, hD3, hD2, ← d15]; rfl)
                  (fun i hi => by rw [c18, upd_n _ _ (by omega), upd_n _ _ (by omega), upd_n _ _ (by omega)])
                  (Or.inl rfl) (fun _ => ⟨rfl, fun c hc => by
                    rw [c27, c18]
                    rcases (show c = 0 ∨ c = 1 ∨ c = 2 by omega) with z | z | z
                    · subst z
                      rw [show 3 * N + 0 = 3 * N from rfl, upd_n _ _ (by omega), upd_n _ _ (by omega), upd_s, upd_n _ _ (by omega), upd_n _ _ (by omega), upd_s]
                      exact ⟨x0, hx0, rfl, rfl⟩
                    · subst z
                      rw [upd_n _ _ (by omega), upd_s, upd_n _ _ (by omega), upd_s]
                      exact ⟨x1, hx1, rfl, rfl⟩
                    · subst z
                      rw [upd_s, upd_s]
                      exact ⟨x2, hx2, rfl, rfl⟩⟩) (fun p hp z => absurd z.symm (nI_n1 (by omega)))
                rw [if_pos rfl] at tr
                obtain ⟨u1, u2, u3, u4⟩ := tr
                refine ⟨⟨by rw [r3]; rfl, by rw [r3]; exact p8, ?_, by rw [r3]; exact p11⟩, by rw [r3]; rfl, by omega, by omega, u1, u2, u3, u4, fun j hj => ?_⟩
                · rw [r3, r2, r1]
                  exact t10
                · obtain ⟨o1, o2, -⟩ := hO.2 j hj
                  refine ⟨by omega, ?_⟩
                  rw [r3, r2, r1]
                  show ¬ S 23 j = -1
                  rw [s23, upd_n _ _ (by omega)]
                  exact o2
              refine FIN.km (sim4 hM (k0 := k) hn X4 (fun k' op' h1 h2 h3 => ih D4 k' (N + 1) op' h1 h2 h3 X4) (n - (k + 1 + 1 + 1)) (k + 1 + 1 + 1) (F + 4) op (by omega) (by omega) (by have := FU_ge; omega) hS4) K4
            · rw [if_neg f2] at g3 ⊢
              exact FIN.at (by omega) (run_bad hM hn (by omega) p7 p8 g3) K3
        · rw [if_neg f1] at g2 ⊢
          exact FIN.at (by omega) (run_bad hM hn (by omega) m7 m8 g2) K2
    · rw [if_neg f0]
      exact FIN.at (by omega) (run_bad hM hn (by omega) h7 h8 (go0_bad h9 hlet f0)) K1
