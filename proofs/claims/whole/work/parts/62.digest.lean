/-! the digest -/
def RI (D0 C D : Mem) : Prop := Inv C D ∧ D = D0
theorem gt_n {a k : Nat} (h : k ≤ a) (ha : a ≤ 1000) : ¬ nI a < nI k := by rw [lt_nI (by omega) (by omega)]; omega
theorem ge_n {a k : Nat} (h : k < a) (ha : a ≤ 1000) : ¬ nI a ≤ nI k := by rw [le_nI (by omega) (by omega)]; omega
theorem dgA {C D : Mem} (hI : Inv C D) {a : Int32} (ha : f_X12_isAny a = true) (kc : Int64 → Mem → Option (Int64 × Mem)) (kd : Int64 → Option (Int64 × Mem)) (v : Int64) : ∃ v' C', L_X11_mixPairs_14 a kc FU v 0 C = kc v' C' ∧ L_X12_digest_53 a D kd FU v 0 = kd v' ∧ Inv C' D := by
  have LL := lockF (K := 4) (by decide) (RI D) (fun f v i C => L_X11_mixPairs_14 a kc f v i C) (fun f v i D' => L_X12_digest_53 a D' kd f v i) kc (fun v _ => kd v) (fun f v C D' _ => ?_) (fun f v k C D' hk h => ?_) v C D ⟨hI, rfl⟩
  · obtain ⟨v', C', D', e1, e2, h, rfl⟩ := LL
    exact ⟨v', C', e1, e2, h⟩
  · exact ⟨by show L_X11_mixPairs_14 a kc (f + 1) v (nI 4) C = _; rw [L_X11_mixPairs_14, if_pos (show (4 : Int32) ≤ nI 4 by decide)], by show L_X12_digest_53 a D' kd (f + 1) v (nI 4) = _; rw [L_X12_digest_53, if_pos (show (4 : Int32) ≤ nI 4 by decide)]⟩
  · obtain ⟨h, rfl⟩ := h
    obtain ⟨r1, C1, a1, a2, h1⟩ := dg_many h ha (show k ≤ 3 by omega) (show 0 ≤ 1 by decide)
    obtain ⟨r2, C2, b1, b2, h2⟩ := dg_many h1 ha (show k ≤ 3 by omega) (show 1 ≤ 1 by decide)
    refine ⟨f_X11_mix (f_X11_mix v r1.toInt64) r2.toInt64, C2, D', ⟨h2, rfl⟩, ?_, ?_⟩
    · show L_X11_mixPairs_14 a kc (f + 1) v (nI k) C = _
      rw [L_X11_mixPairs_14, if_neg (show ¬ (4 : Int32) ≤ nI k from ge_n (a := 4) hk (by decide)), show f_X11_many a (nI k) 0 C = _ from a1, bnd2_e, lt_e, show f_X11_many a (nI k) 1 C1 = _ from b1, bnd2_e, lt_e, lt_e, nI_1]
    · show L_X12_digest_53 a D' kd (f + 1) v (nI k) = _
      rw [L_X12_digest_53, if_neg (show ¬ (4 : Int32) ≤ nI k from ge_n (a := 4) hk (by decide)), show f_X12_manyNow a (nI k) 0 D' = _ from a2, bnd_e, lt_e, show f_X12_manyNow a (nI k) 1 D' = _ from b2, bnd_e, lt_e, lt_e, nI_1]
      rfl
theorem m1_any : ∀ k, k < 5 → f_X12_isAny (nI k + (-1)) = true ∧ ¬ (4 : Int32) ≤ nI k + (-1) ∧ nI k + (-1) + 1 = nI (k + 1) + (-1) := by decide
theorem dgB {C D : Mem} (hI : Inv C D) (kc : Int64 → Mem → Option (Int64 × Mem)) (kd : Int64 → Option (Int64 × Mem)) (v : Int64) : ∃ v' C', L_X11_mixPairs_5 kc FU v (-1) C = kc v' C' ∧ L_X12_digest_45 D kd FU v (-1) = kd v' ∧ Inv C' D := by
  have LL := lockF (K := 5) (by decide) (RI D) (fun f v i C => L_X11_mixPairs_5 kc f v (i + (-1)) C) (fun f v i D' => L_X12_digest_45 D' kd f v (i + (-1))) kc (fun v _ => kd v) (fun f v C D' _ => ?_) (fun f v k C D' hk h => ?_) v C D ⟨hI, rfl⟩
  · obtain ⟨v', C', D', e1, e2, h, rfl⟩ := LL
    exact ⟨v', C', e1, e2, h⟩
  · exact ⟨by show L_X11_mixPairs_5 kc (f + 1) v (nI 5 + (-1)) C = _; rw [L_X11_mixPairs_5, if_pos (show (4 : Int32) ≤ nI 5 + (-1) by decide)], by show L_X12_digest_45 D' kd (f + 1) v (nI 5 + (-1)) = _; rw [L_X12_digest_45, if_pos (show (4 : Int32) ≤ nI 5 + (-1) by decide)]⟩
  · obtain ⟨h, rfl⟩ := h
    obtain ⟨m1, m2, m3⟩ := m1_any k hk
    obtain ⟨v1, C1, a1, a2, h1⟩ := dgA h m1 (fun (v3_56 : Int64) (C_56 : Mem) => lt_ (nI k + (-1) + 1) (fun v5_56 => L_X11_mixPairs_5 kc f v3_56 v5_56 C_56)) (fun (v1_97 : Int64) => lt_ (nI k + (-1) + 1) (fun v3_97 => L_X12_digest_45 D' kd f v1_97 v3_97)) v
    refine ⟨v1, C1, D', ⟨h1, rfl⟩, ?_, ?_⟩
    · show L_X11_mixPairs_5 kc (f + 1) v (nI k + (-1)) C = _
      rw [L_X11_mixPairs_5, if_neg m2, a1, lt_e, m3]
    · show L_X12_digest_45 D' kd (f + 1) v (nI k + (-1)) = _
      rw [L_X12_digest_45, if_neg m2, a2, lt_e, m3]
theorem dgC {C D : Mem} (hI : Inv C D) {i n : Nat} (hn : n ≤ 12) (h9 : D 0 9 = nI n) (hi : i < n) (kc : Int64 → Mem → Option (Int64 × Mem)) (kd : Int64 → Option (Int64 × Mem)) (v : Int64) : ∃ v' C', L_X11_mixRowsAndBeliefs_29 (nI i) kc FU v 0 C = kc v' C' ∧ L_X12_digest_157 (nI i) D kd FU v 0 = kd v' ∧ Inv C' D := by
  have LL := lockF (K := 3) (by decide) (RI D) (fun f v j C => L_X11_mixRowsAndBeliefs_29 (nI i) kc f v j C) (fun f v j D' => L_X12_digest_157 (nI i) D' kd f v j) kc (fun v _ => kd v) (fun f v C D' _ => ?_) (fun f v k C D' hk h => ?_) v C D ⟨hI, rfl⟩
  · obtain ⟨v', C', D', e1, e2, h, rfl⟩ := LL
    exact ⟨v', C', e1, e2, h⟩
  · exact ⟨by show L_X11_mixRowsAndBeliefs_29 (nI i) kc (f + 1) v (nI 3) C = _; rw [L_X11_mixRowsAndBeliefs_29, if_pos (show (2 : Int32) < nI 3 by decide)], by show L_X12_digest_157 (nI i) D' kd (f + 1) v (nI 3) = _; rw [L_X12_digest_157, if_pos (show (3 : Int32) ≤ nI 3 by decide)]⟩
  · obtain ⟨h, rfl⟩ := h
    obtain ⟨r1, C1, a1, a2, h1⟩ := dg_line h hn h9 hi (show k ≤ 2 by omega)
    refine ⟨f_X11_mix v r1.toInt64, C1, D', ⟨h1, rfl⟩, ?_, ?_⟩
    · show L_X11_mixRowsAndBeliefs_29 (nI i) kc (f + 1) v (nI k) C = _
      rw [L_X11_mixRowsAndBeliefs_29, if_neg (show ¬ (2 : Int32) < nI k from gt_n (a := 2) (by omega) (by decide)), a1, bnd2_e, lt_e, lt_e, nI_1]
    · show L_X12_digest_157 (nI i) D' kd (f + 1) v (nI k) = _
      rw [L_X12_digest_157, if_neg (show ¬ (3 : Int32) ≤ nI k from ge_n (a := 3) hk (by decide)), a2, bnd_e, lt_e, lt_e, nI_1]
      rfl
theorem dgD {C D : Mem} (hI : Inv C D) (kc : Int64 → Mem → Option (Int64 × Mem)) (kd : Int64 → Option (Int64 × Mem)) (v : Int64) : ∃ v' C', L_X11_mixRowsAndBeliefs_14 kc FU v 0 C = kc v' C' ∧ L_X12_digest_146 D kd FU v 0 = kd v' ∧ Inv C' D := by
  obtain ⟨n, hn, -, d9, -⟩ := hI.2.1
  have c14 : ∀ C', Inv C' D → C' 14 3 = nI n := fun C' h => by
    obtain ⟨n', -, c3, d9', -⟩ := h.2.1
    rw [c3, ← d9', d9]
  have LL := lockF (K := n) (by omega) (RI D) (fun f v j C => L_X11_mixRowsAndBeliefs_14 kc f v j C) (fun f v j D' => L_X12_digest_146 D' kd f v j) kc (fun v _ => kd v) (fun f v C D' h => ?_) (fun f v k C D' hk h => ?_) v C D ⟨hI, rfl⟩
  · obtain ⟨v', C', D', e1, e2, h, rfl⟩ := LL
    exact ⟨v', C', e1, e2, h⟩
  · obtain ⟨h, rfl⟩ := h
    exact ⟨by show L_X11_mixRowsAndBeliefs_14 kc (f + 1) v (nI n) C = _; rw [L_X11_mixRowsAndBeliefs_14, c14 C h, if_pos (Int32.le_refl _)], by show L_X12_digest_146 D' kd (f + 1) v (nI n) = _; rw [L_X12_digest_146, d9, if_pos (Int32.le_refl _)]⟩
  · obtain ⟨h, rfl⟩ := h
    obtain ⟨v1, C1, a1, a2, h1⟩ := dgC h hn d9 hk (fun (v3_55 : Int64) (C_55 : Mem) => lt_ (nI k + 1) (fun v5_55 => L_X11_mixRowsAndBeliefs_14 kc f v3_55 v5_55 C_55)) (fun (v1_184 : Int64) => lt_ (nI k + 1) (fun v3_184 => L_X12_digest_146 D' kd f v1_184 v3_184)) v
    refine ⟨v1, C1, D', ⟨h1, rfl⟩, ?_, ?_⟩
    · show L_X11_mixRowsAndBeliefs_14 kc (f + 1) v (nI k) C = _
      rw [L_X11_mixRowsAndBeliefs_14, c14 C h, if_neg (ge_n hk (by omega)), a1, lt_e, nI_1]
    · show L_X12_digest_146 D' kd (f + 1) v (nI k) = _
      rw [L_X12_digest_146, d9, if_neg (ge_n hk (by omega)), a2, lt_e, nI_1]
theorem dgE {C D : Mem} (hI : Inv C D) (kc : Int64 → Mem → Option (Int64 × Mem)) (kd : Int64 → Option (Int64 × Mem)) (v : Int64) : ∃ v' C', L_X11_mixRowsAndBeliefs_64 kc FU v 0 C = kc v' C' ∧ L_X12_digest_192 D kd FU v 0 = kd v' ∧ Inv C' D := by
  obtain ⟨⟨n, hn, -, d12, -⟩, -⟩ := hI.2.2.1
  have c18 : ∀ C', Inv C' D → C' 18 3 = nI n := fun C' h => by
    obtain ⟨⟨n', -, c3, d9', -⟩, -⟩ := h.2.2.1
    rw [c3, ← d9', d12]
  have LL := lockF (K := n) (by omega) (RI D) (fun f v j C => L_X11_mixRowsAndBeliefs_64 kc f v j C) (fun f v j D' => L_X12_digest_192 D' kd f v j) kc (fun v _ => kd v) (fun f v C D' h => ?_) (fun f v k C D' hk h => ?_) v C D ⟨hI, rfl⟩
  · obtain ⟨v', C', D', e1, e2, h, rfl⟩ := LL
    exact ⟨v', C', e1, e2, h⟩
  · obtain ⟨h, rfl⟩ := h
    exact ⟨by show L_X11_mixRowsAndBeliefs_64 kc (f + 1) v (nI n) C = _; rw [L_X11_mixRowsAndBeliefs_64, c18 C h, if_pos (Int32.le_refl _)], by show L_X12_digest_192 D' kd (f + 1) v (nI n) = _; rw [L_X12_digest_192, d12, if_pos (Int32.le_refl _)]⟩
  · obtain ⟨h, rfl⟩ := h
    obtain ⟨r1, C1, a1, a2, h1⟩ := dg_his h hn d12 hk
    refine ⟨f_X11_mix v r1.toInt64, C1, D', ⟨h1, rfl⟩, ?_, ?_⟩
    · show L_X11_mixRowsAndBeliefs_64 kc (f + 1) v (nI k) C = _
      rw [L_X11_mixRowsAndBeliefs_64, c18 C h, if_neg (ge_n hk (by omega)), a1, bnd2_e, lt_e, lt_e, nI_1]
    · show L_X12_digest_192 D' kd (f + 1) v (nI k) = _
      rw [L_X12_digest_192, d12, if_neg (ge_n hk (by omega)), a2, bnd_e, lt_e, lt_e, nI_1]
      rfl
theorem dgF {C D : Mem} (hI : Inv C D) (kc kd : Int64 → Mem → Option (Int64 × Mem)) (v : Int64) : ∃ v' C' D', L_X11_mixGame_5 kc FU v 0 C = kc v' C' ∧ L_X12_digest_221 kd FU v 0 D = kd v' D' ∧ Inv C' D' := by
  refine lockF (K := 6) (by decide) Inv (fun f v i C => L_X11_mixGame_5 kc f v i C) (fun f v i D' => L_X12_digest_221 kd f v i D') kc kd (fun f v C D' _ => ?_) (fun f v k C D' hk h => ?_) v C D hI
  · exact ⟨by show L_X11_mixGame_5 kc (f + 1) v (nI 6) C = _; rw [L_X11_mixGame_5, if_pos (show (5 : Int32) < nI 6 by decide)], by show L_X12_digest_221 kd (f + 1) v (nI 6) D' = _; rw [L_X12_digest_221, if_pos (show (6 : Int32) ≤ nI 6 by decide)]⟩
  · obtain ⟨r1, C1, D1, a1, a2, h1⟩ := dg_reck h (show 0 ≤ 40 by decide) (show k ≤ 5 by omega)
    refine ⟨f_X11_mix v r1.toInt64, C1, D1, h1, ?_, ?_⟩
    · show L_X11_mixGame_5 kc (f + 1) v (nI k) C = _
      rw [L_X11_mixGame_5, if_neg (show ¬ (5 : Int32) < nI k from gt_n (a := 5) (by omega) (by decide)), show f_X11_reckon 0 (nI k) C = _ from a1, bnd2_e, lt_e, lt_e, nI_1]
    · show L_X12_digest_221 kd (f + 1) v (nI k) D' = _
      rw [L_X12_digest_221, if_neg (show ¬ (6 : Int32) ≤ nI k from ge_n (a := 6) hk (by decide)), show f_X12_reckonNow 0 (nI k) D' = _ from a2, bnd2_e, lt_e, lt_e, nI_1]
      rfl
theorem dgG {C D : Mem} (hI : Inv C D) (kc kd : Int64 → Mem → Option (Int64 × Mem)) (v : Int64) : ∃ v' C' D', L_X11_mixGame_33 kc FU v 0 C = kc v' C' ∧ L_X12_digest_249 kd FU v 0 D = kd v' D' ∧ Inv C' D' := by
  refine lockF (K := 3) (by decide) Inv (fun f v i C => L_X11_mixGame_33 kc f v i C) (fun f v i D' => L_X12_digest_249 kd f v i D') kc kd (fun f v C D' _ => ?_) (fun f v k C D' hk h => ?_) v C D hI
  · exact ⟨by show L_X11_mixGame_33 kc (f + 1) v (nI 3) C = _; rw [L_X11_mixGame_33, if_pos (show (2 : Int32) < nI 3 by decide)], by show L_X12_digest_249 kd (f + 1) v (nI 3) D' = _; rw [L_X12_digest_249, if_pos (show (3 : Int32) ≤ nI 3 by decide)]⟩
  · obtain ⟨r1, C1, D1, a1, a2, h1⟩ := dg_reck h (show 4 ≤ 40 by decide) (show k ≤ 5 by omega)
    refine ⟨f_X11_mix v r1.toInt64, C1, D1, h1, ?_, ?_⟩
    · show L_X11_mixGame_33 kc (f + 1) v (nI k) C = _
      rw [L_X11_mixGame_33, if_neg (show ¬ (2 : Int32) < nI k from gt_n (a := 2) (by omega) (by decide)), show f_X11_reckon 4 (nI k) C = _ from a1, bnd2_e, lt_e, lt_e, nI_1]
    · show L_X12_digest_249 kd (f + 1) v (nI k) D' = _
      rw [L_X12_digest_249, if_neg (show ¬ (3 : Int32) ≤ nI k from ge_n (a := 3) hk (by decide)), show f_X12_reckonNow 4 (nI k) D' = _ from a2, bnd2_e, lt_e, lt_e, nI_1]
      rfl
theorem dgH {C D : Mem} (hI : Inv C D) (kc kd : Int64 → Mem → Option (Int64 × Mem)) (v : Int64) : ∃ v' C' D', L_X11_digest_59 kc FU v 0 C = kc v' C' ∧ L_X12_digest_288 kd FU v 0 D = kd v' D' ∧ Inv C' D' := by
  obtain ⟨n, hn, -, d26, -⟩ := hI.2.2.2.1
  have c36 : ∀ C' D', Inv C' D' → D' 0 26 = nI n → C' 36 1 = nI n := fun C' D' h hd => by
    obtain ⟨n', -, c3, d9', -⟩ := h.2.2.2.1
    rw [c3, ← d9', hd]
  have LL := lockF (K := n) (by omega) (fun C D => Inv C D ∧ D 0 26 = nI n) (fun f v i C => L_X11_digest_59 kc f v i C) (fun f v i D' => L_X12_digest_288 kd f v i D') kc kd (fun f v C D' h => ?_) (fun f v k C D' hk h => ?_) v C D ⟨hI, d26⟩
  · obtain ⟨v', C', D', e1, e2, h, -⟩ := LL
    exact ⟨v', C', D', e1, e2, h⟩
  · exact ⟨by show L_X11_digest_59 kc (f + 1) v (nI n) C = _; rw [L_X11_digest_59, c36 C D' h.1 h.2, if_pos (Int32.le_refl _)], by show L_X12_digest_288 kd (f + 1) v (nI n) D' = _; rw [L_X12_digest_288, h.2, if_pos (Int32.le_refl _)]⟩
  · obtain ⟨r1, C1, D1, a1, a2, h1, h2⟩ := dg_goes h.1 hn h.2 hk
    refine ⟨f_X11_mix v r1.toInt64, C1, D1, ⟨h1, h2⟩, ?_, ?_⟩
    · show L_X11_digest_59 kc (f + 1) v (nI k) C = _
      rw [L_X11_digest_59, c36 C D' h.1 h.2, if_neg (ge_n hk (by omega)), a1, bnd2_e, lt_e, lt_e, nI_1]
    · show L_X12_digest_288 kd (f + 1) v (nI k) D' = _
      rw [L_X12_digest_288, h.2, if_neg (ge_n hk (by omega)), a2, bnd2_e, lt_e, lt_e, nI_1]
      rfl
theorem dgI {C D : Mem} (hI : Inv C D) (kc : Int64 → Mem → Option (Int64 × Mem)) (kd : Int64 → Option (Int64 × Mem)) (v : Int64) : ∃ v' C', L_X11_digest_99 kc FU v 0 C = kc v' C' ∧ L_X12_digest_329 D kd FU v 0 = kd v' ∧ Inv C' D := by
  have LL := lockF (K := 5) (by decide) (RI D) (fun f v j C => L_X11_digest_99 kc f v j C) (fun f v j D' => L_X12_digest_329 D' kd f v j) kc (fun v _ => kd v) (fun f v C D' _ => ?_) (fun f v k C D' hk h => ?_) v C D ⟨hI, rfl⟩
  · obtain ⟨v', C', D', e1, e2, h, rfl⟩ := LL
    exact ⟨v', C', e1, e2, h⟩
  · exact ⟨by show L_X11_digest_99 kc (f + 1) v (nI 5) C = _; rw [L_X11_digest_99, if_pos (show (4 : Int32) < nI 5 by decide)], by show L_X12_digest_329 D' kd (f + 1) v (nI 5) = _; rw [L_X12_digest_329, if_pos (show (5 : Int32) ≤ nI 5 by decide)]⟩
  · obtain ⟨h, rfl⟩ := h
    obtain ⟨r1, C1, a1, a2, h1⟩ := dg_learnt h (show k ≤ 4 by omega)
    refine ⟨f_X11_mix v r1.toInt64, C1, D', ⟨h1, rfl⟩, ?_, ?_⟩
    · show L_X11_digest_99 kc (f + 1) v (nI k) C = _
      rw [L_X11_digest_99, if_neg (show ¬ (4 : Int32) < nI k from gt_n (a := 4) (by omega) (by decide)), a1, bnd2_e, lt_e, lt_e, nI_1]
    · show L_X12_digest_329 D' kd (f + 1) v (nI k) = _
      rw [L_X12_digest_329, if_neg (show ¬ (5 : Int32) ≤ nI k from ge_n (a := 5) hk (by decide)), a2, bnd_e, lt_e, lt_e, nI_1]
      rfl
theorem dgJ {C D : Mem} (hI : Inv C D) (kc kd : Int64 → Option (Int64 × Mem)) (v : Int64) : ∃ v', L_X11_digest_6 C kc FU v 0 = kc v' ∧ L_X12_digest_6 D kd FU v 0 = kd v' := by
  have LL := lockF (K := 8) (by decide) (fun C' D' => Inv C' D' ∧ C' = C ∧ D' = D) (fun f v j C => L_X11_digest_6 C kc f v j) (fun f v j D' => L_X12_digest_6 D' kd f v j) (fun v _ => kc v) (fun v _ => kd v) (fun f v C D' _ => ?_) (fun f v k C' D' hk h => ?_) v C D ⟨hI, rfl, rfl⟩
  · obtain ⟨v', C', D', e1, e2, h, rfl, rfl⟩ := LL
    exact ⟨v', e1, e2⟩
  · exact ⟨by show L_X11_digest_6 C kc (f + 1) v (nI 8) = _; rw [L_X11_digest_6, if_pos (show (7 : Int32) < nI 8 by decide)], by show L_X12_digest_6 D' kd (f + 1) v (nI 8) = _; rw [L_X12_digest_6, if_pos (show (8 : Int32) ≤ nI 8 by decide)]⟩
  · obtain ⟨r1, a1, a2, h1⟩ := ok_count h.1 (nI k)
    refine ⟨f_X11_mix v r1.toInt64, C', D', h, ?_, ?_⟩
    · show L_X11_digest_6 C' kc (f + 1) v (nI k) = _
      rw [L_X11_digest_6, if_neg (show ¬ (7 : Int32) < nI k from gt_n (a := 7) (by omega) (by decide)), a1, bnd_e, lt_e, lt_e, nI_1]
    · show L_X12_digest_6 D' kd (f + 1) v (nI k) = _
      rw [L_X12_digest_6, if_neg (show ¬ (8 : Int32) ≤ nI k from ge_n (a := 8) hk (by decide)), a2, bnd_e, lt_e, lt_e, nI_1]
      rfl
