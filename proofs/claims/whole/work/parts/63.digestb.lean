/-! the digest: all in a row -/
theorem dgJ_k {C D : Mem} (hI : Inv C D) (kc kd : Int64 → Option (Int64 × Mem)) (v : Int64) (h : ∀ v', ∃ r C1 D1, kc v' = some (r, C1) ∧ kd v' = some (r, D1) ∧ Inv C1 D1) : ∃ r C1 D1, L_X11_digest_6 C kc FU v 0 = some (r, C1) ∧ L_X12_digest_6 D kd FU v 0 = some (r, D1) ∧ Inv C1 D1 := by
  obtain ⟨v', e1, e2⟩ := dgJ hI kc kd v
  rw [e1, e2]
  exact h v'
/-- the class answers with a memory; the model goes on with what it has -/
def GO (D : Mem) (x : Option (Int64 × Mem)) (y : (Int64 → Option (Int64 × Mem)) → Option (Int64 × Mem)) : Prop := ∀ kd, ∃ v' C', x = some (v', C') ∧ y kd = kd v' ∧ Inv C' D
theorem go_pairs {C D : Mem} (hI : Inv C D) (v : Int64) : GO D (f_X11_mixPairs v C) (fun kd => L_X12_digest_45 D (fun (v1_103 : Int64) => Option.bind (f_X12_meanNow (-1) 0 0 D) (fun r_112 => lt_ ((31 * v1_103) + r_112) (fun v1_116 => Option.bind (f_X12_meanNow (-1) 0 1 D) (fun r_126 => lt_ ((31 * v1_116) + r_126) kd)))) FU v (-1)) := by
  intro kd
  unfold f_X11_mixPairs
  obtain ⟨v1, C1, b1, b2, h1⟩ := dgB hI (fun (v3_62 : Int64) (C_62 : Mem) => bnd2 (f_X11_mean (-1) 0 0 C_62) (fun r_67 C_67 => lt_ (f_X11_mix v3_62 r_67) (fun v3_73 => bnd2 (f_X11_mean (-1) 0 1 C_67) (fun r_79 C_79 => some ((f_X11_mix v3_73 r_79), C_79))))) (fun (v1_103 : Int64) => Option.bind (f_X12_meanNow (-1) 0 0 D) (fun r_112 => lt_ ((31 * v1_103) + r_112) (fun v1_116 => Option.bind (f_X12_meanNow (-1) 0 1 D) (fun r_126 => lt_ ((31 * v1_116) + r_126) kd)))) v
  obtain ⟨r2, C2, m1, m2, h2⟩ := dg_mean h1 (w := 0) (by decide)
  obtain ⟨r3, C3, m3, m4, h3⟩ := dg_mean h2 (w := 1) (by decide)
  refine ⟨f_X11_mix (f_X11_mix v1 r2) r3, C3, ?_, ?_, h3⟩
  · rw [b1, show f_X11_mean (-1) 0 0 C1 = _ from m1, bnd2_e, lt_e, show f_X11_mean (-1) 0 1 C2 = _ from m3, bnd2_e]
  · show L_X12_digest_45 D _ FU v (-1) = _
    rw [b2, show f_X12_meanNow (-1) 0 0 D = _ from m2, bnd_e, lt_x, show f_X12_meanNow (-1) 0 1 D = _ from m4, bnd_e, lt_x]
    rfl
theorem go_rows {C D : Mem} (hI : Inv C D) (v : Int64) : GO D (f_X11_mixRowsAndBeliefs v C) (fun kd => Option.bind (f_X12_bestNow (-1) D) (fun r_138 => lt_ ((31 * v) + (r_138.toInt64)) (fun v1_143 => (L_X12_digest_146 D (fun (v1_190 : Int64) => (L_X12_digest_192 D kd FU v1_190 0)) FU v1_143 0)))) := by
  intro kd
  unfold f_X11_mixRowsAndBeliefs
  obtain ⟨r1, C1, a1, a2, h1⟩ := dg_best hI
  obtain ⟨v2, C2, b1, b2, h2⟩ := dgD h1 (fun (v3_61 : Int64) (C_61 : Mem) => (L_X11_mixRowsAndBeliefs_64 (fun (v3_94 : Int64) (C_94 : Mem) => some (v3_94, C_94)) FU v3_61 0 C_61)) (fun (v1_190 : Int64) => (L_X12_digest_192 D kd FU v1_190 0)) (f_X11_mix v r1.toInt64)
  obtain ⟨v3, C3, c1, c2, h3⟩ := dgE h2 (fun (v3_94 : Int64) (C_94 : Mem) => some (v3_94, C_94)) kd v2
  refine ⟨v3, C3, ?_, ?_, h3⟩
  · rw [a1, bnd2_e, lt_e, b1, c1]
  · show Option.bind (f_X12_bestNow (-1) D) _ = _
    rw [a2, bnd_e, lt_e, show 31 * v + r1.toInt64 = f_X11_mix v r1.toInt64 from rfl, b2, c2]
theorem ok_digest {C D : Mem} (hI : Inv C D) : ∃ (r : Int64) (C1 : Mem) (D1 : Mem), f_X11_digest C = some (r, C1) ∧ f_X12_digest D = some (r, D1) ∧ Inv C1 D1 := by
  unfold f_X11_digest f_X12_digest
  refine dgJ_k hI _ _ 17 (fun v1 => ?_)
  obtain ⟨r0, D_37, f1, f2, hI2, -⟩ := fault_both hI
  rw [f2, bnd2_e, lt_e, lt_e, show f_X11_fault C = r0 from f1, show 31 * v1 + r0.toInt64 = f_X11_mix v1 r0.toInt64 from rfl]
  generalize f_X11_mix v1 r0.toInt64 = v2
  obtain ⟨v3, C3, p1, p2, h3⟩ := go_pairs hI2 v2 (fun v1_130 => Option.bind (f_X12_bestNow (-1) D_37) (fun r_138 => lt_ ((31 * v1_130) + (r_138.toInt64)) (fun v1_143 => (L_X12_digest_146 D_37 (fun (v1_190 : Int64) => (L_X12_digest_192 D_37 (fun (v1_219 : Int64) => (L_X12_digest_221 (fun (v1_247 : Int64) (D_247 : Mem) => (L_X12_digest_249 (fun (v1_274 : Int64) (D_274 : Mem) => bnd2 (f_X12_temperNow D_274) (fun r_280 D_280 => lt_ ((31 * v1_274) + (r_280.toInt64)) (fun v1_285 => (L_X12_digest_288 (fun (v1_315 : Int64) (D_315 : Mem) => bnd2 (f_X12_lookedNow D_315) (fun r_321 D_321 => lt_ ((31 * v1_315) + (r_321.toInt64)) (fun v1_326 => (L_X12_digest_329 D_321 (fun (v1_353 : Int64) => some (v1_353, D_321)) FU v1_326 0)))) FU v1_285 0 D_280)))) FU v1_247 0 D_247)) FU v1_219 0 D_37)) FU v1_190 0)) FU v1_143 0))))
  rw [p1, bnd2_e, show L_X12_digest_45 D_37 _ FU v2 (-1) = _ from p2]
  obtain ⟨v4, C4, q1, q2, h4⟩ := go_rows h3 v3 (fun (v1_219 : Int64) => (L_X12_digest_221 (fun (v1_247 : Int64) (D_247 : Mem) => (L_X12_digest_249 (fun (v1_274 : Int64) (D_274 : Mem) => bnd2 (f_X12_temperNow D_274) (fun r_280 D_280 => lt_ ((31 * v1_274) + (r_280.toInt64)) (fun v1_285 => (L_X12_digest_288 (fun (v1_315 : Int64) (D_315 : Mem) => bnd2 (f_X12_lookedNow D_315) (fun r_321 D_321 => lt_ ((31 * v1_315) + (r_321.toInt64)) (fun v1_326 => (L_X12_digest_329 D_321 (fun (v1_353 : Int64) => some (v1_353, D_321)) FU v1_326 0)))) FU v1_285 0 D_280)))) FU v1_247 0 D_247)) FU v1_219 0 D_37))
  rw [q1, bnd2_e, show Option.bind (f_X12_bestNow (-1) D_37) _ = _ from q2]
  unfold f_X11_mixGame
  obtain ⟨v5, C5, D5, s1, s2, h5⟩ := dgF h4 (fun (v3_30 : Int64) (C_30 : Mem) => (L_X11_mixGame_33 (fun (v3_58 : Int64) (C_58 : Mem) => bnd2 (f_X11_temper C_58) (fun r_60 C_60 => some ((f_X11_mix v3_58 (r_60.toInt64)), C_60))) FU v3_30 0 C_30)) (fun (v1_247 : Int64) (D_247 : Mem) => (L_X12_digest_249 (fun (v1_274 : Int64) (D_274 : Mem) => bnd2 (f_X12_temperNow D_274) (fun r_280 D_280 => lt_ ((31 * v1_274) + (r_280.toInt64)) (fun v1_285 => (L_X12_digest_288 (fun (v1_315 : Int64) (D_315 : Mem) => bnd2 (f_X12_lookedNow D_315) (fun r_321 D_321 => lt_ ((31 * v1_315) + (r_321.toInt64)) (fun v1_326 => (L_X12_digest_329 D_321 (fun (v1_353 : Int64) => some (v1_353, D_321)) FU v1_326 0)))) FU v1_285 0 D_280)))) FU v1_247 0 D_247)) v4
  rw [s1, s2]
  obtain ⟨v6, C6, D6, t1, t2, h6⟩ := dgG h5 (fun (v3_58 : Int64) (C_58 : Mem) => bnd2 (f_X11_temper C_58) (fun r_60 C_60 => some ((f_X11_mix v3_58 (r_60.toInt64)), C_60))) (fun (v1_274 : Int64) (D_274 : Mem) => bnd2 (f_X12_temperNow D_274) (fun r_280 D_280 => lt_ ((31 * v1_274) + (r_280.toInt64)) (fun v1_285 => (L_X12_digest_288 (fun (v1_315 : Int64) (D_315 : Mem) => bnd2 (f_X12_lookedNow D_315) (fun r_321 D_321 => lt_ ((31 * v1_315) + (r_321.toInt64)) (fun v1_326 => (L_X12_digest_329 D_321 (fun (v1_353 : Int64) => some (v1_353, D_321)) FU v1_326 0)))) FU v1_285 0 D_280)))) v5
  rw [t1, t2]
  obtain ⟨r7, C7, D7, u1, u2, h7⟩ := temper_both h6
  rw [u1, u2, bnd2_e, bnd2_e, bnd2_e, lt_e, show 31 * v6 + r7.toInt64 = f_X11_mix v6 r7.toInt64 from rfl]
  obtain ⟨v8, C8, D8, w1, w2, h8⟩ := dgH h7 (fun (v1_87 : Int64) (C_87 : Mem) => bnd2 (f_X11_looked C_87) (fun r_89 C_89 => lt_ (f_X11_mix v1_87 (r_89.toInt64)) (fun v1_96 => (L_X11_digest_99 (fun (v1_121 : Int64) (C_121 : Mem) => some (v1_121, C_121)) FU v1_96 0 C_89)))) (fun (v1_315 : Int64) (D_315 : Mem) => bnd2 (f_X12_lookedNow D_315) (fun r_321 D_321 => lt_ ((31 * v1_315) + (r_321.toInt64)) (fun v1_326 => (L_X12_digest_329 D_321 (fun (v1_353 : Int64) => some (v1_353, D_321)) FU v1_326 0)))) (f_X11_mix v6 r7.toInt64)
  rw [w1, w2]
  obtain ⟨r9, C9, D9, x1, x2, h9⟩ := looked_both h8
  rw [x1, x2, bnd2_e, bnd2_e, lt_e, lt_e, show 31 * v8 + r9.toInt64 = f_X11_mix v8 r9.toInt64 from rfl]
  obtain ⟨va, Ca, y1, y2, ha⟩ := dgI h9 (fun (v1_121 : Int64) (C_121 : Mem) => some (v1_121, C_121)) (fun (v1_353 : Int64) => some (v1_353, D9)) (f_X11_mix v8 r9.toInt64)
  rw [y1, y2]
  exact ⟨_, _, _, rfl, rfl, ha⟩
