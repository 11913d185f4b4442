/-! looked: every order of the known peoples -/
theorem or16 : ∀ mask, mask < 16 → ∀ d, d < 4 → nI mask ||| (1 <<< (nI d &&& 31)) = nI (mask ||| 2 ^ d) ∧ (mask ||| 2 ^ d) < 16 ∧ ((nI mask >>> (nI d &&& 31)) &&& 1 = 1 ↔ (mask >>> d) % 2 = 1) := by decide
theorem dg4 : ∀ v, v < 4 → ∀ c, c < 256 → (nI c >>> ((2 * nI v) &&& 31)) &&& 3 = nI (c / 4 ^ v % 4) := by decide +kernel
theorem pw4 : ∀ m, m < 5 → ((1 : Int32) <<< (nI m &&& 31)) - 1 = nI (2 ^ m - 1) := by decide
theorem sto_e {α : Type} (C : Mem) (k i : Nat) (v : Int32) (f : Mem → α) : sto C k i v f = f (st2 C k i v) := rfl
theorem ctn_s (b : Nat → Bool) (n : Nat) : ctn b (n + 1) = ctn b n + (if b n = true then 1 else 0) := rfl
def vr (k : Nat → Bool) (c : Nat) : Nat → Nat → Nat → Bool
  | 0, _, _ => true
  | s + 1, v, mask => if (mask >>> (c / 4 ^ v % 4)) % 2 = 1 then false else if k v = true then vr k c s (v + 1) (mask ||| 2 ^ (c / 4 ^ v % 4)) else if c / 4 ^ v % 4 = v then vr k c s (v + 1) (mask ||| 2 ^ (c / 4 ^ v % 4)) else false
def vC (k : Nat → Bool) (c : Nat) : Bool := vr k c 4 0 0
def md (m c : Nat) : Nat → Nat → Nat → Nat
  | 0, _, mask => mask
  | s + 1, i, mask => md m c s (i + 1) (mask ||| 2 ^ (c / m ^ i % m))
def vD (m c : Nat) : Bool := decide (md m c m 0 0 = 2 ^ m - 1)
def tuC (k : Nat → Bool) (c : Nat) : List Nat := (List.range 4).map (fun q => if k q = true then c / 4 ^ q % 4 else 0)
def tuD (k : Nat → Bool) (c : Nat) : List Nat := (List.range 4).map (fun q => if k q = true then tI k (c / ctn k 4 ^ ctn k q % ctn k 4) else 0)
theorem orders : ∀ b0 b1 b2 b3, ((List.range 256).filter (vC (kb b0 b1 b2 b3))).map (tuC (kb b0 b1 b2 b3)) = ((List.range (ctn (kb b0 b1 b2 b3) 4 ^ ctn (kb b0 b1 b2 b3) 4)).filter (vD (ctn (kb b0 b1 b2 b3) 4))).map (tuD (kb b0 b1 b2 b3)) := by decide +kernel
theorem some_order : ∀ b0 b1 b2 b3, 0 < ctn (vC (kb b0 b1 b2 b3)) 256 := by decide +kernel
theorem ctn_list (b : Nat → Bool) {α : Type} (t : Nat → α) (h : α → Bool) : ∀ n, ctn (fun c => b c && h (t c)) n = ((((List.range n).filter b).map t).filter h).length
  | 0 => rfl
  | n + 1 => by
    rw [ctn, ctn_list b t h n, List.range_succ, List.filter_append, List.map_append, List.filter_append, List.length_append]
    congr 1
    cases hb : b n
    · simp [hb]
    · cases hh : h (t n)
      · simp [hb, hh]
      · simp [hb, hh]
theorem reord {n : Nat} {C D M : Mem} (hP : RP n C D) (h34 : ∀ p, p < 4 → M 34 p = nI (cP D n p)) {c : Nat} (hc : c < 256) : ∀ s v mask fuel g, v + s = 4 → s < fuel → mask < 16 → (∀ p, p < v → g p = nI (c / 4 ^ p % 4)) → ∃ g', L_X3_reorder_4 (nI c) (fun x => some (true, x)) fuel (nI mask) (nI v) (up2 M 35 g) = some (vr (kn D n) c s v mask, up2 M 35 g') ∧ (vr (kn D n) c s v mask = true → ∀ p, p < 4 → g' p = nI (c / 4 ^ p % 4))
  | 0, v, mask, fuel, g, h1, h2, hm, hg => by
    obtain ⟨f, rfl⟩ : ∃ f, fuel = f + 1 := ⟨fuel - 1, by omega⟩
    have e : v = 4 := by omega
    subst e
    rw [L_X3_reorder_4, if_pos (show (4 : Int32) ≤ nI 4 from Int32.le_refl _)]
    exact ⟨g, rfl, fun _ => hg⟩
  | s + 1, v, mask, fuel, g, h1, h2, hm, hg => by
    obtain ⟨f, rfl⟩ : ∃ f, fuel = f + 1 := ⟨fuel - 1, by omega⟩
    have hd : c / 4 ^ v % 4 < 4 := Nat.mod_lt _ (by decide)
    obtain ⟨o1, o2, o3⟩ := or16 mask hm _ hd
    rw [L_X3_reorder_4, if_neg (show ¬ (4 : Int32) ≤ nI v from fun q => by have := (le_nI (a := 4) (by decide) (by omega)).mp q; omega), lt_e, dg4 v (by omega) c hc, vr]
    by_cases q1 : (mask >>> (c / 4 ^ v % 4)) % 2 = 1
    · rw [if_pos (o3.mpr q1), if_pos q1]
      exact ⟨g, rfl, fun z => by cases z⟩
    · rw [if_neg (fun z => q1 (o3.mp z)), if_neg q1, known_M hP (show v < 4 by omega) (show up2 M 35 g 34 v = _ from by rw [up2_n _ _ (by decide)]; exact h34 v (by omega)), bnd_e]
      have key : B_X3_reorder_44 (nI mask) (nI v) (nI (c / 4 ^ v % 4)) (up2 M 35 g) (L_X3_reorder_4 (nI c) (fun x => some (true, x)) f) = L_X3_reorder_4 (nI c) (fun x => some (true, x)) f (nI (mask ||| 2 ^ (c / 4 ^ v % 4))) (nI (v + 1)) (up2 M 35 (upd g v (nI (c / 4 ^ v % 4)))) := by
        unfold B_X3_reorder_44
        rw [lt_e, o1, gdn (by omega) (by decide), cl_nI (by omega)]
        rw [sto_e, lt_e, nI_1]
        unfold st2
        rw [up2_s, up2_up2]
      have ih := reord hP h34 hc s (v + 1) (mask ||| 2 ^ (c / 4 ^ v % 4)) f (upd g v (nI (c / 4 ^ v % 4))) (by omega) (by omega) o2 (fun p hp => by
        by_cases e : p = v
        · subst e; rw [upd_s]
        · rw [upd_n _ _ e]; exact hg p (by omega))
      rw [key]
      by_cases q2 : kn D n v = true
      · rw [if_pos q2, if_pos q2]
        exact ih
      · rw [if_neg q2, if_neg q2]
        by_cases q3 : c / 4 ^ v % 4 = v
        · rw [if_pos q3, if_pos (show nI (c / 4 ^ v % 4) = nI v by rw [q3])]
          exact ih
        · rw [if_neg q3, if_neg (fun z => q3 ((eq_nI (by omega) (by omega)).mp z))]
          exact ⟨g, rfl, fun z => by cases z⟩
def mx (H : Nat → Int32) : Nat → Int32
  | 0 => 0
  | k + 1 => jmax (mx H k) (jabs (H k))
theorem mx_congr {H G : Nat → Int32} : ∀ k, (∀ j, j < k → H j = G j) → mx H k = mx G k
  | 0, _ => rfl
  | k + 1, h => by rw [mx, mx, mx_congr k (fun j hj => h j (by omega)), h k (by omega)]
theorem great_C {n nT : Nat} {C D M : Mem} {F : Nat → Nat} (hP : RP n C D) (hF : LF D n nT M F) (hn : nT ≤ 6) (h0 : M 36 1 = nI nT) : f_X10_greatest M = some (mx (fun g => TG D n g F) nT) := by
  unfold f_X10_greatest
  refine up_FU (N := nT) (by omega) (fun f b i => L_X10_greatest_4 M (fun v => some v) f b i) (mx (fun g => TG D n g F)) _ (fun f => ?_) (fun f g hg => ?_)
  · show L_X10_greatest_4 M _ (f + 1) _ (nI nT) = _
    rw [L_X10_greatest_4, h0, if_pos (Int32.le_refl _)]
  · show L_X10_greatest_4 M _ (f + 1) _ (nI g) = L_X10_greatest_4 M _ f _ (nI (g + 1))
    rw [L_X10_greatest_4, h0, if_neg (by rw [le_nI (by omega) (by omega)]; omega), tog_C hP hF hn hg, bnd_e, lt_e, lt_e, nI_1]
    rfl
theorem great_D {n nT : Nat} {C D M : Mem} {F : Nat → Nat} (hP : RP n C D) (hF : MF D n M F) (hn : nT ≤ 6) (hT : ∀ k, k < 4 * nT → C 37 k = D 20 k ∧ ∃ j, j ≤ 99 ∧ D 20 k = nI j) (h0 : M 0 26 = nI nT) : f_X12_greatest M = some (mx (fun g => TG D n g F) nT) := by
  unfold f_X12_greatest
  refine up_FU (N := nT) (by omega) (fun f b i => L_X12_greatest_4 M (fun v => some v) f b i) (mx (fun g => TG D n g F)) _ (fun f => ?_) (fun f g hg => ?_)
  · show L_X12_greatest_4 M _ (f + 1) _ (nI nT) = _
    rw [L_X12_greatest_4, h0, if_pos (Int32.le_refl _)]
  · show L_X12_greatest_4 M _ (f + 1) _ (nI g) = L_X12_greatest_4 M _ f _ (nI (g + 1))
    rw [L_X12_greatest_4, h0, if_neg (by rw [le_nI (by omega) (by omega)]; omega), goes_D hP hF hn hT hg, bnd_e, lt_e, am_abs]
    unfold B_X12_greatest_31
    rw [lt_e, lt_e, nI_1, mx]
    unfold jmax
    by_cases h : jabs (TG D n g F) ≤ mx (fun g => TG D n g F) g
    · rw [if_pos h, if_neg (Int32.not_lt.mpr h)]
    · rw [if_neg h, if_pos (Int32.not_le.mp h)]
def hit (D : Mem) (n nT : Nat) (act : Int32) (l : List Nat) : Bool := !(decide (mx (fun g => TG D n g (fun q => l.getD q 0)) nT < act))
theorem look_C {n nT : Nat} {C D M : Mem} (hP : RP n C D) (hM : LF D n nT M (fun p => p)) (hn : nT ≤ 6) (h0 : M 36 1 = nI nT) (act : Int32) (kx : Int32 → Int32 → Mem → Option (Int32 × Mem)) : ∀ s c fuel g, c + s = 256 → s < fuel → ∃ g', L_X11_looked_47 act kx fuel (nI (ctn (vC (kn D n)) c)) (nI (ctn (fun c => vC (kn D n) c && hit D n nT act (tuC (kn D n) c)) c)) (nI c) (up2 M 35 g) = kx (nI (ctn (vC (kn D n)) 256)) (nI (ctn (fun c => vC (kn D n) c && hit D n nT act (tuC (kn D n) c)) 256)) (up2 M 35 g')
  | 0, c, fuel, g, h1, h2 => by
    obtain ⟨f, rfl⟩ : ∃ f, fuel = f + 1 := ⟨fuel - 1, by omega⟩
    have e : c = 256 := by omega
    subst e
    rw [L_X11_looked_47, if_pos (show (256 : Int32) ≤ nI 256 from Int32.le_refl _)]
    exact ⟨g, rfl⟩
  | s + 1, c, fuel, g, h1, h2 => by
    obtain ⟨f, rfl⟩ : ∃ f, fuel = f + 1 := ⟨fuel - 1, by omega⟩
    obtain ⟨g1, e1, e2⟩ := reord hP (fun p hp => (hM.1 p hp).2.1) (show c < 256 by omega) 4 0 0 FU g rfl (by have := FU_ge; omega) (by decide) (fun p hp => absurd hp (Nat.not_lt_zero p))
    rw [L_X11_looked_47, if_neg (show ¬ (256 : Int32) ≤ nI c from fun q => by have := (le_nI (a := 256) (by decide) (by omega)).mp q; omega)]
    have er : f_X3_reorder (nI c) (up2 M 35 g) = some (vC (kn D n) c, up2 M 35 g1) := e1
    rw [er, bnd2_e]
    obtain ⟨g', ih⟩ := look_C hP hM hn h0 act kx s (c + 1) f g1 (by omega) (by omega)
    refine ⟨g', ?_⟩
    rw [← ih]
    unfold B_X11_looked_91 B_X11_looked_93
    by_cases hv : vC (kn D n) c = true
    · have hg1 := e2 hv
      have hF : LF D n nT (up2 M 35 g1) (fun p => c / 4 ^ p % 4) := by
        refine ⟨fun p hp => ?_, fun k hk => ?_⟩
        · rw [up2_n _ _ (by decide), up2_n _ _ (by decide), up2_s]
          exact ⟨(hM.1 p hp).1, (hM.1 p hp).2.1, hg1 p hp, Nat.mod_lt _ (by decide)⟩
        · rw [up2_n _ _ (by decide)]
          exact hM.2 k hk
      rw [if_pos hv, lt_e, great_C hP hF hn (by rw [up2_n _ _ (by decide)]; exact h0), bnd_e]
      have eh : hit D n nT act (tuC (kn D n) c) = !(decide (mx (fun g => TG D n g (fun p => c / 4 ^ p % 4)) nT < act)) := by
        unfold hit
        rw [mx_congr nT (fun g _ => TG_congr (F := fun q => (tuC (kn D n) c).getD q 0) (G := fun p => c / 4 ^ p % 4) (fun q hq hk => ?_))]
        rcases (show q = 0 ∨ q = 1 ∨ q = 2 ∨ q = 3 by omega) with z | z | z | z <;> subst z <;> exact if_pos hk
      rw [ctn, ctn, eh, if_pos hv, hv, Bool.true_and]
      by_cases hh : mx (fun g => TG D n g (fun p => c / 4 ^ p % 4)) nT < act
      · rw [if_pos hh, decide_eq_true hh, lt_e, lt_e, nI_1, nI_1, Int32.add_zero]
        rfl
      · rw [if_neg hh, decide_eq_false hh, lt_e, lt_e, nI_1, nI_1, nI_1]
        rfl
    · have hv' : vC (kn D n) c = false := by simpa using hv
      rw [if_neg hv, lt_e, nI_1, ctn, ctn, hv', Bool.false_and]
      rfl
theorem pows_D {M : Mem} {m : Nat} (hm : m ≤ 4) (h0 : M 0 30 = nI m) (kx : Int32 → Option (Int32 × Mem)) : L_X12_lookedNow_31 M kx FU 1 0 = kx (nI (m ^ m)) := by
  refine up_FU (N := m) (by omega) (fun f b i => L_X12_lookedNow_31 M kx f b i) (fun k => nI (m ^ k)) _ (fun f => ?_) (fun f k hk => ?_)
  · show L_X12_lookedNow_31 M kx (f + 1) _ (nI m) = _
    rw [L_X12_lookedNow_31, h0, if_pos (Int32.le_refl _)]
  · show L_X12_lookedNow_31 M kx (f + 1) _ (nI k) = L_X12_lookedNow_31 M kx f _ (nI (k + 1))
    rw [L_X12_lookedNow_31, h0, if_neg (by rw [le_nI (by omega) (by omega)]; omega), lt_e, lt_e, pk_mul, nI_1, Nat.pow_succ]
theorem dig_D {M : Mem} {m : Nat} {t : Nat → Nat} (hm : m ≤ 4) (hm0 : 0 < m) (h0 : M 0 30 = nI m) (h21 : ∀ i, i < m → M 21 i = nI (t i)) {c : Nat} (hc : c < 256) (kx : Int32 → Mem → Option (Int32 × Mem)) : ∀ s i mask fuel g, i + s = m → s < fuel → mask < 16 → (∀ j, j < i → g j = nI (t (c / m ^ j % m))) → ∃ g', L_X12_lookedNow_76 kx fuel (nI (c / m ^ i)) (nI mask) (nI i) (up2 M 22 g) = kx (nI (md m c s i mask)) (up2 M 22 g') ∧ ∀ j, j < m → g' j = nI (t (c / m ^ j % m))
  | 0, i, mask, fuel, g, h1, h2, hk, hg => by
    obtain ⟨f, rfl⟩ : ∃ f, fuel = f + 1 := ⟨fuel - 1, by omega⟩
    have e : i = m := by omega
    subst e
    rw [L_X12_lookedNow_76, show up2 M 22 g 0 30 = nI i from h0, if_pos (Int32.le_refl _)]
    exact ⟨g, rfl, hg⟩
  | s + 1, i, mask, fuel, g, h1, h2, hk, hg => by
    obtain ⟨f, rfl⟩ : ∃ f, fuel = f + 1 := ⟨fuel - 1, by omega⟩
    have hd : c / m ^ i % m < m := Nat.mod_lt _ hm0
    have hq : c / m ^ i ≤ c := Nat.div_le_self _ _
    obtain ⟨o1, o2, -⟩ := or16 mask hk (c / m ^ i % m) (by omega)
    have e2 : ∀ (x : Int32), st2 (up2 M 22 g) 22 i x = up2 M 22 (upd g i x) := fun x => by
      unfold st2
      rw [up2_s, up2_up2]
    have e3 : ∀ (x : Nat → Int32), up2 M 22 x 0 30 = nI m := fun x => h0
    have e4 : ∀ (x : Nat → Int32), up2 M 22 x 21 = M 21 := fun x => up2_n _ _ (by decide)
    have hm2 : ¬ nI m = 0 := nI_ne0 hm0 (by omega)
    rw [L_X12_lookedNow_76]
    simp only [sto, e3, e4]
    rw [if_neg (by rw [le_nI (by omega) (by omega)]; omega), gd_t (decide_eq_true hm2), pk_rem (by omega) hm0 (by omega), gdn (show c / m ^ i % m < 4 by omega) (by decide), gdn (show i < 4 by omega) (by decide), cl_nI (show c / m ^ i % m ≤ 1000000 by omega), cl_nI (show i ≤ 1000000 by omega), h21 _ hd, e2]
    simp only [e3]
    rw [gd_t (decide_eq_true hm2), pk_rem (by omega) hm0 (by omega), lt_e, o1, gd_t (decide_eq_true hm2), lt_e, pk_div (by omega) hm0 (by omega), lt_e, nI_1, Nat.div_div_eq_div_mul, ← Nat.pow_succ, md]
    exact dig_D hm hm0 h0 h21 hc kx s (i + 1) _ f _ (by omega) (by omega) o2 (fun j hj => by
      by_cases e : j = i
      · subst e; rw [upd_s]
      · rw [upd_n _ _ e]; exact hg j (by omega))
theorem look_D {n nT : Nat} {C D M : Mem} (hP : RP n C D) (hM : MF D n M (fun p => p)) (hn : nT ≤ 6) (hT : ∀ k, k < 4 * nT → C 37 k = D 20 k ∧ ∃ j, j ≤ 99 ∧ D 20 k = nI j) (h0 : M 0 26 = nI nT) (hm0 : 0 < ctn (kn D n) 4) (act : Int32) (kx : Int64 → Int64 → Mem → Option (Int32 × Mem)) {N : Nat} (hN : N ≤ 256) : ∀ s c fuel g, c + s = N → s < fuel → ∃ g', L_X12_lookedNow_60 act (nI N) kx fuel (lN (ctn (vD (ctn (kn D n) 4)) c)) (lN (ctn (fun c => vD (ctn (kn D n) 4) c && hit D n nT act (tuD (kn D n) c)) c)) (nI c) (up2 M 22 g) = kx (lN (ctn (vD (ctn (kn D n) 4)) N)) (lN (ctn (fun c => vD (ctn (kn D n) 4) c && hit D n nT act (tuD (kn D n) c)) N)) (up2 M 22 g')
  | 0, c, fuel, g, h1, h2 => by
    obtain ⟨f, rfl⟩ : ∃ f, fuel = f + 1 := ⟨fuel - 1, by omega⟩
    have e : c = N := by omega
    subst e
    rw [L_X12_lookedNow_60, if_pos (Int32.le_refl _)]
    exact ⟨g, rfl⟩
  | s + 1, c, fuel, g, h1, h2 => by
    obtain ⟨f, rfl⟩ : ∃ f, fuel = f + 1 := ⟨fuel - 1, by omega⟩
    have h4 := ctn_le (kn D n) 4
    rw [L_X12_lookedNow_60, if_neg (by rw [le_nI (by omega) (by omega)]; omega)]
    obtain ⟨g1, e1, e2⟩ := dig_D (t := tI (kn D n)) h4 hm0 hM.2.1 (fun i hi => (hM.2.2 i hi).1) (show c < 256 by omega) (fun (v9_133 : Int32) (D_133 : Mem) => (if v9_133 = ((1 <<< ((D_133 0 30) &&& 31)) - 1) then lt_ (lN (ctn (vD (ctn (kn D n) 4)) c) + 1) (fun v3_149 => Option.bind (f_X12_greatest D_133) (fun r_153 => (if r_153 < act then (B_X12_lookedNow_165 (lN (ctn (fun c => vD (ctn (kn D n) 4) c && hit D n nT act (tuD (kn D n) c)) c)) 0 v3_149 (nI c) D_133 (L_X12_lookedNow_60 act (nI N) kx f)) else (B_X12_lookedNow_165 (lN (ctn (fun c => vD (ctn (kn D n) 4) c && hit D n nT act (tuD (kn D n) c)) c)) 1 v3_149 (nI c) D_133 (L_X12_lookedNow_60 act (nI N) kx f))))) else (B_X12_lookedNow_168 (lN (ctn (vD (ctn (kn D n) 4)) c)) (lN (ctn (fun c => vD (ctn (kn D n) 4) c && hit D n nT act (tuD (kn D n) c)) c)) (nI c) D_133 (L_X12_lookedNow_60 act (nI N) kx f)))) (ctn (kn D n) 4) 0 0 FU g (by omega) (by have := FU_ge; omega) (by decide) (fun p hp => absurd hp (Nat.not_lt_zero p))
    rw [Nat.pow_zero, Nat.div_one] at e1
    rw [show nI 0 = (0 : Int32) from rfl] at e1
    rw [e1]
    obtain ⟨g', ih⟩ := look_D hP hM hn hT h0 hm0 act kx hN s (c + 1) f g1 (by omega) (by omega)
    refine ⟨g', ?_⟩
    rw [← ih, show up2 M 22 g1 0 30 = nI (ctn (kn D n) 4) from hM.2.1, pw4 _ (by omega)]
    unfold B_X12_lookedNow_165 B_X12_lookedNow_168
    have hmd : ∀ s i mask, mask < 16 → md (ctn (kn D n) 4) c s i mask < 16 := by
      intro s
      induction s with
      | zero => intro i mask hk; exact hk
      | succ s ih =>
        intro i mask hk
        rw [md]
        exact ih _ _ (or16 mask hk _ (Nat.lt_of_lt_of_le (Nat.mod_lt _ hm0) h4)).2.1
    have hm1 := hmd (ctn (kn D n) 4) 0 0 (by decide)
    have hm2 : 2 ^ ctn (kn D n) 4 ≤ 2 ^ 4 := Nat.pow_le_pow_right (by decide) h4
    by_cases hv : vD (ctn (kn D n) 4) c = true
    · have hq : md (ctn (kn D n) 4) c (ctn (kn D n) 4) 0 0 = 2 ^ ctn (kn D n) 4 - 1 := of_decide_eq_true hv
      have hF : MF D n (up2 M 22 g1) (fun p => tI (kn D n) (c / ctn (kn D n) 4 ^ ctn (kn D n) p % ctn (kn D n) 4)) := by
        refine ⟨hM.1.tr (Km.up _ rfl (by decide)), hM.2.1, fun i hi => ?_⟩
        rw [up2_n _ _ (by decide), up2_s]
        refine ⟨(hM.2.2 i hi).1, ?_⟩
        rw [e2 i hi]
        show nI _ = nI (tI (kn D n) (c / ctn (kn D n) 4 ^ ctn (kn D n) (tI (kn D n) i) % ctn (kn D n) 4))
        rw [show ctn (kn D n) (tI (kn D n) i) = i from (tI_c _ _ _ _ i (by omega) hi).2.1]
      rw [if_pos (by rw [hq]), lt_e, great_D hP hF hn hT (show up2 M 22 g1 0 26 = nI nT from h0), bnd_e]
      have eh : hit D n nT act (tuD (kn D n) c) = !(decide (mx (fun g => TG D n g (fun p => tI (kn D n) (c / ctn (kn D n) 4 ^ ctn (kn D n) p % ctn (kn D n) 4))) nT < act)) := by
        unfold hit
        rw [mx_congr nT (fun g _ => TG_congr (F := fun q => (tuD (kn D n) c).getD q 0) (G := fun p => tI (kn D n) (c / ctn (kn D n) 4 ^ ctn (kn D n) p % ctn (kn D n) 4)) (fun q hq hk => ?_))]
        rcases (show q = 0 ∨ q = 1 ∨ q = 2 ∨ q = 3 by omega) with z | z | z | z <;> subst z <;> exact if_pos hk
      rw [ctn_s _ c, ctn_s _ c, eh, if_pos hv, hv, Bool.true_and]
      by_cases hh : mx (fun g => TG D n g (fun p => tI (kn D n) (c / ctn (kn D n) 4 ^ ctn (kn D n) p % ctn (kn D n) 4))) nT < act
      · rw [if_pos hh, decide_eq_true hh, lt_e, lt_e, nI_1, lN_1, Int64.add_zero]
        rfl
      · rw [if_neg hh, decide_eq_false hh, lt_e, lt_e, nI_1, lN_1, lN_1]
        rfl
    · have hv' : vD (ctn (kn D n) 4) c = false := by simpa using hv
      rw [if_neg (fun z => hv (decide_eq_true ((eq_nI (by omega) (by omega)).mp z))), lt_e, nI_1, ctn_s _ c, ctn_s _ c, hv', Bool.false_and]
      rfl
theorem looked_both {C D : Mem} (hI : Inv C D) : ∃ (r : Int32) (C1 D1 : Mem), f_X11_looked C = some (r, C1) ∧ f_X12_lookedNow D = some (r, D1) ∧ Inv C1 D1 := by
  obtain ⟨n, hP⟩ := hI.1
  obtain ⟨nT, hn, c0, d0, hT⟩ := hI.2.2.2.1
  obtain ⟨C1, e1, h1⟩ := means_C hP
  obtain ⟨D1, e2, h2⟩ := gathers_D hP
  have hI1 : Inv C1 D1 := hI.keep h1.1 h2.1
  have c1 : C1 36 1 = nI nT := by rw [h1.1.1 36 rfl]; exact c0
  have d1 : D1 0 26 = nI nT := by rw [h2.1.2 26 (by decide) (by decide)]; exact d0
  have h4 := ctn_le (kn D n) 4
  unfold f_X11_looked f_X12_lookedNow
  rw [e1, e2, bnd_e, bnd_e, c1, d1, h1.2.2, h2.2.1]
  by_cases q0 : nI nT = 0
  · rw [if_pos q0, if_pos q0]
    exact ⟨_, _, _, rfl, rfl, hI1⟩
  · rw [if_neg q0, if_neg q0]
    by_cases q1 : (2 : Int32) ≤ nI (ctn (kn D n) 4)
    · have hm : 2 ≤ ctn (kn D n) 4 := (le_nI (a := 2) (by decide) (by omega)).mp q1
      rw [if_pos q1, if_pos q1, great_C hP (LM_LF h1 hT) hn c1, bnd_e, great_D hP (GM_MF h2) hn hT d1, bnd_e, pows_D h4 h2.2.1]
      have hN : ctn (kn D n) 4 ^ ctn (kn D n) 4 ≤ 256 := Nat.le_trans (Nat.pow_le_pow_left h4 _) (Nat.pow_le_pow_right (show 0 < 4 by decide) h4)
      obtain ⟨g1, r1⟩ := look_C hP (LM_LF h1 hT) hn c1 (mx (fun g => TG D n g (fun p => p)) nT) (fun (v2_99 : Int32) (v3_99 : Int32) (C_99 : Mem) => Option.bind (f_X11_millionths v3_99 v2_99) (fun r_101 => some (r_101, C_99))) 256 0 FU (C1 35) rfl (by have := FU_ge; omega)
      obtain ⟨g2, r2⟩ := look_D hP (GM_MF h2) hn hT d1 (by omega) (mx (fun g => TG D n g (fun p => p)) nT) (fun (v3_174 : Int64) (v5_174 : Int64) (D_174 : Mem) => gd (decide (¬ v3_174 = 0)) (some ((((1000000 * v5_174) / v3_174).toInt32), D_174))) hN (ctn (kn D n) 4 ^ ctn (kn D n) 4) 0 FU (D1 22) (by omega) (by have := FU_ge; omega)
      rw [up2_self] at r1 r2
      rw [ctn, ctn, show nI 0 = (0 : Int32) from rfl] at r1
      rw [ctn, ctn, show nI 0 = (0 : Int32) from rfl, show lN 0 = (0 : Int64) from rfl] at r2
      rw [r1, r2]
      have ho := orders (decide (0 < cP D n 0)) (decide (0 < cP D n 1)) (decide (0 < cP D n 2)) (decide (0 < cP D n 3))
      have x1 : ctn (vD (ctn (kn D n) 4)) (ctn (kn D n) 4 ^ ctn (kn D n) 4) = ctn (vC (kn D n)) 256 := by
        have a1 := ctn_list (vC (kn D n)) (tuC (kn D n)) (fun _ => true) 256
        have a2 := ctn_list (vD (ctn (kn D n) 4)) (tuD (kn D n)) (fun _ => true) (ctn (kn D n) 4 ^ ctn (kn D n) 4)
        simp only [Bool.and_true] at a1 a2
        have a3 : ∀ b : Nat → Bool, (fun c => b c) = b := fun b => rfl
        rw [a3] at a1 a2
        rw [a1, a2]
        exact congrArg (fun l => (l.filter (fun _ => true)).length) ho.symm
      have x2 : ∀ h : List Nat → Bool, ctn (fun c => vD (ctn (kn D n) 4) c && h (tuD (kn D n) c)) (ctn (kn D n) 4 ^ ctn (kn D n) 4) = ctn (fun c => vC (kn D n) c && h (tuC (kn D n) c)) 256 := fun h => by
        rw [ctn_list, ctn_list]
        exact congrArg (fun l => (l.filter h).length) ho.symm
      rw [x1, x2]
      have hp : 0 < ctn (vC (kn D n)) 256 := some_order _ _ _ _
      have hl := ctn_le (vC (kn D n)) 256
      have hl2 := ctn_le (fun c => vC (kn D n) c && hit D n nT (mx (fun g => TG D n g (fun p => p)) nT) (tuC (kn D n) c)) 256
      have hz : ¬ lN (ctn (vC (kn D n)) 256) = 0 := fun q => by
        have := (lN0 (by omega)).mp q
        omega
      unfold f_X11_millionths
      rw [if_neg (nI_ne0 hp (by omega)), nI_l (by omega), nI_l (by omega), gd_t (decide_eq_true hz), gd_t (decide_eq_true hz), bnd_e]
      exact ⟨_, _, _, rfl, rfl, hI1.keep (Kp.up _ rfl (by decide) (by decide)) (Km.up _ rfl (by decide))⟩
    · rw [if_neg q1, if_neg q1]
      exact ⟨_, _, _, rfl, rfl, hI1⟩
theorem ok_looked {C D : Mem} (hI : Inv C D) : ∃ (r : Int32) (C1 : Mem) (D1 : Mem), f_X11_looked C = some (r, C1) ∧ f_X12_looked D = some (r, D1) ∧ Inv C1 D1 := by
  unfold f_X12_looked
  rw [bnd2_id]
  exact looked_both hI
