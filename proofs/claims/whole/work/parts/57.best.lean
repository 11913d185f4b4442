/-! the choice of a player: the first of the best -/
def KM (C : Mem) (a b : Nat) (P E : Nat → Int32) : Mem := up2 (up2 C a P) b E
theorem KM_a (C : Mem) {a b : Nat} (h : a ≠ b) (P E : Nat → Int32) : KM C a b P E a = P := by unfold KM; rw [up2_n _ _ h, up2_s]
theorem KM_b (C : Mem) (a b : Nat) (P E : Nat → Int32) : KM C a b P E b = E := up2_s _ _ _
theorem KM_o (C : Mem) {a b k : Nat} (h1 : k ≠ a) (h2 : k ≠ b) (P E : Nat → Int32) : KM C a b P E k = C k := by unfold KM; rw [up2_n _ _ h2, up2_n _ _ h1]
theorem KM_sa (C : Mem) {a b : Nat} (h : a ≠ b) (P E : Nat → Int32) (i : Nat) (x : Int32) : st2 (KM C a b P E) a i x = KM C a b (upd P i x) E := by
  unfold st2
  rw [KM_a C h]
  unfold KM
  rw [up2_comm _ _ _ (Ne.symm h), up2_up2]
theorem KM_sb (C : Mem) (a b : Nat) (P E : Nat → Int32) (i : Nat) (x : Int32) : st2 (KM C a b P E) b i x = KM C a b P (upd E i x) := by
  unfold st2
  rw [KM_b]
  unfold KM
  rw [up2_up2]
def WW (C : Mem) (v : Int32) (E : Nat → Int32) (i j : Nat) : Int32 := wN (fx C (E j).toNatClampNeg) (C 23 i).toNatClampNeg v
def BS (C : Mem) (v : Int32) (E : Nat → Int32) (i lo hi : Nat) (o : Option Nat) : Prop := (o = none ∧ ∀ j, lo ≤ j → j < hi → ¬ C 24 j = nI i) ∨ ∃ b, o = some b ∧ lo ≤ b ∧ b < hi ∧ C 24 b = nI i ∧ (∀ j, lo ≤ j → j < hi → C 24 j = nI i → WW C v E i j ≤ WW C v E i b) ∧ (∀ j, lo ≤ j → j < b → C 24 j = nI i → WW C v E i j < WW C v E i b)
theorem BS_congr {C : Mem} {v : Int32} {E E' : Nat → Int32} {i lo hi : Nat} {o : Option Nat} (h : ∀ j, lo ≤ j → j < hi → E j = E' j) (hB : BS C v E i lo hi o) : BS C v E' i lo hi o := by
  have w : ∀ j, lo ≤ j → j < hi → WW C v E' i j = WW C v E i j := fun j a b => by unfold WW; rw [h j a b]
  rcases hB with h1 | ⟨b, e, b1, b2, b3, b4, b5⟩
  · exact Or.inl h1
  · refine Or.inr ⟨b, e, b1, b2, b3, fun j j1 j2 j3 => ?_, fun j j1 j2 j3 => ?_⟩
    · rw [w j j1 j2, w b b1 b2]; exact b4 j j1 j2 j3
    · rw [w j j1 (by omega), w b b1 b2]; exact b5 j j1 j2 j3
theorem BS_uni {C : Mem} {v : Int32} {E : Nat → Int32} {i lo hi : Nat} {o o' : Option Nat} (h : BS C v E i lo hi o) (h' : BS C v E i lo hi o') : o = o' := by
  rcases h with ⟨e, n⟩ | ⟨b, e, b1, b2, b3, b4, b5⟩
  · rcases h' with ⟨e', -⟩ | ⟨b', e', c1, c2, c3, -⟩
    · rw [e, e']
    · exact absurd c3 (n b' c1 c2)
  · rcases h' with ⟨e', n⟩ | ⟨b', e', c1, c2, c3, c4, c5⟩
    · exact absurd b3 (n b b1 b2)
    · rcases Nat.lt_trichotomy b b' with z | z | z
      · exact absurd (c5 b b1 z b3) (Int32.not_lt.mpr (b4 b' c1 c2 c3))
      · rw [e, e', z]
      · exact absurd (b5 b' c1 z c3) (Int32.not_lt.mpr (c4 b b1 b2 b3))
theorem BS_up {C : Mem} {v : Int32} {E : Nat → Int32} {i lo h : Nat} {o : Option Nat} (hl : lo ≤ h) (hB : BS C v E i lo h o) : (¬ C 24 h = nI i → BS C v E i lo (h + 1) o) ∧ (C 24 h = nI i → (o = none → BS C v E i lo (h + 1) (some h)) ∧ ∀ b, o = some b → (WW C v E i h ≤ WW C v E i b → BS C v E i lo (h + 1) (some b)) ∧ (¬ WW C v E i h ≤ WW C v E i b → BS C v E i lo (h + 1) (some h))) := by
  have sp : ∀ {j}, j < h + 1 → j = h ∨ j < h := fun hj => by omega
  rcases hB with ⟨e, n⟩ | ⟨b, e, b1, b2, b3, b4, b5⟩
  · subst e
    refine ⟨fun q => Or.inl ⟨rfl, fun j j1 j2 => ?_⟩, fun q => ⟨fun _ => Or.inr ⟨h, rfl, hl, by omega, q, fun j j1 j2 j3 => ?_, fun j j1 j2 j3 => absurd j3 (n j j1 j2)⟩, fun b hb => by cases hb⟩⟩
    · rcases sp j2 with z | z
      · subst z; exact q
      · exact n j j1 z
    · rcases sp j2 with z | z
      · subst z; exact Int32.le_refl _
      · exact absurd j3 (n j j1 z)
  · subst e
    refine ⟨fun q => Or.inr ⟨b, rfl, b1, by omega, b3, fun j j1 j2 j3 => ?_, b5⟩, fun q => ⟨(fun z => by cases z), fun b' hb' => ?_⟩⟩
    · rcases sp j2 with z | z
      · subst z; exact absurd j3 q
      · exact b4 j j1 z j3
    · cases hb'
      refine ⟨fun hw => Or.inr ⟨b, rfl, b1, by omega, b3, fun j j1 j2 j3 => ?_, b5⟩, fun hw => Or.inr ⟨h, rfl, hl, by omega, q, fun j j1 j2 j3 => ?_, fun j j1 j2 j3 => ?_⟩⟩
      · rcases sp j2 with z | z
        · subst z; exact hw
        · exact b4 j j1 z j3
      · rcases sp j2 with z | z
        · subst z; exact Int32.le_refl _
        · exact Int32.le_trans (b4 j j1 z j3) (Int32.le_of_lt (Int32.not_le.mp hw))
      · exact Int32.lt_of_le_of_lt (b4 j j1 j2 j3) (Int32.not_le.mp hw)
theorem BS_dn {C : Mem} {v : Int32} {E : Nat → Int32} {i u hi : Nat} {o : Option Nat} (hu : u < hi) (hB : BS C v E i (u + 1) hi o) : (¬ C 24 u = nI i → BS C v E i u hi o) ∧ (C 24 u = nI i → (o = none → BS C v E i u hi (some u)) ∧ ∀ b, o = some b → (WW C v E i u < WW C v E i b → BS C v E i u hi (some b)) ∧ (¬ WW C v E i u < WW C v E i b → BS C v E i u hi (some u))) := by
  have sp : ∀ {j}, u ≤ j → j = u ∨ u + 1 ≤ j := fun hj => by omega
  rcases hB with ⟨e, n⟩ | ⟨b, e, b1, b2, b3, b4, b5⟩
  · subst e
    refine ⟨fun q => Or.inl ⟨rfl, fun j j1 j2 => ?_⟩, fun q => ⟨fun _ => Or.inr ⟨u, rfl, Nat.le_refl _, hu, q, fun j j1 j2 j3 => ?_, fun j j1 j2 j3 => by omega⟩, fun b hb => by cases hb⟩⟩
    · rcases sp j1 with z | z
      · subst z; exact q
      · exact n j z j2
    · rcases sp j1 with z | z
      · subst z; exact Int32.le_refl _
      · exact absurd j3 (n j z j2)
  · subst e
    refine ⟨fun q => Or.inr ⟨b, rfl, by omega, b2, b3, fun j j1 j2 j3 => ?_, fun j j1 j2 j3 => ?_⟩, fun q => ⟨(fun z => by cases z), fun b' hb' => ?_⟩⟩
    · rcases sp j1 with z | z
      · subst z; exact absurd j3 q
      · exact b4 j z j2 j3
    · rcases sp j1 with z | z
      · subst z; exact absurd j3 q
      · exact b5 j z j2 j3
    · cases hb'
      refine ⟨fun hw => Or.inr ⟨b, rfl, by omega, b2, b3, fun j j1 j2 j3 => ?_, fun j j1 j2 j3 => ?_⟩, fun hw => Or.inr ⟨u, rfl, Nat.le_refl _, hu, q, fun j j1 j2 j3 => ?_, fun j j1 j2 j3 => by omega⟩⟩
      · rcases sp j1 with z | z
        · subst z; exact Int32.le_of_lt hw
        · exact b4 j z j2 j3
      · rcases sp j1 with z | z
        · subst z; exact hw
        · exact b5 j z j2 j3
      · rcases sp j1 with z | z
        · subst z; exact Int32.le_refl _
        · exact Int32.le_trans (b4 j z j2 j3) (Int32.not_lt.mp hw)
/-- an end stands for a node -/
def EN (C : Mem) (N : Nat) (E : Nat → Int32) (i : Nat) : Prop := ∃ e, e < N ∧ E i = nI e ∧ C 23 e = -1
theorem wC {C : Mem} {N : Nat} (hN : N ≤ 60) (hT : TN C N) {P E : Nat → Int32} {j i : Nat} (v : Int32) (hj : j < N) (hE : EN C N E j) {p : Nat} (hp : p ≤ 2) (h23 : C 23 i = nI p) : f_X2_worth (nI j) (nI p) v (KM C 28 29 P E) = some (WW C v E i j) := by
  obtain ⟨e, he, e1, e2⟩ := hE
  have hx : ∀ c, c < 3 → fx C e c ≤ 9 ∧ KM C 28 29 P E 27 (3 * e + c) = nI (fx C e c) := fun c hc => by
    obtain ⟨x, hx, ex⟩ := (hT e he).2.2.2 e2 c hc
    rw [KM_o C (by decide) (by decide)]
    unfold fx
    rw [ex, cl_nI (by omega)]
    exact ⟨hx, rfl⟩
  unfold WW
  rw [worth_C (by omega) (show KM C 28 29 P E 29 j = nI e by rw [KM_b]; exact e1) (by omega) (by omega) hx, e1, h23, cl_nI (by omega), cl_nI (by omega)]
theorem wD {C D : Mem} {N : Nat} (hN : N ≤ 60) (hT : TN C N) (hA : AG C D N) {P E Q : Nat → Int32} {j i : Nat} (v : Int32) (hE : EN C N E j) {p : Nat} (hp : p ≤ 2) (h23 : C 23 i = nI p) : f_X12_worth (E j) (nI p) v (KM D 17 16 P Q) = some (WW C v E i j) := by
  obtain ⟨e, he, e1, e2⟩ := hE
  have hx : ∀ c, c < 3 → fx C e c ≤ 9 ∧ KM D 17 16 P Q 18 (3 * e + c) = nI (fx C e c) := fun c hc => by
    obtain ⟨x, hx, ex⟩ := (hT e he).2.2.2 e2 c hc
    rw [KM_o D (by decide) (by decide), (hA.2 e he).2.2.2.2.2 e2 c hc]
    unfold fx
    rw [ex, cl_nI (by omega)]
    exact ⟨hx, rfl⟩
  unfold WW
  rw [e1, worth_D (by omega) (by omega) hx, h23, cl_nI (by omega), cl_nI (by omega)]
/-- the model looks at the nodes behind u -/
theorem scan_D {C D : Mem} {N u p : Nat} (hN : N ≤ 60) (hT : TN C N) (hA : AG C D N) (hu : u < N) (hp : p ≤ 2) (h23 : C 23 u = nI p) (v : Int32) {E Tk : Nat → Int32} (hE : ∀ j, u < j → j < N → EN C N E j) (kx : Mem → Option Mem) : ∀ m h fuel o, h + m = N → u < h → m < fuel → BS C v E u (u + 1) h o → ∃ o', L_X12_reckons_43 v (nI u) kx fuel (nI h) (KM D 17 16 (upd Tk u (opI o)) E) = kx (KM D 17 16 (upd Tk u (opI o')) E) ∧ BS C v E u (u + 1) N o'
  | 0, h, fuel, o, h1, h2, h3, hB => by
    obtain ⟨f, rfl⟩ : ∃ f, fuel = f + 1 := ⟨fuel - 1, by omega⟩
    have e : h = N := by omega
    subst e
    rw [L_X12_reckons_43, KM_o D (by decide) (by decide), hA.1, if_pos (Int32.le_refl _)]
    exact ⟨o, rfl, hB⟩
  | m + 1, h, fuel, o, h1, h2, h3, hB => by
    obtain ⟨f, rfl⟩ : ∃ f, fuel = f + 1 := ⟨fuel - 1, by omega⟩
    have d12 : D 12 u = nI p := (hA.2 u hu).2.2.2.2.1 p hp h23
    have d13 : D 13 h = C 24 h := (hA.2 h (by omega)).1
    obtain ⟨up, dn⟩ := BS_up (show u + 1 ≤ h by omega) hB
    rw [L_X12_reckons_43, KM_o D (k := 0) (by decide) (by decide), KM_o D (k := 12) (by decide) (by decide), KM_o D (k := 13) (by decide) (by decide), KM_a D (by decide), KM_b, hA.1, if_neg (by rw [le_nI (by omega) (by omega)]; omega), gdn (show u < 60 by omega) (by decide), cl_nI (show u ≤ 1000000 by omega), d12, if_neg (show ¬ (3 : Int32) ≤ nI p from fun q => by have := (le_nI (a := 3) (by decide) (by omega)).mp q; omega), gdn (show h < 60 by omega) (by decide), cl_nI (show h ≤ 1000000 by omega), d13, gdn (show u < 60 by omega) (by decide), upd_s]
    unfold B_X12_reckons_123 B_X12_reckons_130
    rw [gdn (show u < 60 by omega) (by decide), cl_nI (show u ≤ 1000000 by omega), sto_x, lt_e, lt_e, nI_1, KM_sa D (by decide), upd_upd]
    have goN : ∀ o', BS C v E u (u + 1) (h + 1) o' → ∃ o'', L_X12_reckons_43 v (nI u) kx f (nI (h + 1)) (KM D 17 16 (upd Tk u (opI o')) E) = kx (KM D 17 16 (upd Tk u (opI o'')) E) ∧ BS C v E u (u + 1) N o'' := fun o' ho' => scan_D hN hT hA hu hp h23 v hE kx m (h + 1) f o' (by omega) (by omega) (by omega) ho'
    by_cases q : C 24 h = nI u
    · rw [if_pos q]
      obtain ⟨d1, d2⟩ := dn q
      cases o with
      | none =>
        rw [if_pos (show opI none = -1 from rfl)]
        exact goN (some h) (d1 rfl)
      | some b =>
        obtain ⟨d3, d4⟩ := d2 b rfl
        obtain ⟨bl, bN⟩ : u + 1 ≤ b ∧ b < h := by
          rcases hB with ⟨e, -⟩ | ⟨b', e, b1, b2, -⟩
          · cases e
          · cases e; exact ⟨b1, b2⟩
        have eb : opI (some b) = nI b := rfl
        rw [eb, if_neg (nI_n1 (by omega)), gdn (show h < 60 by omega) (by decide), gdn (show u < 60 by omega) (by decide), wD hN hT hA v (hE h (by omega) (by omega)) hp h23, bnd_e, gdn (show u < 60 by omega) (by decide), gdn (show b < 60 by omega) (by decide), gdn (show u < 60 by omega) (by decide), cl_nI (show b ≤ 1000000 by omega), wD hN hT hA v (hE b (by omega) (by omega)) hp h23, bnd_e]
        by_cases w : WW C v E u h ≤ WW C v E u b
        · rw [if_pos w]
          exact goN (some b) (d3 w)
        · rw [if_neg w]
          exact goN (some h) (d4 w)
    · rw [if_neg q]
      exact goN o (up q)
