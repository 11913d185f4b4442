/-! selections: how many of a list have a size and a sum -/
def WL (L : List Nat) (F : Nat → Nat → Bool) : Nat := match L with
  | [] => if F 0 0 = true then 1 else 0
  | x :: L => WL L F + WL L (fun l s => F (l + 1) (s + x))
def sL (L : List Nat) : Nat := match L with
  | [] => 0
  | x :: L => sL L + x
theorem WL_congr : ∀ (L : List Nat) (F G : Nat → Nat → Bool), (∀ x, x ∈ L → x ≤ 10) → (∀ l s, l ≤ L.length → s ≤ sL L → s ≤ 10 * l → sL L - s ≤ 10 * (L.length - l) → F l s = G l s) → WL L F = WL L G
  | [], F, G, _, h => by rw [WL, WL, h 0 0 (Nat.le_refl _) (Nat.le_refl _) (Nat.le_refl _) (Nat.le_refl _)]
  | x :: L, F, G, hx, h => by
    have h10 := hx x (List.mem_cons_self ..)
    rw [WL, WL, WL_congr L F G (fun y hy => hx y (List.mem_cons_of_mem _ hy)) (fun l s h1 h2 h3 h4 => h l s (by rw [List.length_cons]; omega) (by rw [sL]; omega) h3 (by rw [sL, List.length_cons]; omega)),
      WL_congr L (fun l s => F (l + 1) (s + x)) (fun l s => G (l + 1) (s + x)) (fun y hy => hx y (List.mem_cons_of_mem _ hy)) (fun l s h1 h2 h3 h4 => h (l + 1) (s + x) (by rw [List.length_cons]; omega) (by rw [sL]; omega) (by omega) (by rw [sL, List.length_cons]; omega))]
theorem WL_false : ∀ (L : List Nat), WL L (fun _ _ => false) = 0
  | [] => rfl
  | x :: L => by rw [WL, WL_false L]
theorem WL_or : ∀ (L : List Nat) (F G : Nat → Nat → Bool), (∀ l s, F l s = true → G l s = false) → WL L (fun l s => F l s || G l s) = WL L F + WL L G
  | [], F, G, h => by
    rw [WL, WL, WL]
    cases hF : F 0 0
    · simp
    · simp [h 0 0 hF]
  | x :: L, F, G, h => by
    rw [WL, WL, WL, WL_or L F G h, WL_or L (fun l s => F (l + 1) (s + x)) (fun l s => G (l + 1) (s + x)) (fun l s => h (l + 1) (s + x))]
    omega
theorem WL_perm {L M : List Nat} (h : L.Perm M) : ∀ F, WL L F = WL M F := by
  induction h with
  | nil => intro F; rfl
  | cons x _ ih => intro F; rw [WL, WL, ih, ih]
  | swap x y l =>
    intro F
    rw [WL, WL, WL, WL, WL, WL]
    have e : (fun l s => F (l + 1 + 1) (s + x + y)) = (fun l s => F (l + 1 + 1) (s + y + x)) := by
      funext l s
      rw [Nat.add_right_comm s x y]
    rw [e]
    omega
  | trans _ _ h1 h2 => intro F; rw [h1, h2]
theorem WL_le : ∀ (L : List Nat) (F : Nat → Nat → Bool), WL L F ≤ 2 ^ L.length
  | [], F => by rw [WL]; split <;> simp
  | x :: L, F => by
    have h1 := WL_le L F
    have h2 := WL_le L (fun l s => F (l + 1) (s + x))
    rw [WL, List.length_cons, Nat.pow_succ]
    omega
theorem WL_pos : ∀ (L : List Nat) (n : Nat), n ≤ L.length → 0 < WL L (fun l _ => decide (l = n))
  | [], n, h => by
    have : n = 0 := by simpa using h
    subst this
    decide
  | x :: L, n, h => by
    rw [WL]
    rcases Nat.eq_zero_or_pos n with q | q
    · have := WL_pos L n (by omega)
      omega
    · have h2 := WL_pos L (n - 1) (by rw [List.length_cons] at h; omega)
      have e : (fun (l _ : Nat) => decide (l + 1 = n)) = (fun (l _ : Nat) => decide (l = n - 1)) := by
        funext l s
        exact decide_eq_decide.mpr (by omega)
      rw [show WL L (fun l s => decide (l + 1 = n)) = WL L (fun l _ => decide (l = n - 1)) from congrArg (WL L) e]
      omega
theorem WL_comp : ∀ (L : List Nat) (F : Nat → Nat → Bool), (∀ x, x ∈ L → x ≤ 10) → WL L (fun l s => F (L.length - l) (sL L - s)) = WL L F
  | [], F, _ => rfl
  | x :: L, F, hx => by
    have hL : ∀ y, y ∈ L → y ≤ 10 := fun y hy => hx y (List.mem_cons_of_mem _ hy)
    rw [WL, WL, ← WL_comp L F hL, ← WL_comp L (fun l s => F (l + 1) (s + x)) hL, Nat.add_comm]
    congr 1
    · refine WL_congr L _ _ hL (fun l s h1 h2 _ _ => ?_)
      rw [List.length_cons, sL, show L.length + 1 - (l + 1) = L.length - l by omega, show sL L + x - (s + x) = sL L - s by omega]
    · refine WL_congr L _ _ hL (fun l s h1 h2 _ _ => ?_)
      rw [List.length_cons, sL, show L.length + 1 - l = L.length - l + 1 by omega, show sL L + x - s = sL L - s + x by omega]
/-! the masks of a list, its newest first -/
def onL (L : List Nat) (c : Nat) : Nat := match L with
  | [] => 0
  | _ :: L => onL L c + (if c.testBit L.length = true then 1 else 0)
def suL (L : List Nat) (c : Nat) : Nat := match L with
  | [] => 0
  | x :: L => suL L c + (if c.testBit L.length = true then x else 0)
theorem ctn_add (b : Nat → Bool) (m : Nat) : ∀ n, ctn b (m + n) = ctn b m + ctn (fun c => b (m + c)) n
  | 0 => rfl
  | n + 1 => by
    rw [← Nat.add_assoc, ctn_s, ctn_s, ctn_add b m n, Nat.add_assoc]
theorem onL_top : ∀ (L : List Nat) (k c : Nat), L.length ≤ k → onL L (2 ^ k + c) = onL L c ∧ suL L (2 ^ k + c) = suL L c
  | [], _, _, _ => ⟨rfl, rfl⟩
  | x :: L, k, c, h => by
    rw [List.length_cons] at h
    obtain ⟨h1, h2⟩ := onL_top L k c (by omega)
    rw [onL, onL, suL, suL, h1, h2, Nat.testBit_two_pow_add_gt (by omega)]
    exact ⟨rfl, rfl⟩
theorem masks : ∀ (L : List Nat) (F : Nat → Nat → Bool), ctn (fun c => F (onL L c) (suL L c)) (2 ^ L.length) = WL L F
  | [], F => by
    rw [WL]
    show ctn _ 1 = _
    rw [ctn, ctn]
    simp only [onL, suL, Nat.zero_add]
    by_cases h : F 0 0 = true <;> simp [h]
  | x :: L, F => by
    rw [WL, List.length_cons, Nat.pow_succ, Nat.mul_two, ctn_add, ← masks L F, ← masks L (fun l s => F (l + 1) (s + x))]
    congr 1
    · refine ctn_congr _ (fun c hc => ?_)
      rw [onL, suL, Nat.testBit_lt_two_pow hc]
      rfl
    · refine ctn_congr _ (fun c hc => ?_)
      rw [onL, suL, (onL_top L L.length c (Nat.le_refl _)).1, (onL_top L L.length c (Nat.le_refl _)).2, Nat.testBit_two_pow_add_eq, Nat.testBit_lt_two_pow hc]
      rfl
/-! the sums over the sizes -/
theorem WL_sums (L : List Nat) (l0 : Nat) (G : Nat → Bool) : ∀ S, sN (fun s => if G s = true then WL L (fun l s' => decide (l = l0 ∧ s' = s)) else 0) S = WL L (fun l s => decide (l = l0 ∧ s < S) && G s)
  | 0 => by
    rw [sN]
    have e : (fun (l s : Nat) => decide (l = l0 ∧ s < 0) && G s) = (fun _ _ => false) := by
      funext l s
      simp
    rw [e, WL_false]
  | S + 1 => by
    rw [sN, WL_sums L l0 G S]
    have e : (fun (l s : Nat) => decide (l = l0 ∧ s < S + 1) && G s) = (fun l s => (decide (l = l0 ∧ s < S) && G s) || (decide (l = l0 ∧ s = S) && G S)) := by
      funext l s
      by_cases h1 : l = l0
      · by_cases h2 : s = S
        · subst h2; simp [h1]
        · by_cases h3 : s < S
          · simp [h1, h2, h3, show s < S + 1 by omega]
          · simp [h2, h3, show ¬ s < S + 1 by omega]
      · simp [h1]
    rw [e, WL_or _ _ _ (fun l s h => by
      by_cases h2 : s = S
      · subst h2; simp at h
      · simp [h2])]
    congr 1
    cases G S
    · simp [WL_false]
    · simp
theorem WL_push (L : List Nat) (x l s : Nat) : WL (x :: L) (fun l' s' => decide (l' = l ∧ s' = s)) = WL L (fun l' s' => decide (l' = l ∧ s' = s)) + (if 1 ≤ l ∧ x ≤ s then WL L (fun l' s' => decide (l' = l - 1 ∧ s' = s - x)) else 0) := by
  rw [WL]
  congr 1
  by_cases h : 1 ≤ l ∧ x ≤ s
  · rw [if_pos h]
    congr 1
    funext l' s'
    exact decide_eq_decide.mpr (by omega)
  · rw [if_neg h, ← WL_false L]
    congr 1
    funext l' s'
    exact decide_eq_false (by omega)
