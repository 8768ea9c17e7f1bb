/-! lists: a mind, what is kept, the air: how the relation goes on when one of them is another -/
theorem upr_upr {g : Mem} {k i : Nat} {a b : Nat → Int32} : upr (upr g k i a) k i b = upr g k i b := by
  funext k' i'
  by_cases h : k' = k ∧ i' = i
  · obtain ⟨rfl, rfl⟩ := h
    rw [upr_eq, upr_eq]
  · rw [upr_ne h, upr_ne h, upr_ne h]
/-- places lo to hi take what stands d behind them -/
def sh (r : Nat → Int32) (lo hi d : Nat) : Nat → Int32 := fun a => if lo ≤ a ∧ a < hi then r (a + d) else r a
theorem sh_in {r : Nat → Int32} {lo hi d a : Nat} (h1 : lo ≤ a) (h2 : a < hi) : sh r lo hi d a = r (a + d) := if_pos ⟨h1, h2⟩
theorem sh_out {r : Nat → Int32} {lo hi d a : Nat} (h : a < lo ∨ hi ≤ a) : sh r lo hi d a = r a := if_neg (by omega)
theorem sh_0 {r : Nat → Int32} {lo hi d : Nat} (h : hi ≤ lo) : sh r lo hi d = r := by
  funext a
  exact sh_out (by omega)
theorem sh_s {r : Nat → Int32} {lo hi d : Nat} (hd : 1 ≤ d) (h : lo < hi) : sh (upd r lo (r (lo + d))) (lo + 1) hi d = sh r lo hi d := by
  funext a
  by_cases h1 : lo + 1 ≤ a ∧ a < hi
  · rw [sh_in h1.1 h1.2, sh_in (by omega) h1.2, upd_n (by omega)]
  · rw [sh_out (by omega)]
    by_cases h2 : a = lo
    · subst h2
      rw [upd_s, sh_in (by omega) h]
    · rw [upd_n h2, sh_out (by omega)]
theorem cpy_sh {r : Nat → Int32} {at_ n : Nat} : va_cpy r r (at_ + 1) at_ n = sh r at_ (at_ + n) 1 := by
  funext a
  unfold va_cpy sh
  split
  · rw [show at_ + 1 + (a - at_) = a + 1 by omega]
  · rfl
theorem RC.mind {Bk Bt D δ : Nat} {g g' : Mem} {σ σ' : Nat → Int32} (h : RC Bk Bt D δ g σ) {l a : Nat} (hl : l < 10) (ha : a ≤ 8) (hc : a ≤ (g 14 l 2).toNatClampNeg) (hg : ∀ k i : Nat, ¬ ((k = 16 ∨ k = 17) ∧ i = l) → g' k i = g k i) (h16 : g' 16 l 1 = nI a) (hσ : ∀ x : Nat, x ≠ 160 + l → ¬ (170 + 16 * l ≤ x ∧ x < 186 + 16 * l) → σ' x = σ x) (hs : σ' (160 + l) = nI a) (hL : ∀ i : Nat, i < a → LR (g' 17 l i) (σ' (170 + 16 * l + 2 * i)) (σ' (171 + 16 * l + 2 * i))) : RC Bk Bt D δ g' σ' := by
  have mzl : mz g' l = a := by unfold mz; rw [h16, nI_clamp (by omega)]
  have mzo : ∀ l', l' ≠ l → mz g' l' = mz g l' := fun l' z => by unfold mz; rw [hg 16 l' (by omega)]
  obtain ⟨h1, h2, h3, h4, h5, h6, h7, h8, h9⟩ := id h
  have hz : ∀ l', l' < 10 → mz g l' ≤ 8 := fun l' z => (h.m z).2
  have hk : ∀ l', l' < 10 → kz g l' ≤ 3 := fun l' z => (h.k z).2
  have hz8 : az g ≤ 64 := h.a.2
  have k18 : ∀ i, g' 18 i = g 18 i := fun i => hg 18 i (by omega)
  have k8 : ∀ i, g' 8 i = g 8 i := fun i => hg 8 i (by omega)
  have k2 : ∀ i, g' 2 i = g 2 i := fun i => hg 2 i (by omega)
  refine ⟨?_, ?_, ?_, ?_, ?_, ?_, ?_, ?_, ?_⟩
  · intro k i x hx
    by_cases e : k = 16 ∧ i = l
    · obtain ⟨rfl, rfl⟩ := e
      have hx1 : x = 1 := by unfold Sc at hx; omega
      subst hx1
      rw [h16]
      exact hs.symm
    · have ho := adr_off hx
      have hn := Sc_ne hx
      rw [hg k i (by omega), hσ _ (fun z => e (by
        have := adr_inj hx (show Sc 16 l 1 by unfold Sc; omega) z
        omega)) (by omega)]
      exact h1 k i x hx
  · intro k i x hx
    by_cases e : k = 16 ∧ i = l
    · obtain ⟨rfl, rfl⟩ := e
      have hx1 : x = 1 := by unfold Sc at hx; omega
      subst hx1
      rw [h16]
      unfold Okv
      refine ⟨?_, ?_, ?_, ?_, ?_, ?_, fun _ => ⟨a, ha, rfl⟩, ?_, ?_, ?_, ?_, ?_, ?_, ?_⟩ <;> (intros; omega)
    · have hn := Sc_ne hx
      rw [hg k i (by omega)]
      exact h2 k i x hx
  · intro l' i hl' hi
    by_cases e : l' = l
    · subst e
      rw [mzl] at hi
      exact hL i hi
    · rw [mzo l' e] at hi
      have := hz l' hl'
      rw [hg 17 l' (by omega), hσ _ (by omega) (by omega), hσ _ (by omega) (by omega)]
      exact h3 l' i hl' hi
  · intro l' i hl' hi
    unfold kz at hi
    rw [k18] at hi
    have hk2 := hk l' hl'
    have hi2 : i < kz g l' := hi
    rw [hg 19 l' (by omega), hσ _ (by omega) (by omega), hσ _ (by omega) (by omega)]
    exact h4 l' i hl' hi
  · intro i hi
    unfold az at hi
    rw [k8] at hi
    have hi2 : i < az g := hi
    rw [hg 9 0 (by omega), hg 10 0 (by omega), hg 11 0 (by omega), hg 12 0 (by omega), hσ _ (by omega) (by omega), hσ _ (by omega) (by omega), hσ _ (by omega) (by omega), hσ _ (by omega) (by omega), hσ _ (by omega) (by omega)]
    exact h5 i hi
  · intro l' hl'
    rw [hg 14 l' (by omega)]
    by_cases e : l' = l
    · subst e
      rw [mzl]
      exact hc
    · rw [mzo l' e]
      exact h6 l' hl'
  · intro z
    rw [k2] at z ⊢
    exact h7 z
  · intro i hi
    unfold az at hi
    rw [k8] at hi
    unfold tk
    rw [hg 9 0 (by omega), hg 10 0 (by omega), hg 12 0 (by omega), k2]
    exact h8 i hi
  · intro l' hl'
    rw [hg 13 l' (by omega)]
    exact h9 l' hl'
theorem RC.kept {Bk Bt D δ : Nat} {g g' : Mem} {σ σ' : Nat → Int32} (h : RC Bk Bt D δ g σ) {l a : Nat} (hl : l < 10) (ha : a ≤ 3) (hg : ∀ k i : Nat, ¬ ((k = 18 ∨ k = 19) ∧ i = l) → g' k i = g k i) (h18 : g' 18 l 1 = nI a) (hσ : ∀ x : Nat, x ≠ 150 + l → ¬ (430 + 6 * l ≤ x ∧ x < 436 + 6 * l) → σ' x = σ x) (hs : σ' (150 + l) = nI a) (hL : ∀ i : Nat, i < a → LR (g' 19 l i) (σ' (430 + 6 * l + 2 * i)) (σ' (431 + 6 * l + 2 * i))) : RC Bk Bt D δ g' σ' := by
  have kzl : kz g' l = a := by unfold kz; rw [h18, nI_clamp (by omega)]
  have kzo : ∀ l', l' ≠ l → kz g' l' = kz g l' := fun l' z => by unfold kz; rw [hg 18 l' (by omega)]
  obtain ⟨h1, h2, h3, h4, h5, h6, h7, h8, h9⟩ := id h
  have hz : ∀ l', l' < 10 → mz g l' ≤ 8 := fun l' z => (h.m z).2
  have hk : ∀ l', l' < 10 → kz g l' ≤ 3 := fun l' z => (h.k z).2
  have hz8 : az g ≤ 64 := h.a.2
  have k16 : ∀ i, g' 16 i = g 16 i := fun i => hg 16 i (by omega)
  have k8 : ∀ i, g' 8 i = g 8 i := fun i => hg 8 i (by omega)
  have k2 : ∀ i, g' 2 i = g 2 i := fun i => hg 2 i (by omega)
  refine ⟨?_, ?_, ?_, ?_, ?_, ?_, ?_, ?_, ?_⟩
  · intro k i x hx
    by_cases e : k = 18 ∧ i = l
    · obtain ⟨rfl, rfl⟩ := e
      have hx1 : x = 1 := by unfold Sc at hx; omega
      subst hx1
      rw [h18]
      exact hs.symm
    · have ho := adr_off hx
      have hn := Sc_ne hx
      rw [hg k i (by omega), hσ _ (fun z => e (by
        have := adr_inj hx (show Sc 18 l 1 by unfold Sc; omega) z
        omega)) (by omega)]
      exact h1 k i x hx
  · intro k i x hx
    by_cases e : k = 18 ∧ i = l
    · obtain ⟨rfl, rfl⟩ := e
      have hx1 : x = 1 := by unfold Sc at hx; omega
      subst hx1
      rw [h18]
      unfold Okv
      refine ⟨?_, ?_, ?_, ?_, ?_, ?_, ?_, fun _ => ⟨a, ha, rfl⟩, ?_, ?_, ?_, ?_, ?_, ?_⟩ <;> (intros; omega)
    · have hn := Sc_ne hx
      rw [hg k i (by omega)]
      exact h2 k i x hx
  · intro l' i hl' hi
    unfold mz at hi
    rw [k16] at hi
    have hz2 := hz l' hl'
    have hi2 : i < mz g l' := hi
    rw [hg 17 l' (by omega), hσ _ (by omega) (by omega), hσ _ (by omega) (by omega)]
    exact h3 l' i hl' hi
  · intro l' i hl' hi
    by_cases e : l' = l
    · subst e
      rw [kzl] at hi
      exact hL i hi
    · rw [kzo l' e] at hi
      have := hk l' hl'
      rw [hg 19 l' (by omega), hσ _ (by omega) (by omega), hσ _ (by omega) (by omega)]
      exact h4 l' i hl' hi
  · intro i hi
    unfold az at hi
    rw [k8] at hi
    have hi2 : i < az g := hi
    rw [hg 9 0 (by omega), hg 10 0 (by omega), hg 11 0 (by omega), hg 12 0 (by omega), hσ _ (by omega) (by omega), hσ _ (by omega) (by omega), hσ _ (by omega) (by omega), hσ _ (by omega) (by omega), hσ _ (by omega) (by omega)]
    exact h5 i hi
  · intro l' hl'
    unfold mz
    rw [hg 14 l' (by omega), k16]
    exact h6 l' hl'
  · intro z
    rw [k2] at z ⊢
    exact h7 z
  · intro i hi
    unfold az at hi
    rw [k8] at hi
    unfold tk
    rw [hg 9 0 (by omega), hg 10 0 (by omega), hg 12 0 (by omega), k2]
    exact h8 i hi
  · intro l' hl'
    rw [hg 13 l' (by omega)]
    exact h9 l' hl'
/-- an entry of the air, on both sides -/
def AE (D T δ : Nat) (g : Mem) (σ : Nat → Int32) (i : Nat) : Prop := (g 9 0 i = σ (490 + 5 * i) ∧ g 10 0 i = σ (491 + 5 * i) ∧ LR (g 11 0 i) (σ (492 + 5 * i)) (σ (493 + 5 * i)) ∧ g 12 0 i = σ (494 + 5 * i)) ∧ (∃ x : Nat, x < 20 ∧ g 9 0 i = nI x) ∧ ∃ t c : Nat, g 10 0 i = nI t ∧ g 12 0 i = nI c ∧ T + δ ≤ t ∧ t ≤ T + 9 ∧ 1 ≤ c ∧ c ≤ 7 ∧ t + 9 * c ≤ D
theorem RC.ae {Bk Bt D δ : Nat} {g : Mem} {σ : Nat → Int32} (h : RC Bk Bt D δ g σ) {i : Nat} (hi : i < az g) : AE D (tk g) δ g σ i := ⟨h.2.2.2.2.1 i hi, h.2.2.2.2.2.2.2.1 i hi⟩
theorem RC.air {Bk Bt D δ δ' : Nat} {g g' : Mem} {σ σ' : Nat → Int32} (h : RC Bk Bt D δ g σ) {a : Nat} (ha : a ≤ 64) (hg : ∀ k i : Nat, ¬ ((8 ≤ k ∧ k ≤ 12) ∧ i = 0) → g' k i = g k i) (h8 : g' 8 0 4 = nI a) (hσ : ∀ x : Nat, x ≠ 6815 → ¬ (490 ≤ x ∧ x < 810) → σ' x = σ x) (hs : σ' 6815 = nI a) (hL : ∀ i : Nat, i < a → AE D (tk g) δ' g' σ' i) : RC Bk Bt D δ' g' σ' := by
  have azl : az g' = a := by unfold az; rw [h8, nI_clamp (by omega)]
  obtain ⟨h1, h2, h3, h4, h5, h6, h7, h8', h9⟩ := id h
  have hz : ∀ l', l' < 10 → mz g l' ≤ 8 := fun l' z => (h.m z).2
  have hk : ∀ l', l' < 10 → kz g l' ≤ 3 := fun l' z => (h.k z).2
  have k16 : ∀ i, g' 16 i = g 16 i := fun i => hg 16 i (by omega)
  have k18 : ∀ i, g' 18 i = g 18 i := fun i => hg 18 i (by omega)
  have k2 : ∀ i, g' 2 i = g 2 i := fun i => hg 2 i (by omega)
  refine ⟨?_, ?_, ?_, ?_, ?_, ?_, ?_, ?_, ?_⟩
  · intro k i x hx
    by_cases e : k = 8
    · subst e
      have hx1 : i = 0 ∧ x = 4 := by unfold Sc at hx; omega
      obtain ⟨rfl, rfl⟩ := hx1
      rw [h8]
      exact hs.symm
    · have ho := adr_off hx
      have hn := Sc_ne hx
      rw [hg k i (by omega), hσ _ (fun z => e (by
        have := adr_inj hx (show Sc 8 0 4 by unfold Sc; omega) z
        omega)) (by omega)]
      exact h1 k i x hx
  · intro k i x hx
    by_cases e : k = 8
    · subst e
      have hx1 : i = 0 ∧ x = 4 := by unfold Sc at hx; omega
      obtain ⟨rfl, rfl⟩ := hx1
      rw [h8]
      unfold Okv
      refine ⟨?_, ?_, ?_, ?_, ?_, ?_, ?_, ?_, fun _ => ⟨a, ha, rfl⟩, ?_, ?_, ?_, ?_, ?_⟩ <;> (intros; omega)
    · have hn := Sc_ne hx
      rw [hg k i (by omega)]
      exact h2 k i x hx
  · intro l' i hl' hi
    unfold mz at hi
    rw [k16] at hi
    have hz2 := hz l' hl'
    have hi2 : i < mz g l' := hi
    rw [hg 17 l' (by omega), hσ _ (by omega) (by omega), hσ _ (by omega) (by omega)]
    exact h3 l' i hl' hi
  · intro l' i hl' hi
    unfold kz at hi
    rw [k18] at hi
    have hk2 := hk l' hl'
    have hi2 : i < kz g l' := hi
    rw [hg 19 l' (by omega), hσ _ (by omega) (by omega), hσ _ (by omega) (by omega)]
    exact h4 l' i hl' hi
  · intro i hi
    rw [azl] at hi
    exact (hL i hi).1
  · intro l' hl'
    unfold mz
    rw [hg 14 l' (by omega), k16]
    exact h6 l' hl'
  · intro z
    rw [k2] at z ⊢
    exact h7 z
  · intro i hi
    rw [azl] at hi
    unfold tk
    rw [k2]
    exact (hL i hi).2
  · intro l' hl'
    rw [hg 13 l' (by omega)]
    exact h9 l' hl'
