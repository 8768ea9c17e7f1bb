section SIM
variable {g0 f0 g f : Mem} {Bk Bt D δ : Nat}
/-- whether a letter is in a mind -/
theorem LR.eqn {a b c : Int32} (h : LR a b c) {q : Nat} (hq : q < 2000) : a = nI q ↔ b = nI (q / 200) ∧ c = nI (q % 200 + 1) := by
  obtain ⟨z, hz, rfl, rfl, rfl⟩ := h
  rw [nI_eq (by omega) (by omega), nI_eq (by omega) (by omega), nI_eq (by omega) (by omega)]
  omega
def anyB (p : Nat → Bool) : Nat → Nat → Bool
  | _, 0 => false
  | i, n + 1 => p i || anyB p (i + 1) n
theorem s_holdsC (h : RR g0 f0 Bk Bt D δ g f) {l q : Nat} (hl : l < 10) {F : Nat} : ∀ (n i : Nat), i + n = mz g l → ∀ k : Nat, n < k → lp_X3_holdsm_2 F k l g (nI q) (nI i) = some (if anyB (fun j => decide (g 17 l j = nI q)) i n = true then 1 else 0, g) := by
  obtain ⟨em, hm⟩ := h.2.2.m hl
  intro n
  induction n with
  | zero =>
    intro i hi k hk
    obtain ⟨k, rfl⟩ : ∃ z, k = z + 1 := ⟨k - 1, by omega⟩
    show st_X3_holdsm_2 F (lp_X3_holdsm_2 F k l) l g (nI q) (nI i) = _
    unfold st_X3_holdsm_2
    rw [em, if_pos ((nI_leI (by omega) (by omega)).mpr (by omega))]
    rfl
  | succ n ih =>
    intro i hi k hk
    obtain ⟨k, rfl⟩ : ∃ z, k = z + 1 := ⟨k - 1, by omega⟩
    show st_X3_holdsm_2 F (lp_X3_holdsm_2 F k l) l g (nI q) (nI i) = _
    unfold st_X3_holdsm_2
    rw [em, if_neg (fun z => by have := (nI_leI (by omega) (by omega)).mp z; omega), if_neg (ckI (by omega) (by omega)), nI_clamp (by omega), nI_1, ih (i + 1) (by omega) k (by omega)]
    by_cases c : g 17 l i = nI q
    · rw [if_pos c]
      simp only [anyB, c, decide_true, Bool.true_or, if_true]
    · rw [if_neg c]
      simp only [anyB, c, decide_false, Bool.false_or]
theorem s_holdsM (h : RR g0 f0 Bk Bt D δ g f) {l q : Nat} (hl : l < 10) (hq : q < 2000) {F : Nat} : ∀ (n i : Nat), i + n = mz g l → ∀ k : Nat, n < k → ∀ a : Int32, (a = 0 ∨ a = 1) → lp_X6_hasInMind_6 F k f (nI l) (nI (q / 200)) (nI (q % 200 + 1)) a (nI i) = some (if a = 1 ∨ anyB (fun j => decide (g 17 l j = nI q)) i n = true then 1 else 0, f) := by
  obtain ⟨em, hm⟩ := h.2.2.m hl
  have e16 : g 16 l 1 = f 1 0 (160 + l) := h.2.2.s (by unfold Sc; omega) rfl
  have i160 : ((160 : Int32) + nI l) = nI (160 + l) := nI_add 160 l
  have c160 : ¬ (nI (160 + l) < 0 ∨ 6819 ≤ (nI (160 + l)).toNatClampNeg) := ckI (by omega) (by omega)
  have n160 : (nI (160 + l)).toNatClampNeg = 160 + l := nI_clamp (by omega)
  have z01 : ¬ ((0 : Int32) = 1) := by decide
  intro n
  induction n with
  | zero =>
    intro i hi k hk a ha
    obtain ⟨k, rfl⟩ : ∃ z, k = z + 1 := ⟨k - 1, by omega⟩
    show st_X6_hasInMind_6 F (lp_X6_hasInMind_6 F k) f (nI l) (nI (q / 200)) (nI (q % 200 + 1)) a (nI i) = _
    unfold st_X6_hasInMind_6
    rw [i160, if_neg c160, n160, ← e16, em, if_pos ((nI_leI (by omega) (by omega)).mpr (by omega)), if_neg (not_not_intro ha)]
    rcases ha with rfl | rfl
    · rfl
    · rfl
  | succ n ih =>
    intro i hi k hk a ha
    obtain ⟨k, rfl⟩ : ∃ z, k = z + 1 := ⟨k - 1, by omega⟩
    have hq2 := (h.2.2.2.2.1 l i hl (by omega)).eqn hq
    show st_X6_hasInMind_6 F (lp_X6_hasInMind_6 F k) f (nI l) (nI (q / 200)) (nI (q % 200 + 1)) a (nI i) = _
    unfold st_X6_hasInMind_6
    rw [i160, if_neg c160, n160, ← e16, em, if_neg (fun z => by have := (nI_leI (by omega) (by omega)).mp z; omega)]
    have ia : ((170 : Int32) + (16 : Int32) * nI l + (2 : Int32) * nI i) = nI (170 + 16 * l + 2 * i) := by simp only [L170, L16, L2, pk_mul, nI_add]
    have ib : (nI (170 + 16 * l + 2 * i) + (1 : Int32)) = nI (171 + 16 * l + 2 * i) := by
      rw [L1, nI_add]
      congr 1
      omega
    rw [ia, ib, if_neg (ckI (show 170 + 16 * l + 2 * i < 6819 by omega) (by omega)), if_neg (ckI (show 171 + 16 * l + 2 * i < 6819 by omega) (by omega)), nI_clamp (show 170 + 16 * l + 2 * i < 2 ^ 31 by omega), nI_clamp (show 171 + 16 * l + 2 * i < 2 ^ 31 by omega), nI_1]
    rw [ih (i + 1) (by omega) k (by omega) 1 (Or.inr rfl), ih (i + 1) (by omega) k (by omega) 0 (Or.inl rfl)]
    rcases ha with rfl | rfl
    · rw [if_pos rfl]
      by_cases c1 : f 1 0 (170 + 16 * l + 2 * i) = nI (q / 200)
      · rw [if_pos c1]
        by_cases c2 : f 1 0 (171 + 16 * l + 2 * i) = nI (q % 200 + 1)
        · have c3 := hq2.mpr ⟨c1, c2⟩
          rw [if_pos c2]
          simp only [anyB, c3, decide_true, Bool.true_or, or_true, true_or, if_true]
        · have c3 : ¬ g 17 l i = nI q := fun z => c2 (hq2.mp z).2
          rw [if_neg c2]
          simp only [anyB, c3, decide_false, Bool.false_or]
      · have c3 : ¬ g 17 l i = nI q := fun z => c1 (hq2.mp z).1
        rw [if_neg c1]
        simp only [anyB, c3, decide_false, Bool.false_or]
    · rw [if_neg (by decide), if_pos (Or.inl rfl), if_pos (Or.inl rfl)]
theorem s_holds (h : RR g0 f0 Bk Bt D δ g f) {l q : Nat} (hl : l < 10) (hq : q < 2000) {F : Nat} (hF : 20 ≤ F) : ∃ b : Int32, (b = 0 ∨ b = 1) ∧ m_X3_holdsm F l g (nI q) = some (b, g) ∧ m_X6_hasInMind F f (nI l) (nI (q / 200)) (nI (q % 200 + 1)) = some (b, f) := by
  obtain ⟨em, hm⟩ := h.2.2.m hl
  have k1 := s_holdsC h (q := q) hl (F := F) (mz g l) 0 (by omega) F (by omega)
  have k2 := s_holdsM h hl hq (F := F) (mz g l) 0 (by omega) F (by omega) 0 (Or.inl rfl)
  have z01 : ¬ ((0 : Int32) = 1) := by decide
  by_cases c : anyB (fun j => decide (g 17 l j = nI q)) 0 (mz g l) = true
  · rw [if_pos c] at k1
    rw [if_pos (Or.inr c)] at k2
    exact ⟨1, Or.inr rfl, k1, k2⟩
  · rw [if_neg c] at k1
    rw [if_neg (fun z => z.elim z01 c)] at k2
    exact ⟨0, Or.inl rfl, k1, k2⟩
end SIM
