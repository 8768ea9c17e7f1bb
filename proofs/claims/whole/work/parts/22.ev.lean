/-! the simple methods in plain words, at plain numbers -/
theorem E_sleeps {f : Mem} {l : Nat} (hl : l < 10) : m_X6_sleeps f (nI l) = some (if f 1 0 (60 + l) = 1 then 1 else 0, f) := by
  unfold m_X6_sleeps
  rw [show ((60 : Int32) + nI l) = nI (60 + l) from nI_add 60 l, if_neg (ckI (by omega) (by omega)), nI_clamp (by omega)]
  by_cases c : f 1 0 (60 + l) = 1
  · rw [if_pos c, if_pos c]
  · rw [if_neg c, if_neg c]
theorem E_letter0 {f : Mem} {q : Nat} (hq : q < 2000) : m_X6_letter f (nI (q / 200)) (nI (q % 200 + 1)) 0 = some (f 1 0 (810 + 3 * q), f) := by
  unfold m_X6_letter
  rw [show ((810 : Int32) + (3 : Int32) * ((200 : Int32) * nI (q / 200) + nI (q % 200 + 1) - (1 : Int32)) + 0) = nI (810 + 3 * q) by
    simp (disch := omega) only [L2, L3, L4, L5, L6, L7, L8, L9, L10, L13, L16, L20, L30, L31, L40, L50, L60, L64, L70, L80, L90, L99, L100, L110, L120, L130, L140, L150, L160, L170, L200, L330, L430, L490, L810, L1000, L6819, L1, nI_add, pk_mul, nI_clamp, ngF, leF, or_self, if_false, ltm, Option.bind_some, sbI]
    rw [← nI_0, nI_add]
    congr 1
    omega]
  rw [if_neg (ckI (by omega) (by omega)), nI_clamp (by omega)]
theorem E_letter1 {f : Mem} {q : Nat} (hq : q < 2000) : m_X6_letter f (nI (q / 200)) (nI (q % 200 + 1)) 1 = some (f 1 0 (811 + 3 * q), f) := by
  unfold m_X6_letter
  rw [show ((810 : Int32) + (3 : Int32) * ((200 : Int32) * nI (q / 200) + nI (q % 200 + 1) - (1 : Int32)) + 1) = nI (811 + 3 * q) by
    simp (disch := omega) only [L2, L3, L4, L5, L6, L7, L8, L9, L10, L13, L16, L20, L30, L31, L40, L50, L60, L64, L70, L80, L90, L99, L100, L110, L120, L130, L140, L150, L160, L170, L200, L330, L430, L490, L810, L1000, L6819, L1, nI_add, pk_mul, nI_clamp, ngF, leF, or_self, if_false, ltm, Option.bind_some, sbI]
    congr 1
    omega]
  rw [if_neg (ckI (by omega) (by omega)), nI_clamp (by omega)]
theorem E_letter2 {f : Mem} {q : Nat} (hq : q < 2000) : m_X6_letter f (nI (q / 200)) (nI (q % 200 + 1)) 2 = some (f 1 0 (812 + 3 * q), f) := by
  unfold m_X6_letter
  rw [show ((810 : Int32) + (3 : Int32) * ((200 : Int32) * nI (q / 200) + nI (q % 200 + 1) - (1 : Int32)) + 2) = nI (812 + 3 * q) by
    simp (disch := omega) only [L2, L3, L4, L5, L6, L7, L8, L9, L10, L13, L16, L20, L30, L31, L40, L50, L60, L64, L70, L80, L90, L99, L100, L110, L120, L130, L140, L150, L160, L170, L200, L330, L430, L490, L810, L1000, L6819, L1, nI_add, pk_mul, nI_clamp, ngF, leF, or_self, if_false, ltm, Option.bind_some, sbI]
    congr 1
    omega]
  rw [if_neg (ckI (by omega) (by omega)), nI_clamp (by omega)]
section SIM
variable {g0 f0 g f : Mem} {Bk Bt D δ : Nat}
/-- KNOWS -/
theorem s_knows (h : RR g0 f0 Bk Bt D δ g f) (hB : Bk < 1000000) {l q : Nat} (hl : l < 10) (hq : q < 2000) : ∃ b : Int32, (b = 0 ∨ b = 1) ∧ m_X4_knows g (nI l) (nI q) = some (b, g) ∧ m_X6_knows f (nI l) (nI (q / 200)) (nI (q % 200 + 1)) = some (b, f) := by
  have e0 : g 5 0 q = f 1 0 (810 + 3 * q) := h.2.2.s (by unfold Sc; omega) rfl
  have e1 : g 2 0 4 = f 1 0 6811 := h.2.2.s (by unfold Sc; omega) rfl
  have e2 : g 2 0 5 = f 1 0 6812 := h.2.2.s (by unfold Sc; omega) rfl
  have e3 : g 2 0 6 = f 1 0 6813 := h.2.2.s (by unfold Sc; omega) rfl
  have e4 : g 2 0 7 = f 1 0 6814 := h.2.2.s (by unfold Sc; omega) rfl
  obtain ⟨k, hk, ek⟩ := (h.2.2.2.1 2 0 4 (by unfold Sc; omega)).2.2.2.2.2.2.2.2.2.2.1 rfl rfl
  obtain ⟨p, hp, ep⟩ := (h.2.2.2.1 2 0 5 (by unfold Sc; omega)).2.2.2.2.2.2.2.2.2.2.2.1 rfl rfl
  have hx := h.2.2.2.2.2.2.2.2.1
  have hne : ¬ f 1 0 6811 = f 1 0 6811 + 1 := by
    rw [← e1, ek, nI_1]
    intro z
    have := nIi (by omega) (by omega) z
    omega
  unfold m_X4_knows m_X6_knows
  rw [if_neg (ckI hq (by omega)), nI_clamp (by omega), E_letter0 hq, Option.bind_some, e0, e1, e3, e4]
  simp only [p_isIn, p_isOf, Option.bind_some]
  by_cases c1 : f 1 0 (810 + 3 * q) = f 1 0 6811
  · rw [if_pos c1, if_pos c1, c1, if_neg hne, if_neg (not_not_intro (isI01 _ _))]
    rcases isI01 (f 1 0 6813) (nI l) with z | z
    · exact ⟨0, Or.inl rfl, by rw [z]; rfl, by rw [z]⟩
    · exact ⟨1, Or.inr rfl, by rw [z]; rfl, by rw [z]⟩
  · rw [if_neg c1, if_neg c1]
    by_cases c2 : f 1 0 (810 + 3 * q) = f 1 0 6811 + 1
    · rw [if_pos c2, if_pos c2]
      by_cases c3 : f 1 0 6812 ≤ 0
      · rw [if_pos c3]
        have hz : isI (f 1 0 6814) (nI l) = 0 := by
          rw [← e4, hx (by
            rw [ep]
            rw [← e2, ep, ← nI_0] at c3
            rw [show p = 0 by have := (nI_leI (by omega) (by omega)).mp c3; omega]
            rfl)]
          exact isI_0 hl
        exact ⟨0, Or.inl rfl, by rw [hz]; rfl, rfl⟩
      · rw [if_neg c3]
        rcases isI01 (f 1 0 6814) (nI l) with z | z
        · exact ⟨0, Or.inl rfl, by rw [z]; rfl, by rw [z]; rfl⟩
        · exact ⟨1, Or.inr rfl, by rw [z]; rfl, by rw [z]; rfl⟩
    · rw [if_neg c2, if_neg c2]
      exact ⟨0, Or.inl rfl, rfl, by split <;> rfl⟩
/-- MEANT -/
theorem s_meant (h : RR g0 f0 Bk Bt D δ g f) {l q : Nat} (hl : l < 10) (hq : q < 2000) : ∃ b : Int32, (b = 0 ∨ b = 1) ∧ m_X4_isMeant g (nI l) (nI q) = some (b, g) ∧ m_X6_isMeant f (nI l) (nI (q / 200)) (nI (q % 200 + 1)) = some (b, f) := by
  have e0 : g 6 0 q = f 1 0 (811 + 3 * q) := h.2.2.s (by unfold Sc; omega) rfl
  have e1 : g 14 l 3 = f 1 0 (40 + l) := h.2.2.s (by unfold Sc; omega) rfl
  unfold m_X4_isMeant m_X6_isMeant
  rw [if_neg (ckI hq (by omega)), nI_clamp (by omega), E_letter1 hq, Option.bind_some, if_neg (ckI hl (by omega)), nI_clamp (by omega), e0, e1]
  dsimp only
  rw [show ((40 : Int32) + nI l) = nI (40 + l) from nI_add 40 l, if_neg (ckI (by omega) (by omega)), nI_clamp (by omega)]
  simp only [p_isIn, p_isOf, Option.bind_some]
  generalize f 1 0 (811 + 3 * q) = a
  by_cases c1 : (10 : Int32) ≤ a
  · rw [if_pos c1, if_neg (not_not_intro (isI01 _ _))]
    have c2 : ¬ a = nI l := by
      intro z
      rw [z, L10] at c1
      have := (nI_leI (by omega) (by omega)).mp c1
      omega
    have c3 : ¬ a ≤ 9 := by
      intro z
      have k1 := Int32.le_iff_toInt_le.mp z
      have k2 := Int32.le_iff_toInt_le.mp c1
      have k3 : (9 : Int32).toInt = 9 := rfl
      have k4 : (10 : Int32).toInt = 10 := rfl
      omega
    rw [if_neg c2, if_neg c3]
    rcases isI01 (f 1 0 (40 + l)) (a - 10) with z | z
    · exact ⟨0, Or.inl rfl, by rw [z], by rw [z]; rfl⟩
    · exact ⟨1, Or.inr rfl, by rw [z], by rw [z]; rfl⟩
  · rw [if_neg c1]
    have c3 : a ≤ 9 := by
      apply Int32.le_iff_toInt_le.mpr
      have k2 : ¬ (10 : Int32).toInt ≤ a.toInt := fun q => c1 (Int32.le_iff_toInt_le.mpr q)
      have k3 : (9 : Int32).toInt = 9 := rfl
      have k4 : (10 : Int32).toInt = 10 := rfl
      omega
    rw [if_pos c3]
    by_cases c2 : a = nI l
    · rw [if_pos c2, if_pos c2]
      exact ⟨1, Or.inr rfl, rfl, rfl⟩
    · rw [if_neg c2, if_neg c2]
      exact ⟨0, Or.inl rfl, rfl, rfl⟩
end SIM
