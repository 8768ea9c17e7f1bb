section MIND
theorem upr_id {g : Mem} {k i : Nat} : upr g k i (g k i) = g := by
  funext k' i'
  by_cases h : k' = k ∧ i' = i
  · obtain ⟨rfl, rfl⟩ := h
    rw [upr_eq]
  · rw [upr_ne h]
theorem c_dropm {F l : Nat} : ∀ (n k i left gone : Nat) (g : Mem), i + n = left → left + gone ≤ 8 → 1 ≤ gone → n < k → lp_X3_dropOldestm_25 F k l g (nI left) (nI gone) (nI i) = some (0, upr (upr g 17 l (sh (g 17 l) i left gone)) 16 l (upd (g 16 l) 1 (nI left))) := by
  intro n
  induction n with
  | zero =>
    intro k i left gone g h1 h2 h3 h4
    obtain ⟨k, rfl⟩ : ∃ z, k = z + 1 := ⟨k - 1, by omega⟩
    show st_X3_dropOldestm_25 F (lp_X3_dropOldestm_25 F k l) l g (nI left) (nI gone) (nI i) = _
    unfold st_X3_dropOldestm_25
    rw [if_pos ((nI_leI (by omega) (by omega)).mpr (by omega)), sh_0 (by omega), upr_id]
    rfl
  | succ n ih =>
    intro k i left gone g h1 h2 h3 h4
    obtain ⟨k, rfl⟩ : ∃ z, k = z + 1 := ⟨k - 1, by omega⟩
    show st_X3_dropOldestm_25 F (lp_X3_dropOldestm_25 F k l) l g (nI left) (nI gone) (nI i) = _
    unfold st_X3_dropOldestm_25
    rw [if_neg (fun z => by have := (nI_leI (by omega) (by omega)).mp z; omega), nI_add, if_neg (ckI (by omega) (by omega)), if_neg (ckI (by omega) (by omega)), nI_clamp (by omega), nI_clamp (by omega), nI_1]
    simp only [ltm]
    rw [ih k (i + 1) left gone _ (by omega) h2 h3 (by omega), upr_eq, upr_upr, sh_s h3 (by omega), upr_k (by omega)]
theorem c_dropM {F l a m : Nat} {g : Mem} (hF : 20 ≤ F) (ha : a ≤ 8) (em : g 16 l 1 = nI a) : m_X3_dropOldestm F l g (nI m) = some (0, if a ≤ m then g else upr (upr g 17 l (sh (g 17 l) 0 m (a - m))) 16 l (upd (g 16 l) 1 (nI m))) ∨ ¬ m ≤ 8 := by
  by_cases hm : m ≤ 8
  · refine Or.inl ?_
    unfold m_X3_dropOldestm
    rw [em]
    by_cases h0 : m = 0
    · subst h0
      rw [if_pos (show nI 0 ≤ 0 by decide), show (nI a - (0 : Int32)) = nI a from sbI (Nat.zero_le a)]
      by_cases h1 : a ≤ 0
      · rw [if_neg (fun z => by have := (nI_ltI (a := 0) (by omega) (by omega)).mp z; omega), if_pos h1]
      · rw [if_pos (show 0 < nI a from (nI_ltI (a := 0) (by omega) (by omega)).mpr (by omega)), if_neg h1]
        exact c_dropm 0 F 0 0 a g (by omega) (by omega) (by omega) (by omega)
    · rw [if_neg (fun z => by have := (nI_leI (b := 0) (by omega) (by omega)).mp z; omega)]
      by_cases h1 : a ≤ m
      · rw [if_pos h1, if_neg]
        intro z
        by_cases e : a = m
        · subst e
          rw [sbI (Nat.le_refl a), Nat.sub_self] at z
          exact absurd z (by decide)
        · have k1 := pk_sneg (a := a) (b := m) (by omega) (by omega)
          have k2 := Int32.lt_iff_toInt_lt.mp z
          have k3 := Int32.lt_iff_toInt_lt.mp k1
          omega
      · rw [sbI (by omega), if_pos (show 0 < nI (a - m) from (nI_ltI (a := 0) (by omega) (by omega)).mpr (by omega)), if_neg h1]
        exact c_dropm m F 0 m (a - m) g (by omega) (by omega) (by omega) (by omega)
  · exact Or.inr hm
theorem c_add {F l a c d q : Nat} {g : Mem} (hF : 20 ≤ F) (hc : c ≤ 8) (hd : (a < c ∧ d = 0) ∨ (a = c ∧ d = 1 ∧ 1 ≤ c)) (em : g 16 l 1 = nI a) : ∃ g' : Mem, m_X3_addm F l g (nI q) (nI c) = some (0, g') ∧ (∀ k i : Nat, ¬ ((k = 16 ∨ k = 17) ∧ i = l) → g' k i = g k i) ∧ g' 16 l 1 = nI (a + 1 - d) ∧ (∀ i : Nat, i < a - d → g' 17 l i = g 17 l (i + d)) ∧ g' 17 l (a - d) = nI q := by
  unfold m_X3_addm
  rw [show (nI c - (1 : Int32)) = nI (c - 1) from sbI (b := 1) (by omega)]
  have h1 := (c_dropM (F := F) (l := l) (m := c - 1) hF (by omega) em).resolve_right (by omega)
  rcases hd with ⟨h2, rfl⟩ | ⟨rfl, rfl, h3⟩
  · rw [if_pos (show a ≤ c - 1 by omega)] at h1
    rw [h1, Option.bind_some]
    dsimp only
    rw [em, if_neg (fun z => by have := (nI_leI (by omega) (by omega)).mp z; omega), if_neg (fun z => by have := (nI_leI (a := 8) (by omega) (by omega)).mp z; omega), if_neg (ckI (by omega) (by omega)), nI_clamp (by omega)]
    simp only [ltm]
    refine ⟨_, rfl, ?_, ?_, ?_, ?_⟩
    · intro k i h
      rw [upr_ne (by omega), upr_ne (by omega)]
    · rw [upr_eq, upd_s, upr_k (by omega), em, nI_1]
      rfl
    · intro i hi
      rw [upr_k (by omega), upr_eq, upd_n (by omega)]
      rfl
    · rw [upr_k (by omega), upr_eq]
      exact upd_s
  · rw [if_neg (show ¬ a ≤ a - 1 by omega), show a - (a - 1) = 1 by omega] at h1
    rw [h1, Option.bind_some]
    dsimp only
    rw [upr_eq, upd_s, if_neg (fun z => by have := (nI_leI (by omega) (by omega)).mp z; omega), if_neg (fun z => by have := (nI_leI (a := 8) (by omega) (by omega)).mp z; omega), if_neg (ckI (by omega) (by omega)), nI_clamp (by omega)]
    simp only [ltm]
    refine ⟨_, rfl, ?_, ?_, ?_, ?_⟩
    · intro k i h
      rw [upr_ne (by omega), upr_ne (by omega), upr_ne (by omega), upr_ne (by omega)]
    · rw [upr_eq, upd_s, upr_k (by omega), upr_eq, upd_s, nI_1]
      congr 1
      omega
    · intro i hi
      rw [upr_k (by omega), upr_eq, upd_n (by omega), upr_k (by omega), upr_eq, sh_in (by omega) (by omega)]
    · rw [upr_k (by omega), upr_eq]
      exact upd_s
/-- the reference's shift: forget -/
theorem m_sh46 {F l : Nat} (hl : l < 10) : ∀ (n k x left gone : Nat) (f : Mem), x + n = 2 * left → left + gone ≤ 8 → 1 ≤ gone → n < k → f 1 0 (160 + l) = nI left → lp_X6_forget_46 F k f (nI l) (nI gone) (nI x) = some (0, upr f 1 0 (sh (f 1 0) (170 + 16 * l + x) (170 + 16 * l + 2 * left) (2 * gone))) := by
  intro n
  have i160 : ((160 : Int32) + nI l) = nI (160 + l) := nI_add 160 l
  have c160 : ¬ (nI (160 + l) < 0 ∨ 6819 ≤ (nI (160 + l)).toNatClampNeg) := ckI (by omega) (by omega)
  have n160 : (nI (160 + l)).toNatClampNeg = 160 + l := nI_clamp (by omega)
  induction n with
  | zero =>
    intro k x left gone f h1 h2 h3 h4 h5
    obtain ⟨k, rfl⟩ : ∃ z, k = z + 1 := ⟨k - 1, by omega⟩
    show st_X6_forget_46 F (lp_X6_forget_46 F k) f (nI l) (nI gone) (nI x) = _
    unfold st_X6_forget_46
    rw [i160, if_neg c160, n160, h5, L2, pk_mul, if_pos ((nI_leI (by omega) (by omega)).mpr (by omega)), sh_0 (by omega), upr_id]
  | succ n ih =>
    intro k x left gone f h1 h2 h3 h4 h5
    obtain ⟨k, rfl⟩ : ∃ z, k = z + 1 := ⟨k - 1, by omega⟩
    show st_X6_forget_46 F (lp_X6_forget_46 F k) f (nI l) (nI gone) (nI x) = _
    unfold st_X6_forget_46
    have ia : ((170 : Int32) + (16 : Int32) * nI l + nI x) = nI (170 + 16 * l + x) := by simp only [L170, L16, pk_mul, nI_add]
    rw [i160, if_neg c160, n160, h5, ia, L2, pk_mul, pk_mul, nI_add, if_neg (fun z => by have := (nI_leI (by omega) (by omega)).mp z; omega), if_neg (ckI (by omega) (by omega)), if_neg (ckI (by omega) (by omega)), nI_clamp (by omega), nI_clamp (by omega), nI_1]
    simp only [ltm]
    rw [ih k (x + 1) left gone _ (by omega) h2 h3 (by omega) (by rw [upr_eq, upd_n (by omega), h5]), upr_eq, upr_upr, show 170 + 16 * l + (x + 1) = 170 + 16 * l + x + 1 by omega, sh_s (by omega) (by omega)]
end MIND
