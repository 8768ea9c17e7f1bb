section MIND2
/-- the reference's row behind remember: b is where the letter comes to stand -/
def rem (r : Nat → Int32) (l b : Nat) (s n : Int32) : Nat → Int32 := upd (upd (upd r (170 + 16 * l + 2 * b) s) (171 + 16 * l + 2 * b) n) (160 + l) (nI (b + 1))
theorem m_rem38 {F l : Nat} (hl : l < 10) {s t : Int32} : ∀ (n k x a : Nat) (f : Mem), x + n = 2 * a - 2 → 1 ≤ a → a ≤ 8 → n < k → f 1 0 (160 + l) = nI a → lp_X6_remember_38 F k f (nI l) s t (nI x) = some (0, upr f 1 0 (rem (upd (sh (f 1 0) (170 + 16 * l + x) (170 + 16 * l + (2 * a - 2)) 2) (160 + l) (nI (a - 1))) l (a - 1) s t)) := by
  intro n
  have i160 : ((160 : Int32) + nI l) = nI (160 + l) := nI_add 160 l
  have c160 : ¬ (nI (160 + l) < 0 ∨ 6819 ≤ (nI (160 + l)).toNatClampNeg) := ckI (by omega) (by omega)
  have n160 : (nI (160 + l)).toNatClampNeg = 160 + l := nI_clamp (by omega)
  induction n with
  | zero =>
    intro k x a f h1 h2 h3 h4 h5
    obtain ⟨k, rfl⟩ : ∃ z, k = z + 1 := ⟨k - 1, by omega⟩
    show st_X6_remember_38 F (lp_X6_remember_38 F k) f (nI l) s t (nI x) = _
    unfold st_X6_remember_38
    have ia : ((170 : Int32) + (16 : Int32) * nI l + nI 2 * nI (a - 1)) = nI (170 + 16 * l + 2 * (a - 1)) := by simp only [L170, L16, pk_mul, nI_add]
    have ib : (nI (170 + 16 * l + 2 * (a - 1)) + (1 : Int32)) = nI (171 + 16 * l + 2 * (a - 1)) := by
      rw [L1, nI_add]
      congr 1
      omega
    have ca : ¬ (nI (170 + 16 * l + 2 * (a - 1)) < 0 ∨ 6819 ≤ (nI (170 + 16 * l + 2 * (a - 1))).toNatClampNeg) := ckI (by omega) (by omega)
    have cb : ¬ (nI (171 + 16 * l + 2 * (a - 1)) < 0 ∨ 6819 ≤ (nI (171 + 16 * l + 2 * (a - 1))).toNatClampNeg) := ckI (by omega) (by omega)
    have na : (nI (170 + 16 * l + 2 * (a - 1))).toNatClampNeg = 170 + 16 * l + 2 * (a - 1) := nI_clamp (by omega)
    have nb : (nI (171 + 16 * l + 2 * (a - 1))).toNatClampNeg = 171 + 16 * l + 2 * (a - 1) := nI_clamp (by omega)
    have s1 : (nI a - (1 : Int32)) = nI (a - 1) := sbI (b := 1) (by omega)
    have p1 : (nI (a - 1) + (1 : Int32)) = nI (a - 1 + 1) := nI_1 _
    simp only [i160, if_neg c160]
    simp only [n160, h5, L2, ltm, upr_eq, upr_upr, upd_s, s1, ia, ib, if_neg ca, if_neg cb]
    simp only [na, nb, pk_mul]
    rw [sbI (by omega), if_pos ((nI_leI (by omega) (by omega)).mpr (by omega)), sh_0 (by omega)]
    rw [upd_n (show 160 + l ≠ 171 + 16 * l + 2 * (a - 1) by omega), upd_n (show 160 + l ≠ 170 + 16 * l + 2 * (a - 1) by omega), upd_s, p1]
    rfl
  | succ n ih =>
    intro k x a f h1 h2 h3 h4 h5
    obtain ⟨k, rfl⟩ : ∃ z, k = z + 1 := ⟨k - 1, by omega⟩
    show st_X6_remember_38 F (lp_X6_remember_38 F k) f (nI l) s t (nI x) = _
    unfold st_X6_remember_38
    have ix : ((170 : Int32) + (16 : Int32) * nI l + nI x) = nI (170 + 16 * l + x) := by simp only [L170, L16, pk_mul, nI_add]
    rw [i160, if_neg c160, n160, h5, ix, L2, pk_mul, sbI (by omega), nI_add, if_neg (fun z => by have := (nI_leI (by omega) (by omega)).mp z; omega), if_neg (ckI (show 170 + 16 * l + x + 2 < 6819 by omega) (by omega)), if_neg (ckI (show 170 + 16 * l + x < 6819 by omega) (by omega)), nI_clamp (show 170 + 16 * l + x < 2 ^ 31 by omega), nI_clamp (show 170 + 16 * l + x + 2 < 2 ^ 31 by omega), nI_1]
    simp only [ltm]
    rw [ih k (x + 1) a _ (by omega) h2 h3 (by omega) (by rw [upr_eq, upd_n (by omega), h5]), upr_eq, upr_upr, show 170 + 16 * l + (x + 1) = 170 + 16 * l + x + 1 by omega, sh_s (by omega) (by omega)]
/-- REMEMBER, the reference: c is the mind's size that may be, a what it is -/
theorem m_rem {F l a c d : Nat} {f : Mem} {s t : Int32} (hl : l < 10) (hF : 20 ≤ F) (hc : c ≤ 8) (hd : (a < c ∧ d = 0) ∨ (a = c ∧ d = 1 ∧ 1 ≤ c)) (ea : f 1 0 (160 + l) = nI a) (ec : f 1 0 (30 + l) = nI c) : ∃ σ : Nat → Int32, m_X6_remember F f (nI l) s t = some (0, upr f 1 0 σ) ∧ (∀ x : Nat, x ≠ 160 + l → ¬ (170 + 16 * l ≤ x ∧ x < 186 + 16 * l) → σ x = f 1 0 x) ∧ σ (160 + l) = nI (a + 1 - d) ∧ (∀ i : Nat, i < a - d → σ (170 + 16 * l + 2 * i) = f 1 0 (170 + 16 * l + 2 * (i + d)) ∧ σ (171 + 16 * l + 2 * i) = f 1 0 (171 + 16 * l + 2 * (i + d))) ∧ σ (170 + 16 * l + 2 * (a - d)) = s ∧ σ (171 + 16 * l + 2 * (a - d)) = t := by
  have i160 : ((160 : Int32) + nI l) = nI (160 + l) := nI_add 160 l
  have c160 : ¬ (nI (160 + l) < 0 ∨ 6819 ≤ (nI (160 + l)).toNatClampNeg) := ckI (by omega) (by omega)
  have n160 : (nI (160 + l)).toNatClampNeg = 160 + l := nI_clamp (by omega)
  have i30 : ((30 : Int32) + nI l) = nI (30 + l) := nI_add 30 l
  have c30 : ¬ (nI (30 + l) < 0 ∨ 6819 ≤ (nI (30 + l)).toNatClampNeg) := ckI (by omega) (by omega)
  have n30 : (nI (30 + l)).toNatClampNeg = 30 + l := nI_clamp (by omega)
  have c0 : ¬ nI c = 0 := fun z => by have := nIi (b := 0) (by omega) (by omega) z; omega
  unfold m_X6_remember
  simp only [i160, i30, if_neg c160, if_neg c30]
  simp only [n160, n30, ea, ec, if_neg c0]
  rcases hd with ⟨h2, rfl⟩ | ⟨rfl, rfl, h3⟩
  · rw [if_neg (fun z => by have := nIi (by omega) (by omega) z; omega)]
    have ia : ((170 : Int32) + (16 : Int32) * nI l + (2 : Int32) * nI a) = nI (170 + 16 * l + 2 * a) := by simp only [L170, L16, L2, pk_mul, nI_add]
    have ib : (nI (170 + 16 * l + 2 * a) + (1 : Int32)) = nI (171 + 16 * l + 2 * a) := by
      rw [L1, nI_add]
      congr 1
      omega
    simp only [ia, ib, ltm, upr_eq, upr_upr]
    rw [if_neg (ckI (show 170 + 16 * l + 2 * a < 6819 by omega) (by omega)), if_neg (ckI (show 171 + 16 * l + 2 * a < 6819 by omega) (by omega)), nI_clamp (show 170 + 16 * l + 2 * a < 2 ^ 31 by omega), nI_clamp (show 171 + 16 * l + 2 * a < 2 ^ 31 by omega)]
    rw [upd_n (show 160 + l ≠ 171 + 16 * l + 2 * a by omega), upd_n (show 160 + l ≠ 170 + 16 * l + 2 * a by omega), ea, nI_1]
    refine ⟨_, rfl, ?_, upd_s, ?_, ?_, ?_⟩
    · intro x h4 h5
      rw [upd_n h4, upd_n (by omega), upd_n (by omega)]
    · intro i hi
      rw [upd_n (by omega), upd_n (by omega), upd_n (by omega), upd_n (by omega), upd_n (by omega), upd_n (by omega)]
      exact ⟨rfl, rfl⟩
    · rw [upd_n (by omega), upd_n (by omega)]
      exact upd_s
    · rw [upd_n (by omega)]
      exact upd_s
  · rw [if_pos rfl, show (0 : Int32) = nI 0 from rfl, m_rem38 hl (2 * a - 2) F 0 a f (by omega) h3 hc (by omega) ea]
    refine ⟨_, rfl, ?_, ?_, ?_, ?_, ?_⟩
    · intro x h4 h5
      unfold rem
      rw [upd_n h4, upd_n (by omega), upd_n (by omega), upd_n h4, sh_out (by omega)]
    · unfold rem
      rw [upd_s]
      congr 1
      omega
    · intro i hi
      unfold rem
      rw [upd_n (by omega), upd_n (by omega), upd_n (by omega), upd_n (by omega), upd_n (by omega), upd_n (by omega), upd_n (by omega), upd_n (by omega), sh_in (by omega) (by omega), sh_in (by omega) (by omega)]
      exact ⟨rfl, by congr 1⟩
    · unfold rem
      rw [upd_n (by omega), upd_n (by omega), upd_s]
    · unfold rem
      rw [upd_n (by omega), upd_s]
variable {g0 f0 g f : Mem} {Bk Bt D δ : Nat}
/-- into a MIND as the latest one -/
theorem s_add (h : RR g0 f0 Bk Bt D δ g f) {l q F : Nat} (hl : l < 10) (hq : q < 2000) (hF : 20 ≤ F) : ∃ g' f' : Mem, m_X3_addm F l g (nI q) (g 14 l 2) = some (0, g') ∧ m_X6_remember F f (nI l) (nI (q / 200)) (nI (q % 200 + 1)) = some (0, f') ∧ RR g0 f0 Bk Bt D δ g' f' ∧ (∀ k : Nat, k ≠ 16 → k ≠ 17 → g' k = g k) := by
  obtain ⟨em, hm⟩ := h.2.2.m hl
  have e16 : g 16 l 1 = f 1 0 (160 + l) := h.2.2.s (by unfold Sc; omega) rfl
  have e30 : g 14 l 2 = f 1 0 (30 + l) := h.2.2.s (by unfold Sc; omega) rfl
  obtain ⟨c, hc, ec⟩ := (h.2.2.2.1 14 l 2 (by unfold Sc; omega)).2.2.2.2.2.1 rfl rfl
  have hx := h.2.2.2.2.2.2.2.1 l hl
  rw [ec, nI_clamp (by omega)] at hx
  generalize ha : mz g l = a at em hm hx
  by_cases h0 : c = 0
  · subst h0
    have ha0 : a = 0 := by omega
    subst ha0
    refine ⟨g, f, ?_, ?_, h, fun _ _ _ => rfl⟩
    · rw [ec]
      unfold m_X3_addm m_X3_dropOldestm
      rw [em]
      have k1 : (nI 0 - (1 : Int32)) ≤ 0 := by decide
      have k2 : ¬ (0 < nI 0 - (0 : Int32)) := by decide
      rw [if_pos k1, if_neg k2, Option.bind_some]
      dsimp only
      rw [em, if_pos (by decide)]
    · unfold m_X6_remember
      have i30 : ((30 : Int32) + nI l) = nI (30 + l) := nI_add 30 l
      rw [i30, if_neg (ckI (by omega) (by omega)), nI_clamp (by omega), ← e30, ec, if_pos (by decide)]
  · obtain ⟨d, hd⟩ : ∃ d : Nat, (a < c ∧ d = 0) ∨ (a = c ∧ d = 1 ∧ 1 ≤ c) := by
      rcases Nat.lt_or_ge a c with z | z
      · exact ⟨0, Or.inl ⟨z, rfl⟩⟩
      · exact ⟨1, Or.inr ⟨by omega, rfl, by omega⟩⟩
    obtain ⟨g', k1, k2, k3, k4, k5⟩ := c_add (q := q) hF hc hd em
    obtain ⟨σ, j1, j2, j3, j4, j5, j6⟩ := m_rem (f := f) (s := nI (q / 200)) (t := nI (q % 200 + 1)) hl hF hc hd (by rw [← e16, em]) (by rw [← e30, ec])
    refine ⟨g', upr f 1 0 σ, by rw [ec]; exact k1, j1, ⟨fun k hk => ?_, fun k hk => ?_, ?_⟩, fun k z1 z2 => ?_⟩
    · rw [← h.1 k hk]
      funext i
      exact k2 k i (by omega)
    · rw [upr_k hk]
      exact h.2.1 k hk
    · rw [upr_eq]
      refine h.2.2.mind (a := a + 1 - d) hl (by omega) (by rw [ec, nI_clamp (by omega)]; omega) k2 k3 j2 j3 (fun i hi => ?_)
      by_cases e : i = a - d
      · subst e
        rw [k5, j5, j6]
        exact ⟨q, hq, rfl, rfl, rfl⟩
      · rw [k4 i (by omega), (j4 i (by omega)).1, (j4 i (by omega)).2]
        exact h.2.2.2.2.1 l (i + d) hl (by omega)
    · funext i
      exact k2 k i (by omega)
end MIND2
