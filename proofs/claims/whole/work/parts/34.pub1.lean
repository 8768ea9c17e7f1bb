/-! the public calls: both sides step together -/
def RP (g0 f0 : Mem) (B : Nat) (g f : Mem) : Prop := RR g0 f0 B (100 * B) (tk g + 72) 1 g f
def PS (g0 f0 : Mem) (B : Nat) (a c : Option (Int32 × Mem)) : Prop := ∃ (r : Int32) (g f : Mem), a = some (r, g) ∧ c = some (r, f) ∧ RP g0 f0 (B + 1) g f
theorem RP.of {g0 f0 g f : Mem} {Bk Bt D B : Nat} (h : RR g0 f0 Bk Bt D 1 g f) (h1 : Bk ≤ B) (h2 : Bt ≤ 100 * B) : RP g0 f0 B g f := by
  obtain ⟨a, b, y1, y2, y3, y4, y5, y6, y7, y8, y9⟩ := h
  refine ⟨a, b, y1, y2.mono h1 h2, y3, y4, y5, y6, y7, fun i hi => ?_, y9⟩
  obtain ⟨x, t, c, z1, z2, z3, z4, z5, z6, z7⟩ := y8 i hi
  exact ⟨x, t, c, z1, z2, z3, z4, z5, z6, by omega⟩
theorem RR.mono {g0 f0 g f : Mem} {Bk Bt D δ Bt' : Nat} (h : RR g0 f0 Bk Bt D δ g f) (h2 : Bt ≤ Bt') : RR g0 f0 Bk Bt' D δ g f := by
  obtain ⟨a, b, y1, y2, y3⟩ := h
  exact ⟨a, b, y1, y2.mono (Nat.le_refl _) h2, y3⟩
theorem PS.rd {g0 f0 g f : Mem} {B : Nat} {a c : Option (Int32 × Mem)} {r : Int32} (h : RP g0 f0 B g f) (ha : a = some (r, g)) (hc : c = some (r, f)) : PS g0 f0 B a c := ⟨r, g, f, ha, hc, RP.of h (by omega) (by omega)⟩
theorem nIn6 {l : Nat} (h : l < 2 ^ 31) : ¬ nI l = -6 := fun e => nI_pos h (by rw [e]; decide)
section PUB1
variable {g0 f0 g f : Mem} {B : Nat}
theorem s_pass1 {F Bk D T : Nat} (hBk : Bk < 1000000) (hF : 400 ≤ F) (hT : T ≤ 100) : ∀ (n i Bt : Nat) (g f : Mem), i + n = T → Bt + n < 900000 → RR g0 f0 Bk Bt D 1 g f → ∃ (s : Int32) (g' f' : Mem), RR g0 f0 Bk (Bt + n) D 1 g' f' ∧ g' 2 0 8 = g 2 0 8 + s ∧ (∀ (k : Nat) (x2 : Int32), n < k → lp_X5_pass_23 F k g (nI T) x2 (nI i) = some (g' 2 0 8 - x2, g')) ∧ (∀ (k : Nat) (a : Int32), n < k → lp_X6_pass_17 F k f (nI T) a (nI i) = some (a + s, f'))
  | 0, i, Bt, g, f, hi, hB, h => by
    obtain rfl : i = T := by omega
    refine ⟨0, g, f, h, (Int32.add_zero _).symm, fun k x2 hk => ?_, fun k a hk => ?_⟩
    · obtain ⟨k, rfl⟩ : ∃ z, k = z + 1 := ⟨k - 1, by omega⟩
      rw [lp_X5_pass_23]
      unfold st_X5_pass_23
      rw [if_pos (Int32.le_refl _)]
    · obtain ⟨k, rfl⟩ : ∃ z, k = z + 1 := ⟨k - 1, by omega⟩
      rw [lp_X6_pass_17]
      unfold st_X6_pass_17
      rw [if_pos (Int32.le_refl _), Int32.add_zero]
  | n + 1, i, Bt, g, f, hi, hB, h => by
    obtain ⟨b, g1, f1, q1, q2, q3, q4, q5⟩ := s_tick h (F := F) (by omega) hBk hF
    obtain ⟨s, g2, f2, w1, w2, w3, w4⟩ := s_pass1 hBk hF hT n (i + 1) (Bt + 1) g1 f1 (by omega) (by omega) q1
    have c1 : ¬ nI T ≤ nI i := fun z => by have := (nI_leI (by omega) (by omega)).mp z; omega
    refine ⟨b + s, g2, f2, by rw [show Bt + (n + 1) = Bt + 1 + n by omega]; exact w1, by rw [w2, q3, Int32.add_assoc], fun k x2 hk => ?_, fun k a hk => ?_⟩
    · obtain ⟨k, rfl⟩ : ∃ z, k = z + 1 := ⟨k - 1, by omega⟩
      rw [lp_X5_pass_23]
      unfold st_X5_pass_23
      rw [if_neg c1, q4, Option.bind_some, nI_1]
      exact w3 k x2 (by omega)
    · obtain ⟨k, rfl⟩ : ∃ z, k = z + 1 := ⟨k - 1, by omega⟩
      rw [lp_X6_pass_17]
      unfold st_X6_pass_17
      rw [if_neg c1, q5, Option.bind_some]
      dsimp only
      rw [nI_1, w4 k _ (by omega), Int32.add_assoc]
theorem pp_pass (h : RP g0 f0 B g f) (hB : B < 1000) {F : Nat} (hF : 400 ≤ F) (a : Int32) : PS g0 f0 B (m_X5_pass F g a) (m_X6_pass F f a) := by
  unfold m_X5_pass m_X6_pass
  simp only [p_btw, p_in, Option.bind_some]
  by_cases z : btw a 1 100 = 0
  · simp only [if_pos z]
    exact PS.rd h rfl rfl
  · simp only [if_neg z]
    obtain ⟨T, hT1, hT2, rfl⟩ := btw_n (m := 1) (n := 100) rfl rfl (by omega) (by omega) z
    obtain ⟨s, g2, f2, w1, w2, w3, w4⟩ := s_pass1 (F := F) (T := T) (by omega) hF hT2 T 0 (100 * B) g f (by omega) (by omega) h
    refine ⟨s, g2, f2, ?_, ?_, RP.of w1 (by omega) (by omega)⟩
    · have := w3 F (g 2 0 8) (by omega)
      rw [show nI 0 = (0 : Int32) from rfl] at this
      rw [this, w2, Int32.add_comm, Int32.add_sub_cancel]
    · have := w4 F 0 (by omega)
      rw [show nI 0 = (0 : Int32) from rfl] at this
      rw [this, Int32.zero_add]
theorem s_settle1 {F Bk D : Nat} (hBk : Bk < 1000000) (hF : 400 ≤ F) : ∀ (n j Bt : Nat) (g f : Mem), D ≤ tk g + n → j + n ≤ 100 → Bt + n < 900000 → RR g0 f0 Bk Bt D 1 g f → ∃ (s : Nat) (g' f' : Mem), RR g0 f0 Bk (Bt + n) D 1 g' f' ∧ (∀ k : Nat, n < k → lp_X5_settle_2 F k g (nI j) = some (nI s, g')) ∧ (∀ k : Nat, n < k → lp_X6_settle_2 F k f (nI j) = some (nI s, f'))
  | n, j, Bt, g, f, hD, hj, hB, h => by
    obtain ⟨ea, ha⟩ := h.2.2.a
    have e8 : f 1 0 6815 = nI (az g) := by rw [← h.2.2.s (k := 8) (i := 0) (x := 4) (a := 6815) (by unfold Sc; omega) rfl]; exact ea
    have cj : ¬ (1000 : Int32) ≤ nI j := fun z => by have := (nI_leI (a := 1000) (by omega) (by omega)).mp z; omega
    by_cases z : az g = 0
    · have z0 : nI (az g) ≤ 0 := by rw [z]; decide
      refine ⟨j, g, f, h.mono (by omega), fun k hk => ?_, fun k hk => ?_⟩
      · obtain ⟨k, rfl⟩ : ∃ z, k = z + 1 := ⟨k - 1, by omega⟩
        rw [lp_X5_settle_2]
        unfold st_X5_settle_2
        rw [if_neg cj, ea, if_pos z0]
      · obtain ⟨k, rfl⟩ : ∃ z, k = z + 1 := ⟨k - 1, by omega⟩
        rw [lp_X6_settle_2]
        unfold st_X6_settle_2
        rw [e8, if_pos z0]
    · have z0 : ¬ nI (az g) ≤ 0 := fun y => by have := (nI_leI (b := 0) (by omega) (by omega)).mp y; omega
      obtain ⟨-, t, c, -, -, y3, y4, y5, y6, y7⟩ := h.2.2.2.2.2.2.2.2.2.1 0 (by omega)
      obtain ⟨n, rfl⟩ : ∃ y, n = y + 1 := ⟨n - 1, by omega⟩
      obtain ⟨b, g1, f1, q1, q2, q3, q4, q5⟩ := s_tick h (F := F) (by omega) hBk hF
      obtain ⟨s, g2, f2, w1, w3, w4⟩ := s_settle1 hBk hF n (j + 1) (Bt + 1) g1 f1 (by omega) (by omega) (by omega) q1
      refine ⟨s, g2, f2, by rw [show Bt + (n + 1) = Bt + 1 + n by omega]; exact w1, fun k hk => ?_, fun k hk => ?_⟩
      · obtain ⟨k, rfl⟩ : ∃ z, k = z + 1 := ⟨k - 1, by omega⟩
        rw [lp_X5_settle_2]
        unfold st_X5_settle_2
        rw [if_neg cj, ea, if_neg z0, q4, Option.bind_some, nI_1]
        exact w3 k (by omega)
      · obtain ⟨k, rfl⟩ : ∃ z, k = z + 1 := ⟨k - 1, by omega⟩
        rw [lp_X6_settle_2]
        unfold st_X6_settle_2
        rw [e8, if_neg z0, q5, Option.bind_some, nI_1]
        exact w4 k (by omega)
theorem pp_settle (h : RP g0 f0 B g f) (hB : B < 1000) {F : Nat} (hF : 400 ≤ F) : PS g0 f0 B (m_X5_settle F g) (m_X6_settle F f) := by
  obtain ⟨s, g2, f2, w1, w3, w4⟩ := s_settle1 (F := F) (by omega) hF 72 0 (100 * B) g f (by omega) (by omega) (by omega) h
  exact ⟨nI s, g2, f2, w3 F (by omega), w4 F (by omega), RP.of w1 (by omega) (by omega)⟩
theorem pp_has (h : RP g0 f0 B g f) (a b : Int32) : PS g0 f0 B (m_X5_has g a b) (m_X6_has f a b) := by
  have e6 := h.2.2.s (k := 2) (i := 0) (x := 6) (a := 6813) (by unfold Sc; omega) rfl
  have e7 := h.2.2.s (k := 2) (i := 0) (x := 7) (a := 6814) (by unfold Sc; omega) rfl
  unfold m_X5_has m_X6_has
  simp only [p_btw, p_in, p_lamp, p_lamp6, p_isIn, p_isOf, p_num, Option.bind_some, e6, e7]
  by_cases z : btw a 0 9 = 0
  · simp only [if_pos z]
    exact PS.rd h rfl rfl
  · simp only [if_neg z]
    by_cases z2 : btw b 0 1 = 0
    · simp only [if_pos z2]
      exact PS.rd h rfl rfl
    · simp only [if_neg z2]
      by_cases z3 : b = 0
      · simp only [if_pos z3]
        refine PS.rd h rfl ?_
        split <;> rfl
      · simp only [if_neg z3]
        refine PS.rd h rfl ?_
        split <;> rfl
theorem pp_taken (h : RP g0 f0 B g f) (a b : Int32) : PS g0 f0 B (m_X5_taken g a b) (m_X6_taken f a b) := by
  unfold m_X5_taken m_X6_taken
  simp only [p_lamp, p_lamp6, Option.bind_some]
  by_cases z : btw a 0 9 = 0
  · simp only [if_pos z]
    exact PS.rd h rfl rfl
  · simp only [if_neg z]
    by_cases z2 : btw b 0 9 = 0
    · simp only [if_pos z2]
      exact PS.rd h rfl rfl
    · simp only [if_neg z2]
      obtain ⟨l, hl, rfl⟩ := btw_l z
      obtain ⟨o, ho, rfl⟩ := btw_l z2
      have e := h.2.2.s (k := 15) (i := l) (x := o) (a := 330 + 10 * l + o) (by unfold Sc; omega) rfl
      have i1 : (((330 : Int32) + (10 : Int32) * nI l) + nI o) = nI (330 + 10 * l + o) := by simp only [L330, L10, pk_mul, nI_add]
      simp only [i1]
      simp (disch := omega) only [ngF, leF, nI_clamp, or_self, if_false, e]
      exact PS.rd h rfl rfl
theorem pp_mind (h : RP g0 f0 B g f) (a b c : Int32) : PS g0 f0 B (m_X5_mind g a b c) (m_X6_mind f a b c) := by
  unfold m_X5_mind m_X6_mind
  simp only [p_btw, p_in, p_lamp, p_lamp6, Option.bind_some]
  by_cases z : btw a 0 9 = 0
  · simp only [if_pos z]
    exact PS.rd h rfl rfl
  · simp only [if_neg z]
    by_cases z2 : btw c 0 1 = 0
    · simp only [if_pos z2]
      exact PS.rd h rfl rfl
    · simp only [if_neg z2]
      obtain ⟨l, hl, rfl⟩ := btw_l z
      obtain ⟨w, -, hw, rfl⟩ := btw_n (m := 0) (n := 1) rfl rfl (by omega) (by omega) z2
      obtain ⟨em, hm⟩ := h.2.2.m hl
      have e := h.2.2.s (k := 16) (i := l) (x := 1) (a := 160 + l) (by unfold Sc; omega) rfl
      have i1 : ((160 : Int32) + nI l) = nI (160 + l) := nI_add 160 l
      simp only [i1]
      simp (disch := omega) only [ngF, leF, nI_clamp, or_self, if_false, ← e]
      by_cases z3 : btw b 0 (g 16 l 1 - 1) = 0
      · simp only [if_pos z3]
        exact PS.rd h rfl rfl
      · simp only [if_neg z3]
        obtain ⟨i, hi, rfl⟩ : ∃ i : Nat, i < mz g l ∧ b = nI i := by
          rw [em] at z3
          rcases Nat.eq_zero_or_pos (mz g l) with y | y
          · rw [y] at z3
            exfalso
            apply z3
            unfold btw
            split
            · rfl
            · rename_i q
              rw [if_pos]
              refine Int32.lt_of_lt_of_le (b := 0) (by decide) (Int32.not_lt.mp q)
          · obtain ⟨i, -, h2, h3⟩ := btw_n (m := 0) (n := mz g l - 1) rfl (sbI (b := 1) y) (by omega) (by omega) z3
            exact ⟨i, by omega, h3⟩
        have i2 : ((((170 : Int32) + (16 : Int32) * nI l) + (2 : Int32) * nI i) + nI w) = nI (170 + 16 * l + 2 * i + w) := by simp only [L170, L16, L2, pk_mul, nI_add]
        obtain ⟨q, hq, y1, y2, y3⟩ := h.2.2.2.2.1 l i hl hi
        simp only [i2]
        simp (disch := omega) only [ngF, leF, nI_clamp, or_self, if_false, y1, p_src hq, p_nbr hq, Option.bind_some]
        have hw2 : w = 0 ∨ w = 1 := by omega
        rcases hw2 with rfl | rfl
        · rw [if_pos (show nI 0 = 0 from rfl)]
          refine PS.rd h rfl ?_
          rw [← y2, Nat.add_zero]
        · rw [if_neg (by decide)]
          refine PS.rd h rfl ?_
          rw [← y3, show 170 + 16 * l + 2 * i + 1 = 171 + 16 * l + 2 * i by omega]
end PUB1
