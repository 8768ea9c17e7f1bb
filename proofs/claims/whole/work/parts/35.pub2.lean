theorem upd_c {r : Nat → Int32} {a b : Nat} {x y : Int32} (h : a ≠ b) : upd (upd r a x) b y = upd (upd r b y) a x := by
  funext k
  by_cases h1 : k = b
  · subst h1
    rw [upd_s, upd_n (Ne.symm h), upd_s]
  · rw [upd_n h1]
    by_cases h2 : k = a
    · subst h2
      rw [upd_s, upd_s]
    · rw [upd_n h2, upd_n h2, upd_n h1]
section PUB2
variable {g0 f0 g f : Mem} {B Bk Bt D δ Bk' : Nat}
theorem RR.setx (h : RR g0 f0 Bk Bt D δ g f) {k i x a : Nat} {v : Int32} (hs : Sc k i x) (p1 : k ≠ 16) (p2 : k ≠ 18) (p3 : k ≠ 8) (h1 : Bk ≤ Bk') (hv : Okv Bk' Bt k x v) (ha : a = adr k i x) (x1 : X1 (upr g k i (upd (g k i) x v))) (x2 : X2 (upr g k i (upd (g k i) x v))) (x3 : X3 D δ (upr g k i (upd (g k i) x v))) (x4 : X4 (upr g k i (upd (g k i) x v))) : RR g0 f0 Bk' Bt D δ (upr g k i (upd (g k i) x v)) (upr f 1 0 (upd (f 1 0) a v)) := by
  obtain ⟨-, -, -, -, -, -, n1, n2⟩ := Sc_ne hs
  refine ⟨fun k' hk => ?_, fun k' hk => ?_, ?_⟩
  · rw [upr_k (by omega)]
    exact h.1 k' hk
  · rw [upr_k hk]
    exact h.2.1 k' hk
  · rw [upr_eq]
    exact h.2.2.setx hs p1 p2 p3 h1 (Nat.le_refl _) hv ha x1 x2 x3 x4
theorem pp_air (h : RP g0 f0 B g f) (a c : Int32) : PS g0 f0 B (m_X5_air g a c) (m_X6_air f a c) := by
  unfold m_X5_air m_X6_air
  have e := h.2.2.s (k := 8) (i := 0) (x := 4) (a := 6815) (by unfold Sc; omega) rfl
  simp only [p_btw, p_in, Option.bind_some, ← e]
  by_cases z2 : btw c 0 4 = 0
  · simp only [if_pos z2]
    exact PS.rd h rfl rfl
  · simp only [if_neg z2]
    obtain ⟨w, -, hw, rfl⟩ := btw_n (m := 0) (n := 4) rfl rfl (by omega) (by omega) z2
    obtain ⟨em, hm⟩ := h.2.2.a
    by_cases z3 : btw a 0 (g 8 0 4 - 1) = 0
    · simp only [if_pos z3]
      exact PS.rd h rfl rfl
    · simp only [if_neg z3]
      obtain ⟨i, hi, rfl⟩ : ∃ i : Nat, i < az g ∧ a = nI i := by
        rw [em] at z3
        rcases Nat.eq_zero_or_pos (az g) with y | y
        · rw [y] at z3
          exfalso
          apply z3
          unfold btw
          split
          · rfl
          · rename_i q
            rw [if_pos]
            refine Int32.lt_of_lt_of_le (b := 0) (by decide) (Int32.not_lt.mp q)
        · obtain ⟨i, -, h2, h3⟩ := btw_n (m := 0) (n := az g - 1) rfl (sbI (b := 1) y) (by omega) (by omega) z3
          exact ⟨i, by omega, h3⟩
      have i2 : (((490 : Int32) + (5 : Int32) * nI i) + nI w) = nI (490 + 5 * i + w) := by simp only [L490, L5, pk_mul, nI_add]
      obtain ⟨y0, y1, ⟨q, hq, y4, y2, y3⟩, y5⟩ := h.2.2.2.2.2.2.1 i hi
      simp only [i2]
      simp (disch := omega) only [ngF, leF, nI_clamp, or_self, if_false, y4, p_src hq, p_nbr hq, Option.bind_some]
      have hw2 : w = 0 ∨ w = 1 ∨ w = 2 ∨ w = 3 ∨ w = 4 := by omega
      rcases hw2 with rfl | rfl | rfl | rfl | rfl
      · rw [if_pos (show nI 0 = 0 from rfl)]
        refine PS.rd h rfl ?_
        rw [y0, Nat.add_zero]
      · rw [if_neg (by decide), if_pos (show nI 1 = 1 from rfl)]
        refine PS.rd h rfl ?_
        rw [y1, show 490 + 5 * i + 1 = 491 + 5 * i by omega]
      · rw [if_neg (by decide), if_neg (by decide), if_pos (show nI 2 = 2 from rfl)]
        refine PS.rd h rfl ?_
        rw [← y2, show 490 + 5 * i + 2 = 492 + 5 * i by omega]
      · rw [if_neg (by decide), if_neg (by decide), if_neg (by decide), if_pos (show nI 3 = 3 from rfl)]
        refine PS.rd h rfl ?_
        rw [← y3, show 490 + 5 * i + 3 = 493 + 5 * i by omega]
      · rw [if_neg (by decide), if_neg (by decide), if_neg (by decide), if_neg (by decide)]
        refine PS.rd h rfl ?_
        rw [y5, show 490 + 5 * i + 4 = 494 + 5 * i by omega]
theorem s_cnt (h : RR g0 f0 Bk Bt D δ g f) {l F : Nat} (hl : l < 10) (hF : 20 ≤ F) : m_J6_bitCount_0f7a4 (g 13 l 4) = some (cnt10 (g 13 l 4)) ∧ m_X6_bits F (f 1 0 l) = some (cnt10 (g 13 l 4)) := by
  obtain ⟨b, hb, eb⟩ := (h.2.2.2.1 13 l 4 (by unfold Sc; omega)).1 rfl rfl
  have e := h.2.2.s (k := 13) (i := l) (x := 4) (a := l) (by unfold Sc; omega) rfl
  rw [← e, eb, p_cnt hb, p_bits hF]
  exact ⟨rfl, rfl⟩
theorem pp_lamp (h : RP g0 f0 B g f) {F : Nat} (hF : 20 ≤ F) (a c : Int32) : PS g0 f0 B (m_X5_lamp g a c) (m_X6_lamp F f a c) := by
  unfold m_X5_lamp m_X6_lamp
  simp only [p_lamp, p_lamp6, Option.bind_some]
  by_cases z : btw a 0 9 = 0
  · simp only [if_pos z]
    exact PS.rd h rfl rfl
  · simp only [if_neg z]
    obtain ⟨l, hl, rfl⟩ := btw_l z
    have i0 : ((0 : Int32) + nI l) = nI l := Int32.zero_add _
    have i50 : ((50 : Int32) + nI l) = nI (50 + l) := nI_add 50 l
    have i60 : ((60 : Int32) + nI l) = nI (60 + l) := nI_add 60 l
    have i70 : ((70 : Int32) + nI l) = nI (70 + l) := nI_add 70 l
    have i80 : ((80 : Int32) + nI l) = nI (80 + l) := nI_add 80 l
    have i90 : ((90 : Int32) + nI l) = nI (90 + l) := nI_add 90 l
    have i100 : ((100 : Int32) + nI l) = nI (100 + l) := nI_add 100 l
    have i110 : ((110 : Int32) + nI l) = nI (110 + l) := nI_add 110 l
    have i120 : ((120 : Int32) + nI l) = nI (120 + l) := nI_add 120 l
    have i130 : ((130 : Int32) + nI l) = nI (130 + l) := nI_add 130 l
    have i140 : ((140 : Int32) + nI l) = nI (140 + l) := nI_add 140 l
    have i150 : ((150 : Int32) + nI l) = nI (150 + l) := nI_add 150 l
    have i160 : ((160 : Int32) + nI l) = nI (160 + l) := nI_add 160 l
    have e5 := h.2.2.s (k := 13) (i := l) (x := 5) (a := 50 + l) (by unfold Sc; omega) rfl
    have e6 := h.2.2.s (k := 13) (i := l) (x := 6) (a := 60 + l) (by unfold Sc; omega) rfl
    have e7 := h.2.2.s (k := 13) (i := l) (x := 7) (a := 70 + l) (by unfold Sc; omega) rfl
    have e8 := h.2.2.s (k := 13) (i := l) (x := 8) (a := 80 + l) (by unfold Sc; omega) rfl
    have e9 := h.2.2.s (k := 13) (i := l) (x := 9) (a := 90 + l) (by unfold Sc; omega) rfl
    have e10 := h.2.2.s (k := 13) (i := l) (x := 10) (a := 100 + l) (by unfold Sc; omega) rfl
    have e11 := h.2.2.s (k := 13) (i := l) (x := 11) (a := 110 + l) (by unfold Sc; omega) rfl
    have e12 := h.2.2.s (k := 13) (i := l) (x := 12) (a := 120 + l) (by unfold Sc; omega) rfl
    have e13 := h.2.2.s (k := 13) (i := l) (x := 13) (a := 130 + l) (by unfold Sc; omega) rfl
    have e14 := h.2.2.s (k := 13) (i := l) (x := 14) (a := 140 + l) (by unfold Sc; omega) rfl
    have ek := h.2.2.s (k := 18) (i := l) (x := 1) (a := 150 + l) (by unfold Sc; omega) rfl
    have em := h.2.2.s (k := 16) (i := l) (x := 1) (a := 160 + l) (by unfold Sc; omega) rfl
    obtain ⟨c1, c2⟩ := s_cnt h (F := F) hl hF
    simp only [i0, i50, i60, i70, i80, i90, i100, i110, i120, i130, i140, i150, i160, p_num]
    have k0 : ∀ x : Nat, x ≤ 160 → ¬ (nI (x + l) < 0 ∨ 6819 ≤ (nI (x + l)).toNatClampNeg) := fun x hx => ckI (by omega) (by omega)
    have n0 : ∀ x : Nat, x ≤ 160 → (nI (x + l)).toNatClampNeg = x + l := fun x hx => nI_clamp (by omega)
    have kl : ¬ (nI l < 0 ∨ 6819 ≤ (nI l).toNatClampNeg) := ckI (by omega) (by omega)
    have kl2 : ¬ (nI l < 0 ∨ 10 ≤ (nI l).toNatClampNeg) := ckI (by omega) (by omega)
    rw [if_neg kl2, if_neg kl, if_neg (k0 50 (by omega)), if_neg (k0 60 (by omega)), if_neg (k0 70 (by omega)), if_neg (k0 80 (by omega)), if_neg (k0 90 (by omega)), if_neg (k0 100 (by omega)), if_neg (k0 110 (by omega)), if_neg (k0 120 (by omega)), if_neg (k0 130 (by omega)), if_neg (k0 140 (by omega)), if_neg (k0 150 (by omega)), if_neg (k0 160 (by omega))]
    rw [nI_clamp (show l < 2 ^ 31 by omega), n0 50 (by omega), n0 60 (by omega), n0 70 (by omega), n0 80 (by omega), n0 90 (by omega), n0 100 (by omega), n0 110 (by omega), n0 120 (by omega), n0 130 (by omega), n0 140 (by omega), n0 150 (by omega), n0 160 (by omega), ← e5, ← e6, ← e7, ← e8, ← e9, ← e10, ← e11, ← e12, ← e13, ← e14, ← ek, ← em, c1, c2]
    rw [Option.bind_some, Option.bind_some, Option.bind_some]
    have e01 : (if g 13 l 6 = 0 then (0 : Int32) else 1) = g 13 l 6 := by
      rcases h.2.2.sl hl with y | y
      · rw [y, if_pos rfl]
      · rw [y, if_neg (by decide)]
    rw [e01]
    by_cases q0 : c = 0
    · simp only [if_pos q0]
      exact PS.rd h rfl rfl
    simp only [if_neg q0]
    by_cases q1 : c = 1
    · simp only [if_pos q1]
      exact PS.rd h rfl rfl
    simp only [if_neg q1]
    by_cases q2 : c = 2
    · simp only [if_pos q2]
      exact PS.rd h rfl rfl
    simp only [if_neg q2]
    by_cases q3 : c = 3
    · simp only [if_pos q3]
      exact PS.rd h rfl rfl
    simp only [if_neg q3]
    by_cases q4 : c = 4
    · simp only [if_pos q4]
      exact PS.rd h rfl rfl
    simp only [if_neg q4]
    by_cases q5 : c = 5
    · simp only [if_pos q5]
      exact PS.rd h rfl rfl
    simp only [if_neg q5]
    by_cases q6 : c = 6
    · simp only [if_pos q6]
      exact PS.rd h rfl rfl
    simp only [if_neg q6]
    by_cases q7 : c = 7
    · simp only [if_pos q7]
      exact PS.rd h rfl rfl
    simp only [if_neg q7]
    by_cases q8 : c = 8
    · simp only [if_pos q8]
      exact PS.rd h rfl rfl
    simp only [if_neg q8]
    by_cases q9 : c = 9
    · simp only [if_pos q9]
      exact PS.rd h rfl rfl
    simp only [if_neg q9]
    by_cases q10 : c = 10
    · simp only [if_pos q10]
      exact PS.rd h rfl rfl
    simp only [if_neg q10]
    by_cases q11 : c = 11
    · simp only [if_pos q11]
      exact PS.rd h rfl rfl
    simp only [if_neg q11]
    by_cases q12 : c = 12
    · simp only [if_pos q12]
      exact PS.rd h rfl rfl
    simp only [if_neg q12]
    exact PS.rd h rfl rfl
theorem RR.lk (h : RR g0 f0 Bk Bt D δ g f) {l o : Nat} (hl : l < 10) (ho : o < 10) (hne : l ≠ o) {c : Int32} (hc : c = 0 ∨ c = 1) : RR g0 f0 Bk Bt D δ (upr g 13 l (upd (g 13 l) 4 (chg (g 13 l 4) (nI o) c))) (upr f 1 0 (upd (f 1 0) l (chg (f 1 0 l) (nI o) c))) := by
  have e := h.2.2.s (k := 13) (i := l) (x := 4) (a := l) (by unfold Sc; omega) rfl
  obtain ⟨b, hb, eb⟩ := (h.2.2.2.1 13 l 4 (by unfold Sc; omega)).1 rfl rfl
  rw [← e]
  refine h.setx (k := 13) (i := l) (x := 4) (by unfold Sc; omega) (by omega) (by omega) (by omega) (Nat.le_refl _) ?_ rfl h.2.2.2.2.2.2.2.1 h.2.2.2.2.2.2.2.2.1 h.2.2.2.2.2.2.2.2.2.1 ?_
  · refine ⟨fun _ _ => ?_, by omega, by omega, by omega, by omega, by omega, by omega, by omega, by omega, by omega, by omega, by omega, by omega, by omega⟩
    rw [eb]
    exact chg_lt hb ho c
  · intro l' hl'
    have x4 := h.2.2.2.2.2.2.2.2.2.2 l' hl'
    by_cases y : l' = l
    · subst y
      rw [upr_eq, upd_s]
      rcases hc with rfl | rfl
      · rw [isI_off _ ho hl', if_neg hne]
        exact x4
      · rw [isI_on _ ho hl', if_neg hne]
        exact x4
    · rw [upr_ne (by omega)]
      exact x4
theorem pp_link (h : RP g0 f0 B g f) {F : Nat} (hF : 20 ≤ F) (a b c : Int32) : PS g0 f0 B (m_X5_link g a b c) (m_X6_link F f a b c) := by
  unfold m_X5_link m_X6_link
  simp only [p_lamp, p_lamp6, p_btw, p_in, p_chg, Option.bind_some, ltm]
  by_cases z : btw a 0 9 = 0
  · simp only [if_pos z]
    exact PS.rd h rfl rfl
  · simp only [if_neg z]
    by_cases z2 : btw b 0 9 = 0
    · simp only [if_pos z2]
      exact PS.rd h rfl rfl
    · simp only [if_neg z2]
      obtain ⟨l, hl, rfl⟩ := btw_l z
      obtain ⟨o, ho, rfl⟩ := btw_l z2
      by_cases z3 : nI l = nI o
      · simp only [if_pos z3]
        exact PS.rd h rfl rfl
      · simp only [if_neg z3]
        have hne : l ≠ o := fun y => z3 (by rw [y])
        by_cases z4 : btw c 0 1 = 0
        · simp only [if_pos z4]
          exact PS.rd h rfl rfl
        · simp only [if_neg z4]
          obtain ⟨w, -, hw, rfl⟩ := btw_n (m := 0) (n := 1) rfl rfl (by omega) (by omega) z4
          have i0 : ((0 : Int32) + nI l) = nI l := Int32.zero_add _
          have i1 : ((0 : Int32) + nI o) = nI o := Int32.zero_add _
          simp only [i0, i1]
          simp (disch := omega) only [ngF, leF, nI_clamp, or_self, if_false]
          have hw2 : w = 0 ∨ w = 1 := by omega
          have key : ∀ c : Int32, c = 0 ∨ c = 1 → ∃ g2 f2 : Mem, g2 = upr (upr g 13 l (upd (g 13 l) 4 (chg (g 13 l 4) (nI o) c))) 13 o (upd (upr g 13 l (upd (g 13 l) 4 (chg (g 13 l 4) (nI o) c)) 13 o) 4 (chg (upr g 13 l (upd (g 13 l) 4 (chg (g 13 l 4) (nI o) c)) 13 o 4) (nI l) c)) ∧ f2 = upr (upr f 1 0 (upd (f 1 0) l (chg (f 1 0 l) (nI o) c))) 1 0 (upd (upr f 1 0 (upd (f 1 0) l (chg (f 1 0 l) (nI o) c)) 1 0) o (chg (upr f 1 0 (upd (f 1 0) l (chg (f 1 0 l) (nI o) c)) 1 0 o) (nI l) c)) ∧ RP g0 f0 (B + 1) g2 f2 ∧ m_J6_bitCount_0f7a4 (g2 13 l 4) = some (cnt10 (g2 13 l 4)) ∧ m_X6_bits F (f2 1 0 l) = some (cnt10 (g2 13 l 4)) := by
            intro c hc
            have h2 := (RR.lk h hl ho hne hc).lk ho hl (Ne.symm hne) hc
            have h3 := s_cnt h2 (F := F) hl hF
            exact ⟨_, _, rfl, rfl, RP.of h2 (by omega) (by omega), h3⟩
          rcases hw2 with rfl | rfl
          · obtain ⟨g2, f2, e1, e2, h2, c1, c2⟩ := key 0 (Or.inl rfl)
            have q : ¬ (nI 0 = (1 : Int32)) := by decide
            simp only [if_neg q]
            refine ⟨cnt10 (g2 13 l 4), g2, f2, ?_, ?_, h2⟩
            · rw [← e1, c1]
              rfl
            · have e3 : ∀ (s i : Int32), s &&& ((1 <<< (i &&& 31)) ^^^ (-1)) = chg s i 0 := fun s i => by unfold chg; rw [if_pos rfl]
              simp only [e3]
              rw [← e2, c2]
              rfl
          · obtain ⟨g2, f2, e1, e2, h2, c1, c2⟩ := key 1 (Or.inr rfl)
            simp only [if_pos (show nI 1 = (1 : Int32) from rfl)]
            refine ⟨cnt10 (g2 13 l 4), g2, f2, ?_, ?_, h2⟩
            · rw [← e1, c1]
              rfl
            · have e3 : ∀ (s i : Int32), s ||| (1 <<< (i &&& 31)) = chg s i 1 := fun s i => by unfold chg; rw [if_neg (by decide)]
              simp only [e3]
              rw [← e2, c2]
              rfl
theorem pp_friend (h : RP g0 f0 B g f) {F : Nat} (hF : 20 ≤ F) (a b : Int32) : PS g0 f0 B (m_X5_friend F g a b) (m_X6_friend f a b) := by
  unfold m_X5_friend m_X6_friend
  simp only [p_lamp, p_lamp6, Option.bind_some, ltm]
  by_cases z : btw a 0 9 = 0
  · simp only [if_pos z]
    exact PS.rd h rfl rfl
  · simp only [if_neg z]
    obtain ⟨l, hl, rfl⟩ := btw_l z
    have i70 : ((70 : Int32) + nI l) = nI (70 + l) := nI_add 70 l
    have i150 : ((150 : Int32) + nI l) = nI (150 + l) := nI_add 150 l
    have e6 := h.2.2.s (k := 13) (i := l) (x := 6) (a := 60 + l) (by unfold Sc; omega) rfl
    have e7 := h.2.2.s (k := 13) (i := l) (x := 7) (a := 70 + l) (by unfold Sc; omega) rfl
    have z4 : ¬ ((1 : Int32) = 0) := by decide
    -- who is asleep keeps its FRIEND
    have key : ∀ v : Int32, (v = -6 ∨ ∃ j : Nat, j < 10 ∧ v = nI j) → ∃ (r : Int32) (g' f' : Mem), RP g0 f0 (B + 1) g' f' ∧ (if g 13 l 6 = 0 then (m_X3_dropOldestk F l (upr g 13 l (upd (g 13 l) 7 v)) 0).bind (fun (r11, g12) => some (g 13 l 7, g12)) else some ((-3 : Int32), g)) = some (r, g') ∧ (if (if f 1 0 (60 + l) = 1 then (1 : Int32) else 0) = 0 then some (f 1 0 (70 + l), upr (upr f 1 0 (upd (f 1 0) (70 + l) v)) 1 0 (upd (upr f 1 0 (upd (f 1 0) (70 + l) v) 1 0) (150 + l) 0)) else some ((-3 : Int32), f)) = some (r, f') := by
      intro v hv
      rcases h.2.2.sl hl with y | y
      · have y2 : ¬ (f 1 0 (60 + l) = 1) := by rw [← e6, y]; decide
        have h1 := RR.set h (k := 13) (i := l) (x := 7) (a := 70 + l) (v := v) (by unfold Sc; omega) (by unfold plain; omega) ⟨by omega, by omega, fun _ _ => hv, by omega, by omega, by omega, by omega, by omega, by omega, by omega, by omega, by omega, by omega, by omega⟩ rfl
        obtain ⟨g', k1, k2, -⟩ := s_k0 h1 (F := F) hl hF
        refine ⟨g 13 l 7, g', _, RP.of k2 (by omega) (by omega), ?_, ?_⟩
        · rw [if_pos y, k1]
          rfl
        · rw [if_neg y2, if_pos rfl, ← e7]
      · have y2 : f 1 0 (60 + l) = 1 := by rw [← e6, y]
        refine ⟨-3, g, f, RP.of h (by omega) (by omega), ?_, ?_⟩
        · rw [if_neg (by rw [y]; decide)]
        · rw [if_pos y2, if_neg z4]
    simp only [i70, i150, E_sleeps hl, Option.bind_some]
    simp (disch := omega) only [ngF, leF, nI_clamp, or_self, if_false]
    by_cases y : b = -6
    · subst y
      have y1 : btw (-6) 0 9 = 0 := by decide
      have y2 : ¬ (nI l = -6) := nIn6 (by omega)
      simp only [if_pos y1, if_neg y2, if_neg (fun w : -6 = nI l => y2 w.symm), if_true]
      obtain ⟨r, g', f', k1, k2, k3⟩ := key (-6) (Or.inl rfl)
      exact ⟨r, g', f', k2, k3, k1⟩
    · simp only [if_neg y]
      by_cases z2 : btw b 0 9 = 0
      · simp only [if_pos z2]
        exact PS.rd h rfl rfl
      · simp only [if_neg z2]
        by_cases z3 : nI l = b
        · simp only [if_pos z3, if_pos z3.symm]
          exact PS.rd h rfl rfl
        · simp only [if_neg z3, if_neg (fun w : b = nI l => z3 w.symm)]
          obtain ⟨r, g', f', k1, k2, k3⟩ := key b (Or.inr (btw_l z2))
          exact ⟨r, g', f', k2, k3, k1⟩
end PUB2
