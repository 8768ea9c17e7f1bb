section PUB4
variable {g0 f0 g f : Mem} {B Bk Bt D δ Bk' : Nat}
theorem pp_set (h : RP g0 f0 B g f) {F : Nat} (hF : 40 ≤ F) (a b c : Int32) : PS g0 f0 B (m_X5_set F g a b c) (m_X6_set F f a b c) := by
  unfold m_X5_set m_X6_set
  simp only [p_lamp, p_lamp6, p_btw, p_in, Option.bind_some, ltm]
  by_cases z : btw a 0 9 = 0
  · simp only [if_pos z]
    exact PS.rd h rfl rfl
  · simp only [if_neg z]
    by_cases z2 : btw b 0 3 = 0
    · simp only [if_pos z2]
      exact PS.rd h rfl rfl
    · simp only [if_neg z2]
      obtain ⟨l, hl, rfl⟩ := btw_l z
      obtain ⟨w, -, hw, rfl⟩ := btw_n (m := 0) (n := 3) rfl rfl (by omega) (by omega) z2
      have cw : ¬ (nI w < 0 ∨ 4 ≤ (nI w).toNatClampNeg) := ckI (by omega) (by omega)
      have cl : ¬ (nI l < 0 ∨ 10 ≤ (nI l).toNatClampNeg) := ckI (by omega) (by omega)
      have nw : (nI w).toNatClampNeg = w := nI_clamp (by omega)
      have nl : (nI l).toNatClampNeg = l := nI_clamp (by omega)
      have i1 : (((10 : Int32) + (10 : Int32) * nI w) + nI l) = nI (10 + 10 * w + l) := by simp only [L10, pk_mul, nI_add]
      have c1 : ¬ (nI (10 + 10 * w + l) < 0 ∨ 6819 ≤ (nI (10 + 10 * w + l)).toNatClampNeg) := ckI (by omega) (by omega)
      have n1 : (nI (10 + 10 * w + l)).toNatClampNeg = 10 + 10 * w + l := nI_clamp (by omega)
      have e := h.2.2.s (k := 14) (i := l) (x := w) (a := 10 + 10 * w + l) (by unfold Sc; omega) rfl
      simp only [if_neg cw, if_neg cl, i1, if_neg c1]
      simp only [nw, nl, n1]
      have key : ∀ lo hi : Nat, (w = 0 → 1 ≤ lo ∧ hi ≤ 9) → (w = 2 → hi ≤ 8) → hi < 100 → lo < 100 → PS g0 f0 B (if btw c (nI lo) (nI hi) = 0 then some ((-2 : Int32), g) else (m_X3_dropOldestm F l (upr g 14 l (upd (g 14 l) w c)) (upr g 14 l (upd (g 14 l) w c) 14 l 2)).bind (fun (r19, g20) => some (g 14 l w, g20))) (if btw c (nI lo) (nI hi) = 0 then some ((-2 : Int32), f) else (m_X6_forget F (upr f 1 0 (upd (f 1 0) (10 + 10 * w + l) c)) (nI l)).bind (fun (r20, g21) => some (f 1 0 (10 + 10 * w + l), g21))) := by
        intro lo hi q1 q2 q3 q4
        by_cases z3 : btw c (nI lo) (nI hi) = 0
        · simp only [if_pos z3]
          exact PS.rd h rfl rfl
        · simp only [if_neg z3]
          obtain ⟨v, v1, v2, rfl⟩ := btw_n (m := lo) (n := hi) rfl rfl (by omega) (by omega) z3
          obtain ⟨g', f', k1, k2, k3⟩ := s_set h (l := l) (w := w) (v := v) (F := F) hl hF (by omega) (fun y => by have := q1 y; omega) (fun y => by have := q2 y; omega)
          refine ⟨g 14 l w, g', f', ?_, ?_, RP.of k1 (by omega) (by omega)⟩
          · rw [k2]
            rfl
          · rw [k3, e]
            rfl
      have hw2 : w = 0 ∨ w = 1 ∨ w = 2 ∨ w = 3 := by omega
      rcases hw2 with rfl | rfl | rfl | rfl
      · simp only [if_pos (show nI 0 = 0 from rfl)]
        exact key 1 9 (by omega) (by omega) (by omega) (by omega)
      · have y0 : ¬ (nI 1 = 0) := by decide
        simp only [if_neg y0, if_pos (show nI 1 = 1 from rfl)]
        exact key 0 1 (by omega) (by omega) (by omega) (by omega)
      · have y0 : ¬ (nI 2 = 0) := by decide
        have y1 : ¬ (nI 2 = 1) := by decide
        simp only [if_neg y0, if_neg y1, if_pos (show nI 2 = 2 from rfl)]
        exact key 0 8 (by omega) (by omega) (by omega) (by omega)
      · have y0 : ¬ (nI 3 = 0) := by decide
        have y1 : ¬ (nI 3 = 1) := by decide
        have y2 : ¬ (nI 3 = 2) := by decide
        simp only [if_neg y0, if_neg y1, if_neg y2]
        exact key 0 15 (by omega) (by omega) (by omega) (by omega)
/-- what was KEPT for one that wakes -/
theorem s_wk1 {l F : Nat} {x3 : Int32} (hl : l < 10) (hBk : Bk < 1000000) : ∀ (n i : Nat) (g f : Mem), i + n = kz g l → RR g0 f0 Bk Bt D δ g f → ∃ (s : Int32) (g' f' : Mem), RR g0 f0 Bk Bt D δ g' f' ∧ g' 18 = g 18 ∧ g' 13 l 9 = g 13 l 9 + s ∧ (∀ k : Nat, lp_X4_wake_20 F (k + n) l g (nI l) x3 (nI i) = lp_X4_wake_20 F k l g' (nI l) x3 (nI (i + n))) ∧ (∀ (k : Nat) (x4 : Int32), lp_X6_sleep_75 F (k + n) f (nI l) 1 x4 (nI i) = lp_X6_sleep_75 F k f' (nI l) 1 (x4 + s) (nI (i + n)))
  | 0, i, g, f, hi, h => ⟨0, g, f, h, rfl, (Int32.add_zero _).symm, fun _ => rfl, fun k x4 => by rw [Int32.add_zero]; rfl⟩
  | n + 1, i, g, f, hi, h => by
    obtain ⟨ek, hk⟩ := h.2.2.k hl
    have fk := h.2.2.s (k := 18) (i := l) (x := 1) (a := 150 + l) (by unfold Sc; omega) rfl
    obtain ⟨q, hq, y1, y2, y3⟩ := h.2.2.2.2.2.1 l i hl (by omega)
    have c0 : ¬ (g 18 l 1 ≤ nI i) := fun y => by rw [ek] at y; have := (nI_leI (by omega) (by omega)).mp y; omega
    have c1 : ¬ (nI i < 0 ∨ 3 ≤ (nI i).toNatClampNeg) := ckI (by omega) (by omega)
    have n1 : (nI i).toNatClampNeg = i := nI_clamp (by omega)
    have i150 : ((150 : Int32) + nI l) = nI (150 + l) := nI_add 150 l
    have i110 : ((110 : Int32) + nI l) = nI (110 + l) := nI_add 110 l
    have i430 : (((430 : Int32) + (6 : Int32) * nI l) + (2 : Int32) * nI i) = nI (430 + 6 * l + 2 * i) := by simp only [L430, L6, L2, pk_mul, nI_add]
    have i431 : (nI (430 + 6 * l + 2 * i) + (1 : Int32)) = nI (431 + 6 * l + 2 * i) := by rw [nI_1]; congr 1; omega
    have c150 : ¬ (nI (150 + l) < 0 ∨ 6819 ≤ (nI (150 + l)).toNatClampNeg) := ckI (by omega) (by omega)
    have c110 : ¬ (nI (110 + l) < 0 ∨ 6819 ≤ (nI (110 + l)).toNatClampNeg) := ckI (by omega) (by omega)
    have c430 : ¬ (nI (430 + 6 * l + 2 * i) < 0 ∨ 6819 ≤ (nI (430 + 6 * l + 2 * i)).toNatClampNeg) := ckI (by omega) (by omega)
    have c431 : ¬ (nI (431 + 6 * l + 2 * i) < 0 ∨ 6819 ≤ (nI (431 + 6 * l + 2 * i)).toNatClampNeg) := ckI (by omega) (by omega)
    have n150 : (nI (150 + l)).toNatClampNeg = 150 + l := nI_clamp (by omega)
    have n110 : (nI (110 + l)).toNatClampNeg = 110 + l := nI_clamp (by omega)
    have n430 : (nI (430 + 6 * l + 2 * i)).toNatClampNeg = 430 + 6 * l + 2 * i := nI_clamp (by omega)
    have n431 : (nI (431 + 6 * l + 2 * i)).toNatClampNeg = 431 + 6 * l + 2 * i := nI_clamp (by omega)
    have z10 : ¬ ((1 : Int32) = 0) := by decide
    obtain ⟨b, hb, w1, w2⟩ := s_knows h hBk hl hq
    have hX : ∀ k : Nat, lp_X4_wake_20 F (k + 1) l g (nI l) x3 (nI i) = if b = 0 then lp_X4_wake_20 F k l (upr g 13 l (upd (g 13 l) 11 (g 13 l 11 + 1))) (nI l) x3 (nI (i + 1)) else (m_X4_take l g (nI q)).bind (fun (r18, g19) => lp_X4_wake_20 F k l g19 (nI l) x3 (nI (i + 1))) := by
      intro k
      rw [lp_X4_wake_20]
      unfold st_X4_wake_20
      rw [if_neg c0, if_neg c1, n1, y1, w1, Option.bind_some, nI_1]
      rfl
    have hM : ∀ (k : Nat) (x4 : Int32), lp_X6_sleep_75 F (k + 1) f (nI l) 1 x4 (nI i) = if b = 0 then lp_X6_sleep_75 F k (upr f 1 0 (upd (f 1 0) (110 + l) (f 1 0 (110 + l) + 1))) (nI l) 1 x4 (nI (i + 1)) else (m_X6_takes f (nI l) (nI (q / 200)) (nI (q % 200 + 1))).bind (fun (r43, g44) => if r43 = 0 then lp_X6_sleep_75 F k g44 (nI l) 1 (x4 + 0) (nI (i + 1)) else lp_X6_sleep_75 F k g44 (nI l) 1 (x4 + 1) (nI (i + 1))) := by
      intro k x4
      rw [lp_X6_sleep_75]
      unfold st_X6_sleep_75
      simp only [i150, i110, i430, i431, if_neg c150, if_neg c110, if_neg c430, if_neg c431]
      simp only [n150, n110, n430, n431, ← fk, if_neg c0, if_neg z10, y2, y3, w2, Option.bind_some, nI_1, ltm]
    rcases hb with rfl | rfl
    · have h1 := s_inc h hl (x := 11) (by omega) (by omega)
      rw [show 10 * 11 + l = 110 + l by omega] at h1
      have k18 : upr g 13 l (upd (g 13 l) 11 (g 13 l 11 + 1)) 18 = g 18 := upr_k (by omega)
      obtain ⟨s, g2, f2, j1, j2, j3, j4, j5⟩ := s_wk1 (x3 := x3) (F := F) hl hBk n (i + 1) _ _ (by unfold kz; rw [k18]; unfold kz at hi; omega) h1
      refine ⟨s, g2, f2, j1, j2.trans k18, by rw [j3, upr_eq, upd_n (by omega)], fun k => ?_, fun k x4 => ?_⟩
      · rw [show k + (n + 1) = k + n + 1 by omega, hX, if_pos rfl, j4, show i + 1 + n = i + (n + 1) by omega]
      · rw [show k + (n + 1) = k + n + 1 by omega, hM, if_pos rfl, j5, show i + 1 + n = i + (n + 1) by omega]
    · obtain ⟨b, g1, f1, hb, t1, t2, t3, t4, t5, -⟩ := s_take h hl hq
      obtain ⟨s, g2, f2, j1, j2, j3, j4, j5⟩ := s_wk1 (x3 := x3) (F := F) hl hBk n (i + 1) g1 f1 (by unfold kz; rw [t5 18 (by omega) (by omega)]; unfold kz at hi; omega) t3
      refine ⟨b + s, g2, f2, j1, j2.trans (t5 18 (by omega) (by omega)), by rw [j3, t4, Int32.add_assoc], fun k => ?_, fun k x4 => ?_⟩
      · rw [show k + (n + 1) = k + n + 1 by omega, hX, if_neg z10, t1, Option.bind_some]
        dsimp only
        rw [j4, show i + 1 + n = i + (n + 1) by omega]
      · rw [show k + (n + 1) = k + n + 1 by omega, hM, if_neg z10, t2, Option.bind_some]
        dsimp only
        rw [← Int32.add_assoc]
        rcases hb with rfl | rfl
        · rw [if_pos rfl, j5, show i + 1 + n = i + (n + 1) by omega]
        · rw [if_neg z10, j5, show i + 1 + n = i + (n + 1) by omega]
/-- it wakes -/
theorem s_wake (h : RR g0 f0 Bk Bt D δ g f) {l F : Nat} (hl : l < 10) (hBk : Bk < 1000000) (hF : 20 ≤ F) : ∃ (s : Int32) (g' f' : Mem), RR g0 f0 Bk Bt D δ g' f' ∧ m_X4_wake F g (nI l) = some (s, g') ∧ lp_X6_sleep_75 F F (upr f 1 0 (upd (f 1 0) (60 + l) 0)) (nI l) 1 0 0 = some (s, f') := by
  have cl : ¬ (nI l < 0 ∨ 10 ≤ (nI l).toNatClampNeg) := ckI (by omega) (by omega)
  have nl : (nI l).toNatClampNeg = l := nI_clamp (by omega)
  have h1 := h.set (k := 13) (i := l) (x := 6) (a := 60 + l) (v := 0) (by unfold Sc; omega) (by unfold plain; omega) ⟨by omega, fun _ _ => Or.inl rfl, by omega, by omega, by omega, by omega, by omega, by omega, by omega, by omega, by omega, by omega, by omega, by omega⟩ rfl
  have k9 : upr g 13 l (upd (g 13 l) 6 0) 13 l 9 = g 13 l 9 := by rw [upr_eq, upd_n (by omega)]
  unfold m_X4_wake
  rw [if_neg cl, nl]
  simp only [ltm]
  generalize upr g 13 l (upd (g 13 l) 6 0) = g1 at h1 k9 ⊢
  generalize upr f 1 0 (upd (f 1 0) (60 + l) 0) = f1 at h1 ⊢
  obtain ⟨ek, hk⟩ := h1.2.2.k hl
  obtain ⟨s, g2, f2, j1, j2, j3, j4, j5⟩ := s_wk1 (x3 := g 13 l 9) (F := F) hl hBk (kz g1 l) 0 g1 f1 (by omega) h1
  have kz2 : kz g2 l = kz g1 l := by unfold kz; rw [j2]
  obtain ⟨g3, d1, d2, d3⟩ := s_k0 j1 (F := F) hl hF
  obtain ⟨k, hkk⟩ : ∃ k, F = k + 1 + kz g1 l := ⟨F - 1 - kz g1 l, by omega⟩
  have fk := j1.2.2.s (k := 18) (i := l) (x := 1) (a := 150 + l) (by unfold Sc; omega) rfl
  have e18 : g2 18 l 1 = nI (kz g1 l) := by rw [j2, ek]
  have i150 : ((150 : Int32) + nI l) = nI (150 + l) := nI_add 150 l
  have c150 : ¬ (nI (150 + l) < 0 ∨ 6819 ≤ (nI (150 + l)).toNatClampNeg) := ckI (by omega) (by omega)
  have n150 : (nI (150 + l)).toNatClampNeg = 150 + l := nI_clamp (by omega)
  refine ⟨s, g3, _, d2, ?_, ?_⟩
  · have := j4 (k + 1)
    rw [← hkk, Nat.zero_add, show nI 0 = (0 : Int32) from rfl] at this
    rw [this, lp_X4_wake_20]
    unfold st_X4_wake_20
    rw [e18, if_pos (Int32.le_refl _), d1, Option.bind_some]
    dsimp only
    rw [d3 13 (by omega) (by omega), j3, k9, Int32.add_comm, Int32.add_sub_cancel]
  · have := j5 (k + 1) 0
    rw [← hkk, Nat.zero_add, show nI 0 = (0 : Int32) from rfl, Int32.zero_add] at this
    rw [this, lp_X6_sleep_75]
    unfold st_X6_sleep_75
    simp only [i150, if_neg c150]
    simp only [n150, ← fk, e18, if_pos (Int32.le_refl _), ltm]
    rw [if_neg (by decide)]
theorem pp_sleep (h : RP g0 f0 B g f) (hB : B < 1000) {F : Nat} (hF : 20 ≤ F) (a b : Int32) : PS g0 f0 B (m_X5_sleep F g a b) (m_X6_sleep F f a b) := by
  unfold m_X5_sleep m_X6_sleep
  simp only [p_lamp, p_lamp6, p_btw, p_in, Option.bind_some, ltm]
  by_cases z : btw a 0 9 = 0
  · simp only [if_pos z]
    exact PS.rd h rfl rfl
  · simp only [if_neg z]
    by_cases z2 : btw b 0 1 = 0
    · simp only [if_pos z2]
      exact PS.rd h rfl rfl
    · simp only [if_neg z2]
      obtain ⟨l, hl, rfl⟩ := btw_l z
      obtain ⟨w, -, hw, rfl⟩ := btw_n (m := 0) (n := 1) rfl rfl (by omega) (by omega) z2
      have cl : ¬ (nI l < 0 ∨ 10 ≤ (nI l).toNatClampNeg) := ckI (by omega) (by omega)
      have nl : (nI l).toNatClampNeg = l := nI_clamp (by omega)
      have i70 : ((70 : Int32) + nI l) = nI (70 + l) := nI_add 70 l
      have i60 : ((60 : Int32) + nI l) = nI (60 + l) := nI_add 60 l
      have i150 : ((150 : Int32) + nI l) = nI (150 + l) := nI_add 150 l
      have c70 : ¬ (nI (70 + l) < 0 ∨ 6819 ≤ (nI (70 + l)).toNatClampNeg) := ckI (by omega) (by omega)
      have c60 : ¬ (nI (60 + l) < 0 ∨ 6819 ≤ (nI (60 + l)).toNatClampNeg) := ckI (by omega) (by omega)
      have c150 : ¬ (nI (150 + l) < 0 ∨ 6819 ≤ (nI (150 + l)).toNatClampNeg) := ckI (by omega) (by omega)
      have n70 : (nI (70 + l)).toNatClampNeg = 70 + l := nI_clamp (by omega)
      have n60 : (nI (60 + l)).toNatClampNeg = 60 + l := nI_clamp (by omega)
      have n150 : (nI (150 + l)).toNatClampNeg = 150 + l := nI_clamp (by omega)
      have e6 := h.2.2.s (k := 13) (i := l) (x := 6) (a := 60 + l) (by unfold Sc; omega) rfl
      have e7 := h.2.2.s (k := 13) (i := l) (x := 7) (a := 70 + l) (by unfold Sc; omega) rfl
      have z10 : ¬ ((1 : Int32) = 0) := by decide
      -- nobody wakes
      have key : ∀ v : Int32, (v = 0 ∨ v = 1) → RP g0 f0 (B + 1) (upr g 13 l (upd (g 13 l) 6 v)) (upr f 1 0 (upd (f 1 0) (60 + l) v)) ∧ lp_X6_sleep_75 F F (upr f 1 0 (upd (f 1 0) (60 + l) v)) (nI l) 0 0 0 = some (0, upr f 1 0 (upd (f 1 0) (60 + l) v)) := by
        intro v hv
        have h1 := RR.set h (k := 13) (i := l) (x := 6) (a := 60 + l) (v := v) (by unfold Sc; omega) (by unfold plain; omega) ⟨by omega, fun _ _ => hv, by omega, by omega, by omega, by omega, by omega, by omega, by omega, by omega, by omega, by omega, by omega, by omega⟩ rfl
        refine ⟨RP.of h1 (by omega) (by omega), ?_⟩
        obtain ⟨k, rfl⟩ : ∃ k, F = k + 1 := ⟨F - 1, by omega⟩
        generalize upr f 1 0 (upd (f 1 0) (60 + l) v) = f1
        rw [lp_X6_sleep_75]
        unfold st_X6_sleep_75
        simp only [i150, if_neg c150, if_true, ltm]
        simp only [n150, upd_id, upr_id]
        split <;> rfl
      simp only [if_neg cl, i70, i60, if_neg c70, if_neg c60, E_sleeps hl, Option.bind_some]
      simp only [nl, n70, n60]
      have hw2 : w = 0 ∨ w = 1 := by omega
      rcases hw2 with rfl | rfl
      · have y0 : ¬ (nI 0 = 1) := by decide
        simp only [if_neg y0, if_pos (show nI 0 = 0 from rfl)]
        rcases h.2.2.sl hl with y | y
        · have y2 : ¬ (f 1 0 (60 + l) = 1) := by rw [← e6, y]; decide
          obtain ⟨k1, k2⟩ := key 0 (Or.inl rfl)
          simp only [if_pos y, if_neg y2, if_true]
          exact ⟨0, _, _, rfl, k2, k1⟩
        · have y2 : f 1 0 (60 + l) = 1 := by rw [← e6, y]
          have y3 : ¬ (g 13 l 6 = 0) := by rw [y]; decide
          simp only [if_neg y3, if_pos y2, if_neg z10]
          obtain ⟨s, g', f', k1, k2, k3⟩ := s_wake h (F := F) hl (by omega) hF
          refine ⟨s, g', f', ?_, k3, RP.of k1 (by omega) (by omega)⟩
          rw [k2]
          rfl
      · have y0 : ¬ (nI 1 = 0) := by decide
        simp only [if_neg y0, if_pos (show nI 1 = 1 from rfl)]
        rw [e7]
        obtain ⟨k1, k2⟩ := key 1 (Or.inr rfl)
        rcases (h.2.2.2.1 13 l 7 (by unfold Sc; omega)).2.2.1 rfl rfl with y | ⟨j, hj, y⟩
        · rw [e7] at y
          rw [y, if_pos rfl, if_neg (by decide)]
          exact PS.rd h rfl rfl
        · rw [e7] at y
          rw [y, if_neg (nIn6 (by omega)), if_pos (show 0 ≤ nI j from Int32.not_lt.mp (nI_pos (by omega)))]
          exact ⟨0, _, _, rfl, k2, k1⟩
end PUB4
