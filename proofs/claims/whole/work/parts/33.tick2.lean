theorem Okv.mono {Bk Bt Bk' Bt' k x : Nat} {v : Int32} (h : Okv Bk Bt k x v) (h1 : Bk ≤ Bk') (h2 : Bt ≤ Bt') : Okv Bk' Bt' k x v := by
  obtain ⟨a1, a2, a3, a4, a5, a6, a7, a8, a9, a10, a11, a12, a13, a14⟩ := h
  refine ⟨a1, a2, a3, a4, a5, a6, a7, a8, a9, fun e1 e2 => ?_, fun e1 e2 => ?_, a12, a13, a14⟩
  · obtain ⟨t, z1, z2⟩ := a10 e1 e2
    exact ⟨t, by omega, z2⟩
  · obtain ⟨t, z1, z2⟩ := a11 e1 e2
    exact ⟨t, by omega, z2⟩
theorem Jv.mono {Bk Bt Bk' Bt' : Nat} {g : Mem} (h : Jv Bk Bt g) (h1 : Bk ≤ Bk') (h2 : Bt ≤ Bt') : Jv Bk' Bt' g := fun k i x hs => (h k i x hs).mono h1 h2
/-- a number that something hangs on -/
theorem RC.setx {Bk Bt D δ Bk' Bt' D' δ' : Nat} {g : Mem} {σ : Nat → Int32} (h : RC Bk Bt D δ g σ) {k i x a : Nat} {v : Int32} (hs : Sc k i x) (p1 : k ≠ 16) (p2 : k ≠ 18) (p3 : k ≠ 8) (h1 : Bk ≤ Bk') (h2 : Bt ≤ Bt') (hv : Okv Bk' Bt' k x v) (ha : a = adr k i x) (x1 : X1 (upr g k i (upd (g k i) x v))) (x2 : X2 (upr g k i (upd (g k i) x v))) (x3 : X3 D' δ' (upr g k i (upd (g k i) x v))) (x4 : X4 (upr g k i (upd (g k i) x v))) : RC Bk' Bt' D' δ' (upr g k i (upd (g k i) x v)) (upd σ a v) := by
  subst ha
  obtain ⟨y1, y2, y3, y4, y5, -, -, -, -⟩ := id h
  have ho := adr_off hs
  obtain ⟨n1, n2, n3, n4, n5, n6, -, -⟩ := Sc_ne hs
  have e16 : upr g k i (upd (g k i) x v) 16 = g 16 := upr_k (Ne.symm p1)
  have e18 : upr g k i (upd (g k i) x v) 18 = g 18 := upr_k (Ne.symm p2)
  have e8 : upr g k i (upd (g k i) x v) 8 = g 8 := upr_k (Ne.symm p3)
  have e17 : upr g k i (upd (g k i) x v) 17 = g 17 := upr_k (Ne.symm n1)
  have e19 : upr g k i (upd (g k i) x v) 19 = g 19 := upr_k (Ne.symm n2)
  have e9 : upr g k i (upd (g k i) x v) 9 = g 9 := upr_k (Ne.symm n3)
  have e10 : upr g k i (upd (g k i) x v) 10 = g 10 := upr_k (Ne.symm n4)
  have e11 : upr g k i (upd (g k i) x v) 11 = g 11 := upr_k (Ne.symm n5)
  have e12 : upr g k i (upd (g k i) x v) 12 = g 12 := upr_k (Ne.symm n6)
  refine ⟨y1.set hs, (y2.mono h1 h2).set hv, ?_, ?_, ?_, x1, x2, x3, x4⟩
  · intro l j hl hj
    unfold mz at hj
    rw [e16] at hj
    have hj2 : j < mz g l := hj
    have hm := (h.m hl).2
    rw [e17, upd_n (by omega), upd_n (by omega)]
    exact y3 l j hl hj
  · intro l j hl hj
    unfold kz at hj
    rw [e18] at hj
    have hj2 : j < kz g l := hj
    have hm := (h.k hl).2
    rw [e19, upd_n (by omega), upd_n (by omega)]
    exact y4 l j hl hj
  · intro j hj
    unfold az at hj
    rw [e8] at hj
    have hj2 : j < az g := hj
    have hm := h.a.2
    rw [e9, e10, e11, e12, upd_n (by omega), upd_n (by omega), upd_n (by omega), upd_n (by omega), upd_n (by omega)]
    exact y5 j hj
section TICK2
variable {g0 f0 : Mem} {Bk Bt D : Nat}
/-- the next tick -/
theorem RR.tick {g f : Mem} (h : RR g0 f0 Bk Bt D 1 g f) (hB : Bt < 1000000) : RR g0 f0 Bk (Bt + 1) D 0 (upr g 2 0 (upd (g 2 0) 3 (g 2 0 3 + 1))) (upr f 1 0 (upd (f 1 0) 6810 (f 1 0 6810 + 1))) ∧ tk (upr g 2 0 (upd (g 2 0) 3 (g 2 0 3 + 1))) = tk g + 1 := by
  obtain ⟨et, ht⟩ := h.2.2.t hB
  have e := h.2.2.s (k := 2) (i := 0) (x := 3) (a := 6810) (by unfold Sc; omega) rfl
  have et1 : g 2 0 3 + 1 = nI (tk g + 1) := by rw [et]; exact nI_add _ 1
  have tk1 : tk (upr g 2 0 (upd (g 2 0) 3 (g 2 0 3 + 1))) = tk g + 1 := by
    unfold tk
    rw [upr_eq, upd_s, et1, nI_clamp (by omega)]
    rfl
  refine ⟨⟨fun k hk => ?_, fun k hk => ?_, ?_⟩, tk1⟩
  · rw [upr_k (by omega)]
    exact h.1 k hk
  · rw [upr_k hk]
    exact h.2.1 k hk
  · rw [upr_eq, ← e]
    refine h.2.2.setx (by unfold Sc; omega) (by omega) (by omega) (by omega) (Nat.le_refl _) (by omega) ?_ rfl ?_ ?_ ?_ ?_
    · refine ⟨by omega, by omega, by omega, by omega, by omega, by omega, by omega, by omega, by omega, fun _ _ => ⟨tk g + 1, by omega, et1⟩, by omega, by omega, by omega, by omega⟩
    · exact h.2.2.2.2.2.2.2.1
    · exact h.2.2.2.2.2.2.2.2.1
    · intro i hi
      rw [tk1]
      obtain ⟨⟨x, hx, e9⟩, t, c, y1, y2, y3, y4, y5, y6, y7⟩ := h.2.2.2.2.2.2.2.2.2.1 i hi
      exact ⟨⟨x, hx, e9⟩, t, c, y1, y2, by omega, by omega, y5, y6, y7⟩
    · exact h.2.2.2.2.2.2.2.2.2.2
/-- nothing is due now -/
theorem RR.none {g f : Mem} (h : RR g0 f0 Bk Bt D 0 g f) (hB : Bt < 1000000) (hn : ∀ i : Nat, i < az g → ¬ g 10 0 i = g 2 0 3) : RR g0 f0 Bk Bt D 1 g f := by
  obtain ⟨et, ht⟩ := h.2.2.t hB
  obtain ⟨a, b, y1, y2, y3, y4, y5, y6, y7, y8, y9⟩ := h
  refine ⟨a, b, y1, y2, y3, y4, y5, y6, y7, fun i hi => ?_, y9⟩
  obtain ⟨x, t, c, z1, z2, z3, z4, z5, z6, z7⟩ := y8 i hi
  refine ⟨x, t, c, z1, z2, ?_, z4, z5, z6, z7⟩
  have : t ≠ tk g := fun q => hn i hi (by rw [z1, et, q])
  omega
theorem dn_st {F k : Nat} {f : Mem} {x : Int32} {n : Nat} (hn : n < 64) : lp_X6_dueNow_14 F (k + 1) f x (nI (n + 1) - 1) = lp_X6_dueNow_14 F k f (if f 1 0 (491 + 5 * n) = f 1 0 6810 then nI n else x) (nI n - 1) := by
  have e : nI (n + 1) - (1 : Int32) = nI n := sbI (b := 1) (by omega)
  have e2 : nI n + (-1 : Int32) = nI n - 1 := by rw [Int32.sub_eq_add_neg]
  have i1 : (((490 : Int32) + (5 : Int32) * nI n) + (1 : Int32)) = nI (491 + 5 * n) := by simp only [L490, L5, L1, pk_mul, nI_add]; congr 1; omega
  have c1 : ¬ (nI (491 + 5 * n) < 0 ∨ 6819 ≤ (nI (491 + 5 * n)).toNatClampNeg) := ckI (by omega) (by omega)
  have n1 : (nI (491 + 5 * n)).toNatClampNeg = 491 + 5 * n := nI_clamp (by omega)
  rw [lp_X6_dueNow_14, e]
  unfold st_X6_dueNow_14
  rw [if_neg (nI_pos (by omega))]
  simp only [i1, if_neg c1]
  simp only [n1, e2]
  by_cases z : f 1 0 (491 + 5 * n) = f 1 0 6810
  · rw [if_pos z, if_pos z]
  · rw [if_neg z, if_neg z]
theorem dn_no {F : Nat} {f : Mem} {x : Int32} : ∀ n k : Nat, n < k → n ≤ 64 → (∀ i : Nat, i < n → ¬ f 1 0 (491 + 5 * i) = f 1 0 6810) → lp_X6_dueNow_14 F k f x (nI n - 1) = some (x, f)
  | 0, k + 1, _, _, _ => by
    rw [lp_X6_dueNow_14]
    unfold st_X6_dueNow_14
    rw [if_pos (by decide)]
  | n + 1, k + 1, h, h64, hn => by
    rw [dn_st (by omega), if_neg (hn n (by omega))]
    exact dn_no n k (by omega) (by omega) (fun i hi => hn i (by omega))
theorem dn_at {F : Nat} {f : Mem} {i0 : Nat} (hd : f 1 0 (491 + 5 * i0) = f 1 0 6810) (hl : ∀ i : Nat, i < i0 → ¬ f 1 0 (491 + 5 * i) = f 1 0 6810) : ∀ (n k : Nat) (x : Int32), n < k → n ≤ 64 → i0 < n → lp_X6_dueNow_14 F k f x (nI n - 1) = some (nI i0, f)
  | n + 1, k + 1, x, h, h64, hn => by
    rw [dn_st (by omega)]
    by_cases e : n = i0
    · subst e
      rw [if_pos hd]
      exact dn_no n k (by omega) (by omega) hl
    · exact dn_at hd hl n k _ (by omega) (by omega) (by omega)
theorem RR.due {δ : Nat} {g f : Mem} (h : RR g0 f0 Bk Bt D δ g f) {i : Nat} (hi : i < az g) : (g 10 0 i = g 2 0 3) ↔ (f 1 0 (491 + 5 * i) = f 1 0 6810) := by
  rw [← h.2.2.s (k := 2) (i := 0) (x := 3) (a := 6810) (by unfold Sc; omega) rfl, (h.2.2.2.2.2.2.1 i hi).2.1]
theorem p_due0 {δ : Nat} {g f : Mem} (h : RR g0 f0 Bk Bt D δ g f) {F : Nat} (hF : 100 ≤ F) (hn : ∀ i : Nat, i < az g → ¬ g 10 0 i = g 2 0 3) : m_X6_dueNow F f = some (-6, f) := by
  have e : f 1 0 6815 = nI (az g) := by rw [← h.2.2.s (k := 8) (i := 0) (x := 4) (a := 6815) (by unfold Sc; omega) rfl]; exact h.2.2.a.1
  have := h.2.2.a.2
  unfold m_X6_dueNow
  rw [e]
  exact dn_no _ _ (by omega) (by omega) (fun i hi z => hn i hi ((h.due hi).mpr z))
theorem p_due1 {δ : Nat} {g f : Mem} (h : RR g0 f0 Bk Bt D δ g f) {F i0 : Nat} (hF : 100 ≤ F) (h0 : i0 < az g) (hd : g 10 0 i0 = g 2 0 3) (hn : ∀ i : Nat, i < i0 → ¬ g 10 0 i = g 2 0 3) : m_X6_dueNow F f = some (nI i0, f) := by
  have e : f 1 0 6815 = nI (az g) := by rw [← h.2.2.s (k := 8) (i := 0) (x := 4) (a := 6815) (by unfold Sc; omega) rfl]; exact h.2.2.a.1
  have := h.2.2.a.2
  unfold m_X6_dueNow
  rw [e]
  exact dn_at ((h.due h0).mp hd) (fun i hi z => hn i hi ((h.due (by omega)).mpr z)) _ _ _ (by omega) (by omega) h0
theorem s_tk1 {F all : Nat} (hB : Bt < 1000000) (hBk : Bk < 1000000) (hF : 400 ≤ F) (hall : all ≤ 64) : ∀ (r at_ : Nat) (g f : Mem), r ≤ all → RR g0 f0 Bk Bt D 0 g f → at_ + r ≤ az g → (∀ i : Nat, i < at_ → ¬ g 10 0 i = g 2 0 3) → (∀ i : Nat, at_ + r ≤ i → i < az g → ¬ g 10 0 i = g 2 0 3) → ∃ (b : Int32) (g' f' : Mem), RR g0 f0 Bk Bt D 1 g' f' ∧ g' 2 0 3 = g 2 0 3 ∧ g' 2 0 8 = g 2 0 8 + b ∧ (∀ k : Nat, r < k → lp_X4_passTick_22 F k g (nI all) (nI at_) (nI (all - r)) = some (0, g')) ∧ ∃ d : Int32, m_X6_dueNow F f = some (d, f) ∧ ∀ (k : Nat) (x1 : Int32), r < k → lp_X6_goOn_19 F k f x1 d = some (x1 + b, f')
  | 0, at_, g, f, _, h, hat, hlo, hhi => by
    have hn : ∀ i : Nat, i < az g → ¬ g 10 0 i = g 2 0 3 := fun i hi => by
      by_cases e : i < at_
      · exact hlo i e
      · exact hhi i (by omega) hi
    refine ⟨0, g, f, h.none hB hn, rfl, (Int32.add_zero _).symm, fun k hk => ?_, -6, p_due0 h (by omega) hn, fun k x1 hk => ?_⟩
    · obtain ⟨k', rfl⟩ : ∃ k', k = k' + 1 := ⟨k - 1, by omega⟩
      rw [lp_X4_passTick_22]
      unfold st_X4_passTick_22
      rw [Nat.sub_zero, if_pos (Int32.le_refl _)]
    · obtain ⟨k', rfl⟩ : ∃ k', k = k' + 1 := ⟨k - 1, by omega⟩
      rw [lp_X6_goOn_19]
      unfold st_X6_goOn_19
      rw [if_pos (by decide), Int32.add_zero]
  | r + 1, at_, g, f, hr, h, hat, hlo, hhi => by
    obtain ⟨ea, ha⟩ := h.2.2.a
    obtain ⟨et, ht⟩ := h.2.2.t hB
    have c1 : ¬ nI all ≤ nI (all - (r + 1)) := fun z => by have := (nI_leI (by omega) (by omega)).mp z; omega
    have c2 : ¬ g 8 0 4 ≤ nI at_ := fun z => by rw [ea] at z; have := (nI_leI (by omega) (by omega)).mp z; omega
    have c3 : ¬ (nI at_ < 0 ∨ 64 ≤ (nI at_).toNatClampNeg) := ckI (by omega) (by omega)
    have n3 : (nI at_).toNatClampNeg = at_ := nI_clamp (by omega)
    have s1 : nI (all - (r + 1)) + (1 : Int32) = nI (all - r) := by rw [L1, nI_add]; congr 1; omega
    have s2 : nI at_ + (1 : Int32) = nI (at_ + 1) := nI_add _ 1
    have pt : ∀ k : Nat, lp_X4_passTick_22 F (k + 1) g (nI all) (nI at_) (nI (all - (r + 1))) = if g 10 0 at_ = g 2 0 3 then (m_X4_speakFromAir F g (nI at_)).bind (fun (r8, g9) => lp_X4_passTick_22 F k g9 (nI all) (nI at_) (nI (all - r))) else lp_X4_passTick_22 F k g (nI all) (nI (at_ + 1)) (nI (all - r)) := by
      intro k
      rw [lp_X4_passTick_22]
      unfold st_X4_passTick_22
      rw [if_neg c1, if_neg c2, if_neg c3, n3, s1, s2]
    by_cases hd : g 10 0 at_ = g 2 0 3
    · obtain ⟨b, g1, f1, hb, q1, q2, q3, q4, q5, q6, q7, q8⟩ := s_sfa h (at_ := at_) (F := F) (by omega) hd (by omega) hB hBk hF
      have tk1 : tk g1 = tk g := by unfold tk; rw [q4]
      obtain ⟨b2, g2, f2, w1, w2, w3, w4, d, w5, w6⟩ := s_tk1 hB hBk hF hall r at_ g1 f1 (by omega) q3 (by omega) (fun i hi => by
        rw [q7 i (by omega), sh_out (by omega), q4]
        exact hlo i hi) (fun i y1 y2 => by
        rw [q4]
        by_cases e : i < az g - 1
        · rw [q7 i e, sh_in (by omega) e]
          exact hhi (i + 1) (by omega) (by omega)
        · obtain ⟨t, z1, z2, z3⟩ := q8 i (by omega) y2
          rw [z1, et]
          intro z
          have := nIi (by omega) (by omega) z
          omega)
      refine ⟨b + b2, g2, f2, w1, w2.trans q4, by rw [w3, q5, Int32.add_assoc], fun k hk => ?_, nI at_, p_due1 h (by omega) (by omega) hd hlo, fun k x1 hk => ?_⟩
      · obtain ⟨k', rfl⟩ : ∃ k', k = k' + 1 := ⟨k - 1, by omega⟩
        rw [pt, if_pos hd, q1, Option.bind_some]
        exact w4 k' (by omega)
      · obtain ⟨k', rfl⟩ : ∃ k', k = k' + 1 := ⟨k - 1, by omega⟩
        rw [lp_X6_goOn_19]
        unfold st_X6_goOn_19
        rw [if_neg (nI_pos (by omega)), q2, Option.bind_some]
        rcases hb with rfl | rfl
        · simp only [if_true, w5, Option.bind_some]
          rw [w6 k' _ (by omega), Int32.add_assoc]
        · have z10 : ¬ ((1 : Int32) = 0) := by decide
          simp only [if_neg z10, w5, Option.bind_some]
          rw [w6 k' _ (by omega), Int32.add_assoc]
    · obtain ⟨b2, g2, f2, w1, w2, w3, w4, d, w5, w6⟩ := s_tk1 hB hBk hF hall r (at_ + 1) g f (by omega) h (by omega) (fun i hi => by
        by_cases e : i = at_
        · subst e
          exact hd
        · exact hlo i (by omega)) (fun i y1 y2 => hhi i (by omega) y2)
      refine ⟨b2, g2, f2, w1, w2, w3, fun k hk => ?_, d, w5, fun k x1 hk => w6 k x1 (by omega)⟩
      obtain ⟨k', rfl⟩ : ∃ k', k = k' + 1 := ⟨k - 1, by omega⟩
      rw [pt, if_neg hd]
      exact w4 k' (by omega)
/-- a tick -/
theorem s_tick {g f : Mem} (h : RR g0 f0 Bk Bt D 1 g f) {F : Nat} (hB : Bt < 900000) (hBk : Bk < 1000000) (hF : 400 ≤ F) : ∃ (b : Int32) (g' f' : Mem), RR g0 f0 Bk (Bt + 1) D 1 g' f' ∧ tk g' = tk g + 1 ∧ g' 2 0 8 = g 2 0 8 + b ∧ m_X4_passTick F g = some (0, g') ∧ m_X6_goOn F f = some (b, f') := by
  obtain ⟨h1, t1⟩ := h.tick (by omega)
  have e8 : upr g 2 0 (upd (g 2 0) 3 (g 2 0 3 + 1)) 2 0 8 = g 2 0 8 := by rw [upr_eq, upd_n (by omega)]
  unfold m_X4_passTick m_X6_goOn
  simp only [ltm]
  generalize upr g 2 0 (upd (g 2 0) 3 (g 2 0 3 + 1)) = g1 at h1 t1 e8 ⊢
  generalize upr f 1 0 (upd (f 1 0) 6810 (f 1 0 6810 + 1)) = f1 at h1 ⊢
  obtain ⟨ea, ha⟩ := h1.2.2.a
  obtain ⟨b, g2, f2, w1, w2, w3, w4, d, w5, w6⟩ := s_tk1 (F := F) (all := az g1) (by omega) hBk hF ha (az g1) 0 g1 f1 (Nat.le_refl _) h1 (by omega) (fun i hi => by omega) (fun i y1 y2 => by omega)
  have w4' := w4 F (by omega)
  rw [Nat.sub_self, ← ea, show nI 0 = (0 : Int32) from rfl] at w4'
  refine ⟨b, g2, f2, w1, ?_, by rw [w3, e8], w4', ?_⟩
  · rw [← t1]
    unfold tk
    rw [w2]
  · rw [w5, Option.bind_some]
    dsimp only
    rw [w6 F 0 (by omega), Int32.zero_add]
end TICK2
