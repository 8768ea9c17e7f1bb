section HEAR
/-- what hearing does to THE AIR: what is there stays, what comes is due later -/
def AX (g g' : Mem) : Prop := g' 2 0 3 = g 2 0 3 ∧ g' 2 0 8 = g 2 0 8 ∧ az g ≤ az g' ∧ (∀ i : Nat, i < az g → g' 10 0 i = g 10 0 i) ∧ (∀ i : Nat, az g ≤ i → i < az g' → ∃ t : Nat, g' 10 0 i = nI t ∧ tk g + 1 ≤ t ∧ t ≤ tk g + 9) ∧ (∀ i : Nat, g' 13 i 4 = g 13 i 4)
theorem AX.rf {g : Mem} : AX g g := ⟨rfl, rfl, Nat.le_refl _, fun _ _ => rfl, fun i h1 h2 => by omega, fun _ => rfl⟩
theorem AX.tr {g g' g'' : Mem} (h : AX g g') (h' : AX g' g'') : AX g g'' := by
  obtain ⟨a1, a2, a3, a4, a5, a6⟩ := h
  obtain ⟨b1, b2, b3, b4, b5, b6⟩ := h'
  have ht : tk g' = tk g := by unfold tk; rw [a1]
  refine ⟨b1.trans a1, b2.trans a2, Nat.le_trans a3 b3, fun i hi => (b4 i (by omega)).trans (a4 i hi), fun i h1 h2 => ?_, fun i => (b6 i).trans (a6 i)⟩
  rcases Nat.lt_or_ge i (az g') with z | z
  · rw [b4 i z]
    exact a5 i h1 z
  · obtain ⟨t, e, ht2, ht3⟩ := b5 i z h2
    exact ⟨t, e, by omega, by omega⟩
theorem AX.of {g g' : Mem} (h2 : g' 2 = g 2) (h8 : g' 8 = g 8) (h10 : g' 10 = g 10) (h13 : ∀ i : Nat, g' 13 i 4 = g 13 i 4) : AX g g' := by
  have ha : az g' = az g := by unfold az; rw [h8]
  exact ⟨by rw [h2], by rw [h2], by omega, fun i _ => by rw [h10], fun i z1 z2 => by omega, h13⟩
variable {g0 f0 g f : Mem} {Bk Bt D δ : Nat}
theorem RC.sl {σ : Nat → Int32} (h : RC Bk Bt D δ g σ) {l : Nat} (hl : l < 10) : g 13 l 6 = 0 ∨ g 13 l 6 = 1 := (h.2.1 13 l 6 (by unfold Sc; omega)).2.1 rfl rfl
/-- one LAMP that may SLEEP and have this FRIEND -/
theorem s_kfs1 (h : RR g0 f0 Bk Bt D δ g f) {l q x F : Nat} {c : Int32} (hl : l < 10) (hq : q < 2000) (hx : x < 10) (hF : 20 ≤ F) : ∃ g' f' : Mem, RR g0 f0 Bk Bt D δ g' f' ∧ (∀ k : Nat, k ≠ 18 → k ≠ 19 → g' k = g k) ∧ (∀ K, st_X4_keepForSleepers_2 F K g (nI l) (nI q) (nI x) = K g' (nI l) (nI q) (nI (x + 1))) ∧ (∀ K, st_X6_hear_96 F K f (nI l) (nI (q / 200)) (nI (q % 200 + 1)) c (nI x) = K f' (nI l) (nI (q / 200)) (nI (q % 200 + 1)) c (nI (x + 1))) := by
  have e6 : g 13 x 6 = f 1 0 (60 + x) := h.2.2.s (by unfold Sc; omega) rfl
  have e7 : g 13 x 7 = f 1 0 (70 + x) := h.2.2.s (by unfold Sc; omega) rfl
  have i70 : ((70 : Int32) + nI x) = nI (70 + x) := nI_add 70 x
  have c70 : ¬ (nI (70 + x) < 0 ∨ 6819 ≤ (nI (70 + x)).toNatClampNeg) := ckI (by omega) (by omega)
  have n70 : (nI (70 + x)).toNatClampNeg = 70 + x := nI_clamp (by omega)
  have cx : ¬ (nI x < 0 ∨ 10 ≤ (nI x).toNatClampNeg) := ckI (by omega) (by omega)
  have nx : (nI x).toNatClampNeg = x := nI_clamp (by omega)
  have c10 : ¬ ((10 : Int32) ≤ nI x) := fun z => by have := (nI_leI (a := 10) (by omega) (by omega)).mp z; omega
  have p1 : (nI x + (1 : Int32)) = nI (x + 1) := nI_1 x
  obtain ⟨b, hb, m1, m2⟩ := s_meant h hx hq
  unfold st_X4_keepForSleepers_2 st_X6_hear_96
  simp only [if_neg c10, if_neg cx, E_sleeps hx, Option.bind_some, i70, if_neg c70, p1]
  simp only [nx, n70]
  rcases h.2.2.sl hx with z | z
  · have z2 : ¬ (f 1 0 (60 + x) = 1) := by rw [← e6, z]; decide
    simp only [if_pos z, if_neg z2, if_true]
    exact ⟨g, f, h, fun _ _ _ => rfl, fun _ => rfl, fun _ => rfl⟩
  · have z2 : f 1 0 (60 + x) = 1 := by rw [← e6, z]
    have z3 : ¬ (g 13 x 6 = 0) := by rw [z]; decide
    have z4 : ¬ ((1 : Int32) = 0) := by decide
    simp only [if_pos z2, if_neg z3, if_neg z4, e7]
    by_cases y : f 1 0 (70 + x) = nI l
    · simp only [if_pos y, m1, m2, Option.bind_some]
      rcases hb with rfl | rfl
      · simp only [if_true]
        exact ⟨g, f, h, fun _ _ _ => rfl, fun _ => rfl, fun _ => rfl⟩
      · simp only [if_neg z4, p_src hq, Option.bind_some]
        by_cases y2 : nI (q / 200) = nI x
        · simp only [if_pos y2, if_pos y2.symm]
          exact ⟨g, f, h, fun _ _ _ => rfl, fun _ => rfl, fun _ => rfl⟩
        · obtain ⟨g', f', k1, k2, k3, k4⟩ := s_keep h hx hq hF
          simp only [if_neg y2, if_neg (fun w => y2 (Eq.symm w)), k1, k2, Option.bind_some]
          exact ⟨g', f', k3, k4, fun _ => rfl, fun _ => rfl⟩
    · simp only [if_neg y]
      exact ⟨g, f, h, fun _ _ _ => rfl, fun _ => rfl, fun _ => rfl⟩
theorem s_kfs {l q F : Nat} {c : Int32} (hl : l < 10) (hq : q < 2000) (hF : 20 ≤ F) : ∀ (n x : Nat) (g f : Mem), x + n = 10 → RR g0 f0 Bk Bt D δ g f → ∃ g' f' : Mem, RR g0 f0 Bk Bt D δ g' f' ∧ (∀ k : Nat, k ≠ 18 → k ≠ 19 → g' k = g k) ∧ (∀ k : Nat, n < k → lp_X4_keepForSleepers_2 F k g (nI l) (nI q) (nI x) = some (0, g')) ∧ (∀ m : Nat, lp_X6_hear_96 F (m + n) f (nI l) (nI (q / 200)) (nI (q % 200 + 1)) c (nI x) = lp_X6_hear_96 F m f' (nI l) (nI (q / 200)) (nI (q % 200 + 1)) c (nI 10)) := by
  intro n
  induction n with
  | zero =>
    intro x g f hx h
    obtain rfl : x = 10 := by omega
    refine ⟨g, f, h, fun _ _ _ => rfl, fun k hk => ?_, fun m => rfl⟩
    obtain ⟨k, rfl⟩ : ∃ z, k = z + 1 := ⟨k - 1, by omega⟩
    show st_X4_keepForSleepers_2 F (lp_X4_keepForSleepers_2 F k) g (nI l) (nI q) (nI 10) = _
    unfold st_X4_keepForSleepers_2
    rw [if_pos (by decide)]
  | succ n ih =>
    intro x g f hx h
    obtain ⟨g1, f1, k1, k2, k3, k4⟩ := s_kfs1 (c := c) h hl hq (show x < 10 by omega) hF
    obtain ⟨g2, f2, j1, j2, j3, j4⟩ := ih (x + 1) g1 f1 (by omega) k1
    refine ⟨g2, f2, j1, fun k z1 z2 => (j2 k z1 z2).trans (k2 k z1 z2), fun k hk => ?_, fun m => ?_⟩
    · obtain ⟨k, rfl⟩ : ∃ z, k = z + 1 := ⟨k - 1, by omega⟩
      show st_X4_keepForSleepers_2 F (lp_X4_keepForSleepers_2 F k) g (nI l) (nI q) (nI x) = _
      rw [k3]
      exact j3 k (by omega)
    · show st_X6_hear_96 F (lp_X6_hear_96 F (m + n)) f (nI l) (nI (q / 200)) (nI (q % 200 + 1)) c (nI x) = _
      rw [k4]
      exact j4 m
/-- passing a letter on -/
theorem s_pass (h : RR g0 f0 Bk Bt D δ g f) {l q c F : Nat} (hl : l < 10) (hq : q < 2000) (hc1 : 1 ≤ c) (hc : c ≤ 7) (hδ : δ ≤ 1) (hB : Bt < 1000000) (hD : tk g + 9 * c ≤ D) : ∃ g' f' : Mem, (if nI c ≤ (1 : Int32) then some ((0 : Int32), g) else (if g 14 l 1 = (1 : Int32) then (m_X4_passOn g (nI l) (nI q) (nI c - (1 : Int32))).bind (fun (r35, g36) => some ((0 : Int32), g36)) else some ((0 : Int32), g))) = some ((0 : Int32), g') ∧ (∀ m : Nat, lp_X6_hear_96 F (m + 1) f (nI l) (nI (q / 200)) (nI (q % 200 + 1)) (nI c) (nI 10) = some (0, f')) ∧ RR g0 f0 Bk Bt D δ g' f' ∧ AX g g' := by
  have e1 : g 14 l 1 = f 1 0 (20 + l) := h.2.2.s (by unfold Sc; omega) rfl
  have e0 : g 14 l 0 = f 1 0 (10 + l) := h.2.2.s (by unfold Sc; omega) rfl
  have e3 : g 2 0 3 = f 1 0 6810 := h.2.2.s (by unfold Sc; omega) rfl
  have e8 : g 8 0 4 = f 1 0 6815 := h.2.2.s (by unfold Sc; omega) rfl
  have e9 : g 2 0 9 = f 1 0 6817 := h.2.2.s (by unfold Sc; omega) rfl
  obtain ⟨ea, ha⟩ := h.2.2.a
  obtain ⟨et, ht⟩ := h.2.2.t hB
  obtain ⟨w, hw1, hw2, ew⟩ := (h.2.2.2.1 14 l 0 (by unfold Sc; omega)).2.2.2.2.1 rfl rfl
  have i20 : ((20 : Int32) + nI l) = nI (20 + l) := nI_add 20 l
  have c20 : ¬ (nI (20 + l) < 0 ∨ 6819 ≤ (nI (20 + l)).toNatClampNeg) := ckI (by omega) (by omega)
  have n20 : (nI (20 + l)).toNatClampNeg = 20 + l := nI_clamp (by omega)
  have i10 : ((10 : Int32) + nI l) = nI (10 + l) := nI_add 10 l
  have c10 : ¬ (nI (10 + l) < 0 ∨ 6819 ≤ (nI (10 + l)).toNatClampNeg) := ckI (by omega) (by omega)
  have n10 : (nI (10 + l)).toNatClampNeg = 10 + l := nI_clamp (by omega)
  have cl : ¬ (nI l < 0 ∨ 10 ≤ (nI l).toNatClampNeg) := ckI (by omega) (by omega)
  have nl : (nI l).toNatClampNeg = l := nI_clamp (by omega)
  have s1 : (nI c - (1 : Int32)) = nI (c - 1) := sbI (b := 1) (by omega)
  have t10 : (10 : Int32) ≤ nI 10 := by decide
  have key : ∀ m : Nat, lp_X6_hear_96 F (m + 1) f (nI l) (nI (q / 200)) (nI (q % 200 + 1)) (nI c) (nI 10) = (if nI c ≤ (1 : Int32) then some ((0 : Int32), f) else (if f 1 0 (20 + l) = (1 : Int32) then (if f 1 0 6815 = (64 : Int32) then some ((0 : Int32), upr f 1 0 (upd (f 1 0) 6817 (f 1 0 6817 + 1))) else (m_X6_addToAir f (nI l) (f 1 0 6810 + f 1 0 (10 + l)) (nI (q / 200)) (nI (q % 200 + 1)) (nI (c - 1))).bind (fun (r34, g35) => some ((0 : Int32), g35))) else some ((0 : Int32), f))) := by
    intro m
    show st_X6_hear_96 F (lp_X6_hear_96 F m) f (nI l) (nI (q / 200)) (nI (q % 200 + 1)) (nI c) (nI 10) = _
    unfold st_X6_hear_96
    simp only [if_pos t10, i20, i10, if_neg c20, if_neg c10, s1, ltm]
    simp only [n20, n10]
  simp only [key]
  by_cases y1 : nI c ≤ (1 : Int32)
  · rw [if_pos y1, if_pos y1]
    exact ⟨g, f, rfl, fun _ => rfl, h, AX.rf⟩
  · rw [if_neg y1, if_neg y1, ← e1]
    have hc2 : 2 ≤ c := by
      rcases Nat.lt_or_ge c 2 with z | z
      · exact absurd ((nI_leI (b := 1) (by omega) (by omega)).mpr (by omega)) y1
      · exact z
    by_cases y2 : g 14 l 1 = (1 : Int32)
    · rw [if_pos y2, if_pos y2, s1]
      unfold m_X4_passOn m_X0_isFull
      rcases Nat.lt_or_ge (az g) 64 with z | z
      · have z1 : g 8 0 4 < 64 := by rw [ea]; exact (nI_ltI (b := 64) (by omega) (by omega)).mpr z
        have z2 : ¬ f 1 0 6815 = 64 := by
          rw [← e8, ea]
          intro w
          have := nIi (b := 64) (by omega) (by omega) w
          omega
        rw [if_pos z1, Option.bind_some, if_neg z2, ← e3, ← e0, et, ew, nI_add]
        dsimp only
        rw [if_pos rfl, if_neg cl, nl, et, ew, nI_add]
        obtain ⟨g', f', k1, k2, k3, k4, k5, k6⟩ := s_aadd h (x := l) (t := tk g + w) (q := q) (c := c - 1) z (by omega) hq (by omega) (by omega) (by omega) (by omega) (by omega)
        rw [k1, k2]
        refine ⟨g', f', rfl, fun _ => rfl, k3, ?_⟩
        have k52 := k5 2 (by omega)
        refine ⟨by rw [k52], by rw [k52], by omega, fun i hi => ?_, fun i h1 h2 => ?_, fun i => by rw [k5 13 (by omega)]⟩
        · rw [k6, upd_n (by omega)]
        · obtain rfl : i = az g := by omega
          rw [k6, upd_s]
          exact ⟨tk g + w, rfl, by omega, by omega⟩
      · have z1 : ¬ g 8 0 4 < 64 := by
          rw [ea]
          intro w
          have := (nI_ltI (b := 64) (by omega) (by omega)).mp w
          omega
        have z2 : f 1 0 6815 = 64 := by
          rw [← e8, ea, show az g = 64 by omega]
          rfl
        rw [if_neg z1, Option.bind_some, if_pos z2]
        dsimp only
        rw [if_neg (by decide)]
        simp only [ltm]
        have h1 := h.set (k := 2) (i := 0) (x := 9) (a := 6817) (v := g 2 0 9 + 1) (by unfold Sc; omega) (by unfold plain; omega) (okf (by omega)) rfl
        rw [← e9]
        refine ⟨upr g 2 0 (upd (g 2 0) 9 (g 2 0 9 + 1)), _, rfl, fun _ => rfl, h1, ?_⟩
        have k8 : upr g 2 0 (upd (g 2 0) 9 (g 2 0 9 + 1)) 8 = g 8 := upr_k (by omega)
        have k10 : upr g 2 0 (upd (g 2 0) 9 (g 2 0 9 + 1)) 10 = g 10 := upr_k (by omega)
        have ha2 : az (upr g 2 0 (upd (g 2 0) 9 (g 2 0 9 + 1))) = az g := by unfold az; rw [k8]
        exact ⟨by rw [upr_eq, upd_n (by omega)], by rw [upr_eq, upd_n (by omega)], by omega, fun i _ => by rw [k10], fun i h1 h2 => by omega, fun i => by rw [upr_k (by omega)]⟩
    · rw [if_neg y2, if_neg y2]
      exact ⟨g, f, rfl, fun _ => rfl, h, AX.rf⟩
/-- what comes behind taking: KEPT for sleepers, passed on -/
theorem s_tail (h : RR g0 f0 Bk Bt D δ g f) {l q c F : Nat} (hl : l < 10) (hq : q < 2000) (hc1 : 1 ≤ c) (hc : c ≤ 7) (hδ : δ ≤ 1) (hB : Bt < 1000000) (hD : tk g + 9 * c ≤ D) (hF : 20 ≤ F) : ∃ g' f' : Mem, (m_X4_keepForSleepers F g (nI l) (nI q)).bind (fun (r28, g29) => (if nI c ≤ (1 : Int32) then some ((0 : Int32), g29) else (if g29 14 l 1 = (1 : Int32) then (m_X4_passOn g29 (nI l) (nI q) (nI c - (1 : Int32))).bind (fun (r35, g36) => some ((0 : Int32), g36)) else some ((0 : Int32), g29)))) = some (0, g') ∧ lp_X6_hear_96 F F f (nI l) (nI (q / 200)) (nI (q % 200 + 1)) (nI c) 0 = some (0, f') ∧ RR g0 f0 Bk Bt D δ g' f' ∧ AX g g' := by
  obtain ⟨g1, f1, k1, k2, k3, k4⟩ := s_kfs (g0 := g0) (f0 := f0) (Bk := Bk) (Bt := Bt) (D := D) (δ := δ) (c := nI c) hl hq hF 10 0 g f (by omega) h
  have ax : AX g g1 := AX.of (k2 2 (by omega) (by omega)) (k2 8 (by omega) (by omega)) (k2 10 (by omega) (by omega)) (fun i => by rw [k2 13 (by omega) (by omega)])
  have htk : tk g1 = tk g := by unfold tk; rw [ax.1]
  obtain ⟨g2, f2, j1, j2, j3, j4⟩ := s_pass k1 (F := F) hl hq hc1 hc hδ hB (by omega)
  refine ⟨g2, f2, ?_, ?_, j3, ax.tr j4⟩
  · unfold m_X4_keepForSleepers
    rw [show (0 : Int32) = nI 0 from rfl, k3 F (by omega), Option.bind_some]
    exact j1
  · obtain ⟨m, rfl⟩ : ∃ m, F = m + 1 + 10 := ⟨F - 11, by omega⟩
    exact (k4 (m + 1)).trans (j2 m)
/-- HEARING -/
theorem s_hear (h : RR g0 f0 Bk Bt D δ g f) {l q c F : Nat} (hl : l < 10) (hq : q < 2000) (hc1 : 1 ≤ c) (hc : c ≤ 7) (hδ : δ ≤ 1) (hB : Bt < 1000000) (hBk : Bk < 1000000) (hD : tk g + 9 * c ≤ D) (hF : 20 ≤ F) : ∃ g' f' : Mem, m_X4_hear F g (nI l) (nI q) (nI c) = some (0, g') ∧ m_X6_hear F f (nI l) (nI (q / 200)) (nI (q % 200 + 1)) (nI c) = some (0, f') ∧ RR g0 f0 Bk Bt D δ g' f' ∧ AX g g' := by
  have i110 : ((110 : Int32) + nI l) = nI (10 * 11 + l) := nI_add 110 l
  have i120 : ((120 : Int32) + nI l) = nI (10 * 12 + l) := nI_add 120 l
  have i130 : ((130 : Int32) + nI l) = nI (10 * 13 + l) := nI_add 130 l
  have c110 : ¬ (nI (10 * 11 + l) < 0 ∨ 6819 ≤ (nI (10 * 11 + l)).toNatClampNeg) := ckI (by omega) (by omega)
  have c120 : ¬ (nI (10 * 12 + l) < 0 ∨ 6819 ≤ (nI (10 * 12 + l)).toNatClampNeg) := ckI (by omega) (by omega)
  have c130 : ¬ (nI (10 * 13 + l) < 0 ∨ 6819 ≤ (nI (10 * 13 + l)).toNatClampNeg) := ckI (by omega) (by omega)
  have n110 : (nI (10 * 11 + l)).toNatClampNeg = 10 * 11 + l := nI_clamp (by omega)
  have n120 : (nI (10 * 12 + l)).toNatClampNeg = 10 * 12 + l := nI_clamp (by omega)
  have n130 : (nI (10 * 13 + l)).toNatClampNeg = 10 * 13 + l := nI_clamp (by omega)
  have cl : ¬ (nI l < 0 ∨ 10 ≤ (nI l).toNatClampNeg) := ckI (by omega) (by omega)
  have nl : (nI l).toNatClampNeg = l := nI_clamp (by omega)
  have z10 : ¬ ((1 : Int32) = 0) := by decide
  have ax13 : ∀ (g : Mem) (x : Nat) (v : Int32), 4 ≠ x → AX g (upr g 13 l (upd (g 13 l) x v)) := fun g x v h => AX.of (upr_k (by omega)) (upr_k (by omega)) (upr_k (by omega)) (fun i => upr_f h)
  unfold m_X4_hear m_X6_hear
  simp only [if_neg cl, i110, i120, i130, if_neg c110, if_neg c120, if_neg c130, ltm]
  simp only [nl, n110, n120, n130]
  obtain ⟨b, hb, k1, k2⟩ := s_knows h hBk hl hq
  simp only [k1, k2, Option.bind_some]
  rcases hb with rfl | rfl
  · simp only [if_true]
    exact ⟨_, _, rfl, rfl, s_inc h hl (by omega) (by omega), ax13 _ _ _ (by omega)⟩
  · simp only [if_neg z10]
    obtain ⟨b, hb, k1, k2⟩ := s_holds h hl hq hF
    simp only [k1, k2, Option.bind_some]
    rcases hb with rfl | rfl
    · simp only [if_true]
      have h1 := s_inc h hl (x := 13) (by omega) (by omega)
      have a1 := ax13 g 13 (g 13 l 13 + 1) (by omega)
      generalize upr g 13 l (upd (g 13 l) 13 (g 13 l 13 + 1)) = g1 at h1 a1 ⊢
      generalize upr f 1 0 (upd (f 1 0) (10 * 13 + l) (f 1 0 (10 * 13 + l) + 1)) = f1 at h1 ⊢
      obtain ⟨g2, f2, k1, k2, h2, k3⟩ := s_add h1 hl hq hF
      have a2 : AX g1 g2 := AX.of (k3 2 (by omega) (by omega)) (k3 8 (by omega) (by omega)) (k3 10 (by omega) (by omega)) (fun i => by rw [k3 13 (by omega) (by omega)])
      have ht2 : tk g2 = tk g := by unfold tk; rw [a2.1, a1.1]
      simp only [k1, k2, Option.bind_some, p_src hq]
      by_cases y : nI (q / 200) = nI l
      · simp only [if_pos y, if_pos y.symm]
        exact ⟨g2, f2, rfl, rfl, h2, a1.tr a2⟩
      · simp only [if_neg y, if_neg (fun w => y (Eq.symm w))]
        obtain ⟨b, hb, k1, k2⟩ := s_meant h2 hl hq
        simp only [k1, k2, Option.bind_some]
        rcases hb with rfl | rfl
        · simp only [if_true]
          obtain ⟨g3, f3, j1, j2, j3, j4⟩ := s_tail h2 (F := F) hl hq hc1 hc hδ hB (by omega) hF
          exact ⟨g3, f3, j1, j2, j3, (a1.tr a2).tr j4⟩
        · simp only [if_neg z10]
          obtain ⟨b, g3, f3, -, k1, k2, h3, -, k4, k5⟩ := s_take h2 hl hq
          have a3 : AX g2 g3 := AX.of (k4 2 (by omega) (by omega)) (k4 8 (by omega) (by omega)) (k4 10 (by omega) (by omega)) k5
          have ht3 : tk g3 = tk g := by unfold tk; rw [a3.1, a2.1, a1.1]
          simp only [k1, k2, Option.bind_some]
          obtain ⟨g4, f4, j1, j2, j3, j4⟩ := s_tail h3 (F := F) hl hq hc1 hc hδ hB (by omega) hF
          exact ⟨g4, f4, j1, j2, j3, ((a1.tr a2).tr a3).tr j4⟩
    · simp only [if_neg z10]
      exact ⟨_, _, rfl, rfl, s_inc h hl (by omega) (by omega), ax13 _ _ _ (by omega)⟩
end HEAR
