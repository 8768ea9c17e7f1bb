section TICK
variable {g0 f0 g f : Mem} {Bk Bt D δ : Nat}
/-- what is due is spoken (or lost) -/
theorem s_sfa (h : RR g0 f0 Bk Bt D δ g f) {at_ F : Nat} (hat : at_ < az g) (hdue : g 10 0 at_ = g 2 0 3) (hδ : δ ≤ 1) (hB : Bt < 1000000) (hBk : Bk < 1000000) (hF : 400 ≤ F) : ∃ (b : Int32) (g' f' : Mem), (b = 0 ∨ b = 1) ∧ m_X4_speakFromAir F g (nI at_) = some (0, g') ∧ m_X6_speaks F f (nI at_) = some (b, f') ∧ RR g0 f0 Bk Bt D δ g' f' ∧ g' 2 0 3 = g 2 0 3 ∧ g' 2 0 8 = g 2 0 8 + b ∧ az g - 1 ≤ az g' ∧ (∀ i : Nat, i < az g - 1 → g' 10 0 i = sh (g 10 0) at_ (az g - 1) 1 i) ∧ (∀ i : Nat, az g - 1 ≤ i → i < az g' → ∃ t : Nat, g' 10 0 i = nI t ∧ tk g + 1 ≤ t ∧ t ≤ tk g + 9) := by
  obtain ⟨ea, ha⟩ := h.2.2.a
  obtain ⟨et, ht⟩ := h.2.2.t hB
  obtain ⟨⟨E9, -, ⟨q, hq, e11, es, en⟩, E12⟩, ⟨x, hx, e9⟩, t, c, e10, e12, ht1, ht2, hc1, hc, hD⟩ := h.2.2.ae hat
  have htt : t = tk g := by
    rw [e10, et] at hdue
    exact nIi (by omega) (by omega) hdue
  subst htt
  obtain ⟨g1, f1, d1, d2, d3, d4, d5, d6⟩ := s_adrop h (F := F) hat hF
  have i0 : ((490 : Int32) + (5 : Int32) * nI at_) = nI (490 + 5 * at_) := by simp only [L490, L5, pk_mul, nI_add]
  have i2 : (nI (490 + 5 * at_) + (2 : Int32)) = nI (492 + 5 * at_) := by rw [L2, nI_add]; congr 1; omega
  have i3 : (nI (490 + 5 * at_) + (3 : Int32)) = nI (493 + 5 * at_) := by rw [L3, nI_add]; congr 1; omega
  have i4 : (nI (490 + 5 * at_) + (4 : Int32)) = nI (494 + 5 * at_) := by rw [L4, nI_add]; congr 1; omega
  have c0 : ¬ (nI (490 + 5 * at_) < 0 ∨ 6819 ≤ (nI (490 + 5 * at_)).toNatClampNeg) := ckI (by omega) (by omega)
  have c2 : ¬ (nI (492 + 5 * at_) < 0 ∨ 6819 ≤ (nI (492 + 5 * at_)).toNatClampNeg) := ckI (by omega) (by omega)
  have c3 : ¬ (nI (493 + 5 * at_) < 0 ∨ 6819 ≤ (nI (493 + 5 * at_)).toNatClampNeg) := ckI (by omega) (by omega)
  have c4 : ¬ (nI (494 + 5 * at_) < 0 ∨ 6819 ≤ (nI (494 + 5 * at_)).toNatClampNeg) := ckI (by omega) (by omega)
  have n0 : (nI (490 + 5 * at_)).toNatClampNeg = 490 + 5 * at_ := nI_clamp (by omega)
  have n2 : (nI (492 + 5 * at_)).toNatClampNeg = 492 + 5 * at_ := nI_clamp (by omega)
  have n3 : (nI (493 + 5 * at_)).toNatClampNeg = 493 + 5 * at_ := nI_clamp (by omega)
  have n4 : (nI (494 + 5 * at_)).toNatClampNeg = 494 + 5 * at_ := nI_clamp (by omega)
  have r0 : f 1 0 (490 + 5 * at_) = nI x := by rw [← E9, e9]
  have r4 : f 1 0 (494 + 5 * at_) = nI c := by rw [← E12, e12]
  have cat : ¬ (nI at_ < 0 ∨ 64 ≤ (nI at_).toNatClampNeg) := ckI (by omega) (by omega)
  have nat : (nI at_).toNatClampNeg = at_ := nI_clamp (by omega)
  have k2 := d5 2 (by omega)
  have k13 := d5 13 (by omega)
  have tk1 : tk g1 = tk g := by unfold tk; rw [k2]
  have z10 : ¬ ((1 : Int32) = 0) := by decide
  -- from a state behind the counters to the end
  have fin : ∀ (b : Int32) (gm g' f' : Mem), (b = 0 ∨ b = 1) → gm 2 0 3 = g 2 0 3 → gm 2 0 8 = g 2 0 8 + b → gm 8 = g1 8 → gm 10 = g1 10 → AX gm g' → RR g0 f0 Bk Bt D δ g' f' → g' 2 0 3 = g 2 0 3 ∧ g' 2 0 8 = g 2 0 8 + b ∧ az g - 1 ≤ az g' ∧ (∀ i : Nat, i < az g - 1 → g' 10 0 i = sh (g 10 0) at_ (az g - 1) 1 i) ∧ (∀ i : Nat, az g - 1 ≤ i → i < az g' → ∃ t : Nat, g' 10 0 i = nI t ∧ tk g + 1 ≤ t ∧ t ≤ tk g + 9) := by
    intro b gm g' f' _ w1 w2 w3 w4 w5 _
    obtain ⟨v1, v2, v3, v4, v5, -⟩ := w5
    have az1 : az gm = az g - 1 := by
      have : az gm = az g1 := by unfold az; rw [w3]
      omega
    have tkm : tk gm = tk g := by unfold tk; rw [w1]
    refine ⟨v1.trans w1, v2.trans w2, by omega, fun i hi => ?_, fun i y1 y2 => ?_⟩
    · rw [v4 i (by omega), w4, d6]
    · obtain ⟨t, y3, y4, y5⟩ := v5 i (by omega) y2
      exact ⟨t, y3, by omega, by omega⟩
  unfold m_X4_speakFromAir m_X6_speaks
  simp only [i0, i2, i3, i4, if_neg c0, if_neg c2, if_neg c3, if_neg c4, if_neg cat, d1, d2, Option.bind_some, ltm]
  simp only [n0, n2, n3, n4, nat, r0, r4, es, en, e9, e11, e12]
  rcases Nat.lt_or_ge x 10 with hx10 | hx10
  · -- a lamp
    have x1 : nI x < (10 : Int32) := (nI_ltI (b := 10) (by omega) (by omega)).mpr hx10
    have x2 : ¬ ((10 : Int32) ≤ nI x) := fun z => by have := (nI_leI (a := 10) (by omega) (by omega)).mp z; omega
    have cx : ¬ (nI x < 0 ∨ 10 ≤ (nI x).toNatClampNeg) := ckI (by omega) (by omega)
    have nx : (nI x).toNatClampNeg = x := nI_clamp (by omega)
    have i140 : ((140 : Int32) + nI x) = nI (10 * 14 + x) := nI_add 140 x
    have c140 : ¬ (nI (10 * 14 + x) < 0 ∨ 6819 ≤ (nI (10 * 14 + x)).toNatClampNeg) := ckI (by omega) (by omega)
    have n140 : (nI (10 * 14 + x)).toNatClampNeg = 10 * 14 + x := nI_clamp (by omega)
    have e6 : g1 13 x 6 = f1 1 0 (60 + x) := d3.2.2.s (by unfold Sc; omega) rfl
    unfold m_X4_speak
    simp only [if_pos x1, if_neg x2, if_neg cx, E_sleeps hx10, Option.bind_some, i140, if_neg c140, ltm]
    simp only [nx, n140]
    rcases d3.2.2.sl hx10 with z | z
    · have z2 : ¬ (f1 1 0 (60 + x) = 1) := by rw [← e6, z]; decide
      simp only [if_pos z, if_neg z2, if_true]
      have e8 : g1 2 0 8 = f1 1 0 6816 := d3.2.2.s (by unfold Sc; omega) rfl
      have h1 := d3.set (k := 2) (i := 0) (x := 8) (a := 6816) (v := g1 2 0 8 + 1) (by unfold Sc; omega) (by unfold plain; omega) (okf (by omega)) rfl
      rw [← e8]
      have q2 : upr g1 2 0 (upd (g1 2 0) 8 (g1 2 0 8 + 1)) 2 0 3 = g 2 0 3 := by rw [upr_eq, upd_n (by omega), k2]
      have q8 : upr g1 2 0 (upd (g1 2 0) 8 (g1 2 0 8 + 1)) 2 0 8 = g 2 0 8 + 1 := by rw [upr_eq, upd_s, k2]
      have q13 : upr g1 2 0 (upd (g1 2 0) 8 (g1 2 0 8 + 1)) 13 = g 13 := by rw [upr_k (by omega), k13]
      have qa8 : upr g1 2 0 (upd (g1 2 0) 8 (g1 2 0 8 + 1)) 8 = g1 8 := upr_k (by omega)
      have qa10 : upr g1 2 0 (upd (g1 2 0) 8 (g1 2 0 8 + 1)) 10 = g1 10 := upr_k (by omega)
      generalize upr g1 2 0 (upd (g1 2 0) 8 (g1 2 0 8 + 1)) = g2 at h1 q2 q8 q13 qa8 qa10 ⊢
      generalize upr f1 1 0 (upd (f1 1 0) 6816 (g1 2 0 8 + 1)) = f2 at h1 ⊢
      have h2 := s_inc h1 hx10 (x := 14) (by omega) (by omega)
      have w2 : upr g2 13 x (upd (g2 13 x) 14 (g2 13 x 14 + 1)) 2 = g2 2 := upr_k (by omega)
      have w8 : upr g2 13 x (upd (g2 13 x) 14 (g2 13 x 14 + 1)) 8 = g2 8 := upr_k (by omega)
      have w10 : upr g2 13 x (upd (g2 13 x) 14 (g2 13 x 14 + 1)) 10 = g2 10 := upr_k (by omega)
      have w4 : upr g2 13 x (upd (g2 13 x) 14 (g2 13 x 14 + 1)) 13 x 4 = g 13 x 4 := by rw [upr_eq, upd_n (by omega), q13]
      generalize upr g2 13 x (upd (g2 13 x) 14 (g2 13 x 14 + 1)) = g3 at h2 w2 w8 w10 w4 ⊢
      generalize upr f2 1 0 (upd (f2 1 0) (10 * 14 + x) (f2 1 0 (10 * 14 + x) + 1)) = f3 at h2 ⊢
      simp only [p_chg, Option.bind_some, w4]
      have hself := h.2.2.2.2.2.2.2.2.2.2 x hx10
      have tk3 : tk g3 = tk g := by unfold tk; rw [w2, q2]
      obtain ⟨g4, f4, j1, j2, j3, j4⟩ := s_spk (g0 := g0) (f0 := f0) (Bk := Bk) (Bt := Bt) (D := D) (δ := δ) (Hs := chg (g 13 x 4) (nI x) 0) (own := 1) (Lk := g 13 x 4) (F := F) hx10 hq hc1 hc hδ hB hBk (by omega) (fun y hy => by
        rw [isI_off _ hx10 hy]
        by_cases e : y = x
        · subst e
          rw [if_pos rfl, hself]
          simp
        · rw [if_neg e]
          simp [z10]) 10 0 g3 f3 (by omega) h2 (by omega) w4
      have j3' := j3 F (by omega)
      have j4' := j4 F (by omega)
      rw [show nI 0 = (0 : Int32) from rfl] at j3' j4'
      rw [j3', j4']
      refine ⟨1, g4, f4, Or.inr rfl, rfl, rfl, j1, fin 1 g3 g4 f4 (Or.inr rfl) (by rw [w2, q2]) (by rw [w2, q8]) (by rw [w8, qa8]) (by rw [w10, qa10]) j2 j1⟩
    · have z2 : f1 1 0 (60 + x) = 1 := by rw [← e6, z]
      have z3 : ¬ (g1 13 x 6 = 0) := by rw [z]; decide
      simp only [if_pos z2, if_neg z3, if_neg z10, Option.bind_some]
      have e10' : g1 2 0 10 = f1 1 0 6818 := d3.2.2.s (by unfold Sc; omega) rfl
      have h1 := d3.set (k := 2) (i := 0) (x := 10) (a := 6818) (v := g1 2 0 10 + 1) (by unfold Sc; omega) (by unfold plain; omega) (okf (by omega)) rfl
      rw [← e10']
      refine ⟨0, upr g1 2 0 (upd (g1 2 0) 10 (g1 2 0 10 + 1)), _, Or.inl rfl, rfl, rfl, h1, ?_⟩
      exact fin 0 _ _ _ (Or.inl rfl) (by rw [upr_eq, upd_n (by omega), k2]) (by rw [upr_eq, upd_n (by omega), k2, Int32.add_zero]) (upr_k (by omega)) (upr_k (by omega)) AX.rf h1
  · -- one who listens
    have x1 : ¬ nI x < (10 : Int32) := fun z => by have := (nI_ltI (b := 10) (by omega) (by omega)).mp z; omega
    have x2 : (10 : Int32) ≤ nI x := (nI_leI (a := 10) (by omega) (by omega)).mpr hx10
    have xs : (nI x - (10 : Int32)) = nI (x - 10) := sbI (b := 10) (by omega)
    generalize hp : x - 10 = p at xs
    have hp10 : p < 10 := by omega
    have cx : ¬ (nI p < 0 ∨ 10 ≤ (nI p).toNatClampNeg) := ckI (by omega) (by omega)
    have nx : (nI p).toNatClampNeg = p := nI_clamp (by omega)
    have i140 : ((140 : Int32) + nI p) = nI (140 + p) := nI_add 140 p
    have c140 : ¬ (nI (140 + p) < 0 ∨ 6819 ≤ (nI (140 + p)).toNatClampNeg) := ckI (by omega) (by omega)
    have n140 : (nI (140 + p)).toNatClampNeg = 140 + p := nI_clamp (by omega)
    unfold m_X4_speak
    simp only [if_neg x1, if_pos x2, xs, if_neg cx, Option.bind_some, i140, if_neg c140, ltm]
    simp only [nx, n140, Int32.add_zero, upd_id, upr_id]
    have e8 : g1 2 0 8 = f1 1 0 6816 := d3.2.2.s (by unfold Sc; omega) rfl
    have h1 := d3.set (k := 2) (i := 0) (x := 8) (a := 6816) (v := g1 2 0 8 + 1) (by unfold Sc; omega) (by unfold plain; omega) (okf (by omega)) rfl
    rw [← e8]
    have q2 : upr g1 2 0 (upd (g1 2 0) 8 (g1 2 0 8 + 1)) 2 0 3 = g 2 0 3 := by rw [upr_eq, upd_n (by omega), k2]
    have q8 : upr g1 2 0 (upd (g1 2 0) 8 (g1 2 0 8 + 1)) 2 0 8 = g 2 0 8 + 1 := by rw [upr_eq, upd_s, k2]
    have q13 : upr g1 2 0 (upd (g1 2 0) 8 (g1 2 0 8 + 1)) 13 = g 13 := by rw [upr_k (by omega), k13]
    have qa8 : upr g1 2 0 (upd (g1 2 0) 8 (g1 2 0 8 + 1)) 8 = g1 8 := upr_k (by omega)
    have qa10 : upr g1 2 0 (upd (g1 2 0) 8 (g1 2 0 8 + 1)) 10 = g1 10 := upr_k (by omega)
    generalize upr g1 2 0 (upd (g1 2 0) 8 (g1 2 0 8 + 1)) = g2 at h1 q2 q8 q13 qa8 qa10 ⊢
    generalize upr f1 1 0 (upd (f1 1 0) 6816 (g1 2 0 8 + 1)) = f2 at h1 ⊢
    simp only [p_chg, Option.bind_some, q13]
    have tk3 : tk g2 = tk g := by unfold tk; rw [q2]
    obtain ⟨g4, f4, j1, j2, j3, j4⟩ := s_spk (g0 := g0) (f0 := f0) (Bk := Bk) (Bt := Bt) (D := D) (δ := δ) (Hs := chg (g 13 p 4) (nI p) 1) (own := 0) (Lk := g 13 p 4) (F := F) hp10 hq hc1 hc hδ hB hBk (by omega) (fun y hy => by
      rw [isI_on _ hp10 hy]
      by_cases e : y = p
      · subst e
        simp
      · rw [if_neg e]
        simp [e]) 10 0 g2 f2 (by omega) h1 (by omega) (by rw [q13])
    have j3' := j3 F (by omega)
    have j4' := j4 F (by omega)
    rw [show nI 0 = (0 : Int32) from rfl] at j3' j4'
    rw [j3', j4']
    refine ⟨1, g4, f4, Or.inr rfl, rfl, rfl, j1, fin 1 g2 g4 f4 (Or.inr rfl) q2 q8 qa8 qa10 j2 j1⟩
end TICK
