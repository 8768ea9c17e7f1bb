section AIR
theorem ckC {sp dp n N : Nat} (h1 : sp + n ≤ N) (h2 : dp + n ≤ N) (hN : N < 2 ^ 31) : ¬ (nI sp < 0 ∨ nI dp < 0 ∨ nI n < 0 ∨ N < (nI sp).toNatClampNeg + (nI n).toNatClampNeg ∨ N < (nI dp).toNatClampNeg + (nI n).toNatClampNeg) := by
  rw [nI_clamp (by omega), nI_clamp (by omega), nI_clamp (by omega)]
  rintro (q | q | q | q | q)
  · exact nI_pos (by omega) q
  · exact nI_pos (by omega) q
  · exact nI_pos (by omega) q
  · omega
  · omega
theorem c_aadd {g : Mem} {a : Nat} {x1 x2 x3 x4 : Int32} (ha : a < 64) (ea : g 8 0 4 = nI a) : ∃ g' : Mem, m_X0_add g x1 x2 x3 x4 = some (0, g') ∧ (∀ k i : Nat, ¬ ((8 ≤ k ∧ k ≤ 12) ∧ i = 0) → g' k i = g k i) ∧ g' 8 0 4 = nI (a + 1) ∧ g' 9 0 = upd (g 9 0) a x1 ∧ g' 10 0 = upd (g 10 0) a x2 ∧ g' 11 0 = upd (g 11 0) a x3 ∧ g' 12 0 = upd (g 12 0) a x4 := by
  unfold m_X0_add m_X0_isFull
  have h1 : g 8 0 4 < 64 := by rw [ea]; exact (nI_ltI (b := 64) (by omega) (by omega)).mpr ha
  have c1 : ¬ (nI a < 0 ∨ 64 ≤ (nI a).toNatClampNeg) := ckI (by omega) (by omega)
  have n1 : (nI a).toNatClampNeg = a := nI_clamp (by omega)
  rw [if_pos h1, Option.bind_some]
  dsimp only
  rw [if_pos rfl]
  have k8 : ∀ (g : Mem) (k : Nat) (r : Nat → Int32), k ≠ 8 → upr g k 0 r 8 = g 8 := fun g k r h => upr_k (Ne.symm h)
  simp only [ltm, ea, if_neg c1, k8 _ 9 _ (by omega), k8 _ 10 _ (by omega), k8 _ 11 _ (by omega), k8 _ 12 _ (by omega)]
  simp only [n1]
  refine ⟨_, rfl, ?_, ?_, ?_, ?_, ?_, ?_⟩
  · intro k i h
    rw [upr_ne (by omega), upr_ne (by omega), upr_ne (by omega), upr_ne (by omega), upr_ne (by omega)]
  · rw [upr_eq, upd_s, nI_1]
  · rw [upr_k (by omega), upr_k (by omega), upr_k (by omega), upr_k (by omega), upr_eq]
  · rw [upr_k (by omega), upr_k (by omega), upr_k (by omega), upr_eq, upr_k (by omega)]
  · rw [upr_k (by omega), upr_k (by omega), upr_eq, upr_k (by omega), upr_k (by omega)]
  · rw [upr_k (by omega), upr_eq, upr_k (by omega), upr_k (by omega), upr_k (by omega)]
theorem m_aadd {f : Mem} {a : Nat} {x1 x2 x3 x4 x5 : Int32} (ha : a < 64) (ea : f 1 0 6815 = nI a) : m_X6_addToAir f x1 x2 x3 x4 x5 = some (0, upr f 1 0 (upd (upd (upd (upd (upd (upd (f 1 0) (490 + 5 * a) x1) (491 + 5 * a) x2) (492 + 5 * a) x3) (493 + 5 * a) x4) (494 + 5 * a) x5) 6815 (nI (a + 1)))) := by
  unfold m_X6_addToAir
  have i0 : ((490 : Int32) + (5 : Int32) * nI a) = nI (490 + 5 * a) := by simp only [L490, L5, pk_mul, nI_add]
  have i1 : (nI (490 + 5 * a) + (1 : Int32)) = nI (491 + 5 * a) := by rw [L1, nI_add]; congr 1; omega
  have i2 : (nI (490 + 5 * a) + (2 : Int32)) = nI (492 + 5 * a) := by rw [L2, nI_add]; congr 1; omega
  have i3 : (nI (490 + 5 * a) + (3 : Int32)) = nI (493 + 5 * a) := by rw [L3, nI_add]; congr 1; omega
  have i4 : (nI (490 + 5 * a) + (4 : Int32)) = nI (494 + 5 * a) := by rw [L4, nI_add]; congr 1; omega
  have c0 : ¬ (nI (490 + 5 * a) < 0 ∨ 6819 ≤ (nI (490 + 5 * a)).toNatClampNeg) := ckI (by omega) (by omega)
  have c1 : ¬ (nI (491 + 5 * a) < 0 ∨ 6819 ≤ (nI (491 + 5 * a)).toNatClampNeg) := ckI (by omega) (by omega)
  have c2 : ¬ (nI (492 + 5 * a) < 0 ∨ 6819 ≤ (nI (492 + 5 * a)).toNatClampNeg) := ckI (by omega) (by omega)
  have c3 : ¬ (nI (493 + 5 * a) < 0 ∨ 6819 ≤ (nI (493 + 5 * a)).toNatClampNeg) := ckI (by omega) (by omega)
  have c4 : ¬ (nI (494 + 5 * a) < 0 ∨ 6819 ≤ (nI (494 + 5 * a)).toNatClampNeg) := ckI (by omega) (by omega)
  have n0 : (nI (490 + 5 * a)).toNatClampNeg = 490 + 5 * a := nI_clamp (by omega)
  have n1 : (nI (491 + 5 * a)).toNatClampNeg = 491 + 5 * a := nI_clamp (by omega)
  have n2 : (nI (492 + 5 * a)).toNatClampNeg = 492 + 5 * a := nI_clamp (by omega)
  have n3 : (nI (493 + 5 * a)).toNatClampNeg = 493 + 5 * a := nI_clamp (by omega)
  have n4 : (nI (494 + 5 * a)).toNatClampNeg = 494 + 5 * a := nI_clamp (by omega)
  simp only [ea, i0, i1, i2, i3, i4, if_neg c0, if_neg c1, if_neg c2, if_neg c3, if_neg c4, ltm]
  simp only [n0, n1, n2, n3, n4, upr_eq, upr_upr]
  rw [upd_n (by omega), upd_n (by omega), upd_n (by omega), upd_n (by omega), upd_n (by omega), ea, nI_1]
variable {g0 f0 g f : Mem} {Bk Bt D δ : Nat}
/-- into THE AIR -/
theorem s_aadd (h : RR g0 f0 Bk Bt D δ g f) {x t q c : Nat} (ha : az g < 64) (hx : x < 20) (hq : q < 2000) (h1 : tk g + δ ≤ t) (h2 : t ≤ tk g + 9) (h3 : 1 ≤ c) (h4 : c ≤ 7) (h5 : t + 9 * c ≤ D) : ∃ g' f' : Mem, m_X0_add g (nI x) (nI t) (nI q) (nI c) = some (0, g') ∧ m_X6_addToAir f (nI x) (nI t) (nI (q / 200)) (nI (q % 200 + 1)) (nI c) = some (0, f') ∧ RR g0 f0 Bk Bt D δ g' f' ∧ az g' = az g + 1 ∧ (∀ k : Nat, ¬ (8 ≤ k ∧ k ≤ 12) → g' k = g k) ∧ g' 10 0 = upd (g 10 0) (az g) (nI t) := by
  obtain ⟨ea, -⟩ := h.2.2.a
  have e8 : g 8 0 4 = f 1 0 6815 := h.2.2.s (by unfold Sc; omega) rfl
  have hz := fun (i : Nat) (hi : i < az g) => h.2.2.ae hi
  generalize hA : az g = a at *
  obtain ⟨g', k1, k2, k3, k4, k5, k6, k7⟩ := c_aadd (x1 := nI x) (x2 := nI t) (x3 := nI q) (x4 := nI c) ha ea
  have j1 := m_aadd (f := f) (x1 := nI x) (x2 := nI t) (x3 := nI (q / 200)) (x4 := nI (q % 200 + 1)) (x5 := nI c) ha (by rw [← e8, ea])
  refine ⟨g', _, k1, j1, ⟨fun k hk => ?_, fun k hk => ?_, ?_⟩, ?_, fun k z1 => ?_, k5⟩
  · rw [← h.1 k hk]
    funext i
    exact k2 k i (by omega)
  · rw [upr_k hk]
    exact h.2.1 k hk
  · rw [upr_eq]
    refine h.2.2.air (a := a + 1) (by omega) k2 k3 ?_ upd_s (fun i hi => ?_)
    · intro y z1 z2
      rw [upd_n z1, upd_n (by omega), upd_n (by omega), upd_n (by omega), upd_n (by omega), upd_n (by omega)]
    · by_cases e : i = a
      · subst e
        unfold AE
        rw [k4, k5, k6, k7, upd_s, upd_s, upd_s, upd_s]
        refine ⟨⟨?_, ?_, ⟨q, hq, rfl, ?_, ?_⟩, ?_⟩, ⟨x, hx, rfl⟩, t, c, rfl, rfl, h1, h2, h3, h4, h5⟩
        · rw [upd_n (by omega), upd_n (by omega), upd_n (by omega), upd_n (by omega), upd_n (by omega), upd_s]
        · rw [upd_n (by omega), upd_n (by omega), upd_n (by omega), upd_n (by omega), upd_s]
        · rw [upd_n (by omega), upd_n (by omega), upd_n (by omega), upd_s]
        · rw [upd_n (by omega), upd_n (by omega), upd_s]
        · rw [upd_n (by omega), upd_s]
      · have := hz i (by omega)
        unfold AE at this ⊢
        rw [k4, k5, k6, k7, upd_n e, upd_n e, upd_n e, upd_n e]
        have ho : ∀ y, y < 490 + 5 * a → 490 ≤ y → upd (upd (upd (upd (upd (upd (f 1 0) (490 + 5 * a) (nI x)) (491 + 5 * a) (nI t)) (492 + 5 * a) (nI (q / 200))) (493 + 5 * a) (nI (q % 200 + 1))) (494 + 5 * a) (nI c)) 6815 (nI (a + 1)) y = f 1 0 y := by
          intro y z1 z2
          rw [upd_n (by omega), upd_n (by omega), upd_n (by omega), upd_n (by omega), upd_n (by omega), upd_n (by omega)]
        rw [ho _ (by omega) (by omega), ho _ (by omega) (by omega), ho _ (by omega) (by omega), ho _ (by omega) (by omega), ho _ (by omega) (by omega)]
        exact this
  · unfold az
    rw [k3, nI_clamp (by omega)]
  · funext i
    exact k2 k i (by omega)
theorem c_adrop {g : Mem} {a at_ : Nat} (ha : a ≤ 64) (hat : at_ < a) (ea : g 8 0 4 = nI a) : ∃ g' : Mem, m_X0_dropAt g (nI at_) = some (0, g') ∧ (∀ k i : Nat, ¬ ((8 ≤ k ∧ k ≤ 12) ∧ i = 0) → g' k i = g k i) ∧ g' 8 0 4 = nI (a - 1) ∧ g' 9 0 = sh (g 9 0) at_ (a - 1) 1 ∧ g' 10 0 = sh (g 10 0) at_ (a - 1) 1 ∧ g' 11 0 = sh (g 11 0) at_ (a - 1) 1 ∧ g' 12 0 = sh (g 12 0) at_ (a - 1) 1 := by
  unfold m_X0_dropAt
  rw [if_neg (nI_pos (by omega)), ea, if_pos ((nI_ltI (by omega) (by omega)).mpr hat), show (nI a - (1 : Int32)) = nI (a - 1) from sbI (b := 1) (by omega), show (nI at_ + (1 : Int32)) = nI (at_ + 1) from nI_1 at_]
  have k8 : ∀ (g : Mem) (k : Nat) (r : Nat → Int32), k ≠ 8 → upr g k 0 r 8 = g 8 := fun g k r h => upr_k (Ne.symm h)
  have b1 : (nI (a - 1) - nI at_) = nI (a - 1 - at_) := sbI (by omega)
  have c1 := ckC (sp := at_ + 1) (dp := at_) (n := a - 1 - at_) (N := 64) (by omega) (by omega) (by omega)
  have n1 : (nI at_).toNatClampNeg = at_ := nI_clamp (by omega)
  have n2 : (nI (at_ + 1)).toNatClampNeg = at_ + 1 := nI_clamp (by omega)
  have n3 : (nI (a - 1 - at_)).toNatClampNeg = a - 1 - at_ := nI_clamp (by omega)
  simp only [ltm, upr_eq, upd_s, b1, if_neg c1]
  simp only [n1, n2, n3, cpy_sh, show at_ + (a - 1 - at_) = a - 1 by omega]
  refine ⟨_, rfl, ?_, ?_, ?_, ?_, ?_, ?_⟩
  · intro k i h
    rw [upr_ne (by omega), upr_ne (by omega), upr_ne (by omega), upr_ne (by omega), upr_ne (by omega)]
  · rw [upr_k (by omega), upr_k (by omega), upr_k (by omega), upr_k (by omega), upr_eq, upd_s]
  · rw [upr_k (by omega), upr_k (by omega), upr_k (by omega), upr_eq, upr_k (by omega)]
  · rw [upr_k (by omega), upr_k (by omega), upr_eq, upr_k (by omega), upr_k (by omega)]
  · rw [upr_k (by omega), upr_eq, upr_k (by omega), upr_k (by omega), upr_k (by omega)]
  · rw [upr_eq, upr_k (by omega), upr_k (by omega), upr_k (by omega), upr_k (by omega)]
theorem m_rfa {F : Nat} : ∀ (n k x b : Nat) (f : Mem), x + n = 5 * b → b < 64 → n < k → f 1 0 6815 = nI b → lp_X6_removeFromAir_16 F k f (nI x) = some (0, upr f 1 0 (sh (f 1 0) (490 + x) (490 + 5 * b) 5)) := by
  intro n
  induction n with
  | zero =>
    intro k x b f h1 h2 h3 h4
    obtain ⟨k, rfl⟩ : ∃ z, k = z + 1 := ⟨k - 1, by omega⟩
    show st_X6_removeFromAir_16 F (lp_X6_removeFromAir_16 F k) f (nI x) = _
    unfold st_X6_removeFromAir_16
    rw [h4, L5, pk_mul, if_pos ((nI_leI (by omega) (by omega)).mpr (by omega)), sh_0 (by omega), upr_id]
  | succ n ih =>
    intro k x b f h1 h2 h3 h4
    obtain ⟨k, rfl⟩ : ∃ z, k = z + 1 := ⟨k - 1, by omega⟩
    show st_X6_removeFromAir_16 F (lp_X6_removeFromAir_16 F k) f (nI x) = _
    unfold st_X6_removeFromAir_16
    rw [h4, L5, pk_mul, if_neg (fun z => by have := (nI_leI (by omega) (by omega)).mp z; omega), show ((490 : Int32) + nI x) = nI (490 + x) from nI_add 490 x, nI_add, if_neg (ckI (show 490 + x + 5 < 6819 by omega) (by omega)), if_neg (ckI (show 490 + x < 6819 by omega) (by omega)), nI_clamp (show 490 + x < 2 ^ 31 by omega), nI_clamp (show 490 + x + 5 < 2 ^ 31 by omega), nI_1]
    simp only [ltm]
    rw [ih k (x + 1) b _ (by omega) h2 (by omega) (by rw [upr_eq, upd_n (by omega), h4]), upr_eq, upr_upr, show 490 + (x + 1) = 490 + x + 1 by omega, sh_s (by omega) (by omega)]
/-- out of THE AIR -/
theorem s_adrop (h : RR g0 f0 Bk Bt D δ g f) {at_ F : Nat} (hat : at_ < az g) (hF : 400 ≤ F) : ∃ g' f' : Mem, m_X0_dropAt g (nI at_) = some (0, g') ∧ m_X6_removeFromAir F f (nI at_) = some (0, f') ∧ RR g0 f0 Bk Bt D δ g' f' ∧ az g' = az g - 1 ∧ (∀ k : Nat, ¬ (8 ≤ k ∧ k ≤ 12) → g' k = g k) ∧ g' 10 0 = sh (g 10 0) at_ (az g - 1) 1 := by
  obtain ⟨ea, hz64⟩ := h.2.2.a
  have e8 : g 8 0 4 = f 1 0 6815 := h.2.2.s (by unfold Sc; omega) rfl
  have hz := fun (i : Nat) (hi : i < az g) => h.2.2.ae hi
  generalize hA : az g = a at *
  obtain ⟨g', k1, k2, k3, k4, k5, k6, k7⟩ := c_adrop hz64 hat ea
  have j1 : m_X6_removeFromAir F f (nI at_) = some (0, upr f 1 0 (sh (upd (f 1 0) 6815 (nI (a - 1))) (490 + 5 * at_) (490 + 5 * (a - 1)) 5)) := by
    unfold m_X6_removeFromAir
    rw [← e8, ea, show (nI a - (1 : Int32)) = nI (a - 1) from sbI (b := 1) (by omega), L5, pk_mul]
    simp only [ltm]
    rw [m_rfa (5 * (a - 1) - 5 * at_) F (5 * at_) (a - 1) _ (by omega) (by omega) (by omega) (by rw [upr_eq, upd_s]), upr_eq, upr_upr]
  refine ⟨g', _, k1, j1, ⟨fun k hk => ?_, fun k hk => ?_, ?_⟩, ?_, fun k z1 => ?_, k5⟩
  · rw [← h.1 k hk]
    funext i
    exact k2 k i (by omega)
  · rw [upr_k hk]
    exact h.2.1 k hk
  · rw [upr_eq]
    refine h.2.2.air (a := a - 1) (by omega) k2 k3 ?_ ?_ (fun i hi => ?_)
    · intro y z1 z2
      rw [sh_out (by omega), upd_n z1]
    · rw [sh_out (by omega), upd_s]
    · by_cases e : i < at_
      · have := hz i (by omega)
        unfold AE at this ⊢
        rw [k4, k5, k6, k7, sh_out (by omega), sh_out (by omega), sh_out (by omega), sh_out (by omega), sh_out (by omega), sh_out (by omega), sh_out (by omega), sh_out (by omega), sh_out (by omega), upd_n (by omega), upd_n (by omega), upd_n (by omega), upd_n (by omega), upd_n (by omega)]
        exact this
      · have := hz (i + 1) (by omega)
        unfold AE at this ⊢
        rw [k4, k5, k6, k7, sh_in (by omega) (by omega), sh_in (by omega) (by omega), sh_in (by omega) (by omega), sh_in (by omega) (by omega), sh_in (by omega) (by omega), sh_in (by omega) (by omega), sh_in (by omega) (by omega), sh_in (by omega) (by omega), sh_in (by omega) (by omega), upd_n (by omega), upd_n (by omega), upd_n (by omega), upd_n (by omega), upd_n (by omega)]
        rw [show 490 + 5 * i + 5 = 490 + 5 * (i + 1) by omega, show 491 + 5 * i + 5 = 491 + 5 * (i + 1) by omega, show 492 + 5 * i + 5 = 492 + 5 * (i + 1) by omega, show 493 + 5 * i + 5 = 493 + 5 * (i + 1) by omega, show 494 + 5 * i + 5 = 494 + 5 * (i + 1) by omega]
        exact this
  · unfold az
    rw [k3, nI_clamp (by omega)]
  · funext i
    exact k2 k i (by omega)
end AIR
