section PUB4
variable {g0 f0 g f : Mem} {B Bk Bt D δ Bk' : Nat}
theorem pp_set (h : RP g0 f0 B g f) {F : Nat} (hF : 40 ≤ F) (a b c : Int32) : PS g0 f0 B (m_X5_set F g a b c) (m_X6_set F f a b c) := by
  unfold m_X5_set m_X6_set
  simp only [p_lamp, p_lamp6, p_btw, p_in, Option.bind_some, ltm]
  by_cases z : btw a 0 9 = 0
  · simp only [if_pos z]
    exact PS.rd h rfl rfl
  · simp only [if_neg z]
    by_cases z2 : btw b 0 3 = 0
    · simp only [if_pos z2]
      exact PS.rd h rfl rfl
    · simp only [if_neg z2]
      obtain ⟨l, hl, rfl⟩ := btw_l z
      obtain ⟨w, -, hw, rfl⟩ := btw_n (m := 0) (n := 3) rfl rfl (by omega) (by omega) z2
      have cw : ¬ (nI w < 0 ∨ 4 ≤ (nI w).toNatClampNeg) := ckI (by omega) (by omega)
      have cl : ¬ (nI l < 0 ∨ 10 ≤ (nI l).toNatClampNeg) := ckI (by omega) (by omega)
      have nw : (nI w).toNatClampNeg = w := nI_clamp (by omega)
      have nl : (nI l).toNatClampNeg = l := nI_clamp (by omega)
      have i1 : (((10 : Int32) + (10 : Int32) * nI w) + nI l) = nI (10 + 10 * w + l) := by simp only [L10, pk_mul, nI_add]
      have c1 : ¬ (nI (10 + 10 * w + l) < 0 ∨ 6819 ≤ (nI (10 + 10 * w + l)).toNatClampNeg) := ckI (by omega) (by omega)
      have n1 : (nI (10 + 10 * w + l)).toNatClampNeg = 10 + 10 * w + l := nI_clamp (by omega)
      have e := h.2.2.s (k := 14) (i := l) (x := w) (a := 10 + 10 * w + l) (by unfold Sc; omega) rfl
      simp only [if_neg cw, if_neg cl, i1, if_neg c1]
      simp only [nw, nl, n1]
      have key : ∀ lo hi : Nat, (w = 0 → 1 ≤ lo ∧ hi ≤ 9) → (w = 2 → hi ≤ 8) → hi < 100 → PS g0 f0 B (if btw c (nI lo) (nI hi) = 0 then some ((-2 : Int32), g) else (m_X3_dropOldestm F l (upr g 14 l (upd (g 14 l) w c)) (upr g 14 l (upd (g 14 l) w c) 14 l 2)).bind (fun (r19, g20) => some (g 14 l w, g20))) (if btw c (nI lo) (nI hi) = 0 then some ((-2 : Int32), f) else (m_X6_forget F (upr f 1 0 (upd (f 1 0) (10 + 10 * w + l) c)) (nI l)).bind (fun (r20, g21) => some (f 1 0 (10 + 10 * w + l), g21))) := by
        intro lo hi q1 q2 q3
        by_cases z3 : btw c (nI lo) (nI hi) = 0
        · simp only [if_pos z3]
          exact PS.rd h rfl rfl
        · simp only [if_neg z3]
          by_cases q4 : lo < 100
          · obtain ⟨v, v1, v2, rfl⟩ := btw_n (m := lo) (n := hi) rfl rfl (by omega) (by omega) z3
            obtain ⟨g', f', k1, k2, k3⟩ := s_set h (l := l) (w := w) (v := v) (F := F) hl hF (by omega) (fun y => by have := q1 y; omega) (fun y => by have := q2 y; omega)
            refine ⟨g 14 l w, g', f', ?_, ?_, RP.of k1 (by omega) (by omega)⟩
            · rw [k2]
              rfl
            · rw [k3, e]
              rfl
          · exfalso
            sorry
      sorry
end PUB4
